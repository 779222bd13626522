/-! PURE: the abstract state A, how the class's cells hold it (InvC), how the reference's do (InvM) -/
/-- a table: field, place -/
abbrev a_T : Type := Nat → Nat → Int32
/-- a ship: voyages, claims, table (1 begins, 2 ends, 3 kinds, 4 holders, 5 days, 6 amounts, 7 leave, 8 cargoes, 9 asked, 10 sums, 11 owners) -/
abbrev a_S : Type := Nat × Nat × a_T
/-- ship, kept (0, 1), images, text, fault, laws (a law's table: 0 rides, 1 side, 2 dies, 3 leave, 4 rank, 5 goes at 8a+b, 6 rules: later, within, sale, costs, aheads, 7 ring at 0) -/
abbrev a_A : Type := a_S × (Nat → Int32) × (Nat → a_S) × List Int32 × Int32 × (Nat → a_T)
/-- a bit of a set -/
def p_bit (x : Int32) (k : Nat) : Int32 := (x >>> (nI k &&& 31)) &&& 1
def w_ship (s : a_S) : Prop := s.1 ≤ 6 ∧ s.2.1 ≤ 14 ∧ (∀ k, k < s.1 → p_in (s.2.2 1 k) 0 999 ∧ p_in (s.2.2 2 k) 0 999) ∧
  (∀ k, k < s.2.1 → p_in (s.2.2 3 k) 0 7 ∧ p_in (s.2.2 4 k) 0 5 ∧ p_in (s.2.2 5 k) 0 999 ∧ p_in (s.2.2 6 k) 0 999 ∧ (s.2.2 7 k = 0 ∨ s.2.2 7 k = 1) ∧ p_in (s.2.2 8 k) 0 7 ∧ p_in (s.2.2 9 k) (-1) 999) ∧
  (∀ k, k < 5 → p_in (s.2.2 10 k) 0 9999) ∧ (∀ k, k < 3 → p_in (s.2.2 11 k) 0 5)
def c_ship (μ : z_M) (o : Nat) (s : a_S) : Prop := μ.1 o 0 = nI s.1 ∧ μ.1 o 1 = nI s.2.1 ∧ (∀ k, k < s.1 → μ.1 (o + 1) k = s.2.2 1 k ∧ μ.1 (o + 2) k = s.2.2 2 k) ∧
  (∀ k, k < s.2.1 → μ.1 (o + 3) k = s.2.2 3 k ∧ μ.1 (o + 4) k = s.2.2 4 k ∧ μ.1 (o + 5) k = s.2.2 5 k ∧ μ.1 (o + 6) k = s.2.2 6 k ∧ p_bit (μ.1 o 2) k = s.2.2 7 k ∧ μ.1 (o + 7) k = s.2.2 8 k ∧ μ.1 (o + 8) k = s.2.2 9 k) ∧
  (∀ k, k < 5 → μ.1 (o + 9) k = s.2.2 10 k) ∧ (∀ k, k < 3 → μ.1 (o + 10) k = s.2.2 11 k)
def m_ship (μ : z_M) (s : a_S) : Prop := μ.1 98 24 = nI s.1 ∧ μ.1 98 27 = nI s.2.1 ∧ (∀ k, k < s.1 → μ.1 114 k = s.2.2 1 k ∧ μ.1 115 k = s.2.2 2 k) ∧
  (∀ k, k < s.2.1 → μ.1 116 k = s.2.2 3 k ∧ μ.1 117 k = s.2.2 4 k ∧ μ.1 118 k = s.2.2 5 k ∧ μ.1 119 k = s.2.2 6 k ∧ μ.1 120 k = s.2.2 7 k ∧ μ.1 121 k = s.2.2 8 k ∧ μ.1 122 k = s.2.2 9 k) ∧
  (∀ k, k < 5 → μ.1 124 k = s.2.2 10 k) ∧ (∀ k, k < 3 → μ.1 125 k = s.2.2 11 k)
/-- an image of the reference: its rows in cell 134 from 150 i on -/
def m_img (μ : z_M) (b : Nat) (s : a_S) : Prop := μ.1 134 b = nI s.1 ∧ μ.1 134 (b + 1) = nI s.2.1 ∧ (∀ k, k < s.1 → μ.1 134 (b + 2 + k) = s.2.2 1 k ∧ μ.1 134 (b + 8 + k) = s.2.2 2 k) ∧
  (∀ k, k < s.2.1 → μ.1 134 (b + 14 + k) = s.2.2 3 k ∧ μ.1 134 (b + 28 + k) = s.2.2 4 k ∧ μ.1 134 (b + 42 + k) = s.2.2 5 k ∧ μ.1 134 (b + 56 + k) = s.2.2 6 k ∧ μ.1 134 (b + 70 + k) = s.2.2 7 k ∧ μ.1 134 (b + 84 + k) = s.2.2 8 k ∧ μ.1 134 (b + 98 + k) = s.2.2 9 k) ∧
  (∀ k, k < 5 → μ.1 134 (b + 112 + k) = s.2.2 10 k) ∧ (∀ k, k < 3 → μ.1 134 (b + 117 + k) = s.2.2 11 k)
/-- who is alike to another one, by goes -/
def a_ring (g : Nat → Int32) : Int32 := (List.range 8).foldl (fun s a => (List.range 8).foldl (fun s b => s ||| (if a ≠ b ∧ g (8 * a + b) = 1 ∧ g (8 * b + a) = 1 then nI (2 ^ a) else 0)) s) 0
def w_law (l : a_T) : Prop := (∀ k, k < 8 → p_in (l 0 k) 1 7 ∧ p_in (l 1 k) (-1) 1 ∧ p_in (l 2 k) 0 999 ∧ (l 3 k = 0 ∨ l 3 k = 1) ∧ p_in (l 4 k) 0 7) ∧ (∀ k, k < 64 → l 5 k = 0 ∨ l 5 k = 1) ∧ (l 6 0 = 0 ∨ l 6 0 = 1) ∧ p_in (l 6 1) 0 2 ∧ (l 6 2 = 0 ∨ l 6 2 = 1) ∧ p_in (l 6 3) 0 999 ∧ p_in (l 6 4) 0 12 ∧ l 7 0 = a_ring (l 5)
def c_law (μ : z_M) (o : Nat) (l : a_T) : Prop := (∀ k, k < 8 → μ.1 (o + 1) k = l 0 k ∧ p_bit (μ.1 o 4) k - p_bit (μ.1 o 5) k = l 1 k ∧ μ.1 (o + 2) k = l 2 k ∧ p_bit (μ.1 o 6) k = l 3 k ∧ μ.1 (o + 4) k = l 4 k) ∧ (∀ a b, a < 8 → b < 8 → p_bit (μ.1 (o + 3) a) b = l 5 (8 * a + b)) ∧ μ.1 o 11 = l 6 0 ∧ μ.1 o 9 = l 6 1 ∧ μ.1 o 12 = l 6 2 ∧ μ.1 o 10 = l 6 3 ∧ μ.1 o 8 = l 6 4 ∧ μ.1 o 7 = l 7 0
def m_law (μ : z_M) (n : Nat) (l : a_T) : Prop := (∀ k, k < 8 → μ.1 99 (8 * n + k) = l 0 k ∧ μ.1 100 (8 * n + k) = l 1 k ∧ μ.1 101 (8 * n + k) = l 2 k ∧ μ.1 102 (8 * n + k) = l 3 k ∧ μ.1 113 (8 * n + k) = l 4 k) ∧ (∀ k, k < 64 → μ.1 103 (64 * n + k) = l 5 k) ∧ (∀ k, k < 5 → μ.1 104 (5 * n + k) = l 6 k)
/-- what both sides share: bounds -/
def w_A (A : a_A) : Prop := w_ship A.1 ∧ (∀ i, i < 2 → (A.2.1 i = 0 ∨ A.2.1 i = 1) ∧ w_ship (A.2.2.1 i)) ∧ A.2.2.2.1.length ≤ 240 ∧ (∀ x ∈ A.2.2.2.1, p_in x 0 255) ∧ ∀ n, n < 4 → w_law (A.2.2.2.2.2 n)
/-- the text in cells -/
def x_text (f : Nat → Int32) (t : List Int32) : Prop := ∀ k, k < t.length → f k = t.getD k 0
/-- where the laws stand: the lands' (0 to 3), the draft (4) -/
def c_laws (μ : z_M) (L : Nat → a_T) : Prop := ∃ lp : Nat → Nat, (∀ i, i < 5 → lp i ∈ z_LAWS) ∧ (∀ i j, i < 5 → j < 5 → lp i = lp j → i = j) ∧ (∀ n, n < 4 → μ.2.2 1 n = some (lp n) ∧ c_law μ (lp n) (L n)) ∧ μ.2.2 0 9 = some (lp 4)
def c_rest (μ : z_M) : Prop := z_ok z_SH μ.2.2 ∧ (∀ i, i < 2 → μ.2.2 26 i = some (76 + 11 * i)) ∧ (∀ i, i < 6 → μ.2.2 39 i = some (40 + i)) ∧ (∀ k, k < 14 → μ.1 40 k = 0) ∧ μ.1 46 0 = 0
def InvC (A : a_A) (μ : z_M) : Prop := c_ship μ 4 A.1 ∧ (∀ i, i < 2 → μ.1 27 i = A.2.1 i ∧ (A.2.1 i = 1 → c_ship μ (76 + 11 * i) (A.2.2.1 i))) ∧ μ.1 2 1 = nI A.2.2.2.1.length ∧ x_text (μ.1 3) A.2.2.2.1 ∧ μ.1 2 3 = A.2.2.2.2.1 ∧ c_laws μ A.2.2.2.2.2 ∧ c_rest μ
def InvM (A : a_A) (μ : z_M) : Prop := m_ship μ A.1 ∧ (∀ k, k < 15 → μ.1 123 k = 0) ∧ (∀ i, i < 2 → μ.1 135 i = A.2.1 i ∧ (A.2.1 i = 1 → m_img μ (150 * i) (A.2.2.1 i))) ∧ μ.1 98 13 = nI A.2.2.2.1.length ∧ x_text (μ.1 111) A.2.2.2.1 ∧ μ.1 98 14 = A.2.2.2.2.1 ∧ ∀ n, n < 4 → m_law μ n (A.2.2.2.2.2 n)
def Inv0 (μ : z_M) : Prop := ∃ A : a_A, w_A A ∧ InvC A μ ∧ InvM A μ
/-- the other side's cells stay -/
def z_hi (μ μ' : z_M) : Prop := ∀ i, 98 ≤ i → μ'.1 i = μ.1 i
def z_lo (μ μ' : z_M) : Prop := (∀ i, i < 98 → μ'.1 i = μ.1 i) ∧ μ'.2.2 = μ.2.2
theorem z_LAWS_lt : ∀ o ∈ z_LAWS, o + 4 < 98 := by decide
theorem InvM.hi {A : a_A} {μ μ' : z_M} (h : InvM A μ) (hh : z_hi μ μ') : InvM A μ' := by
  have e98 := hh 98 (by decide); have e99 := hh 99 (by decide); have e100 := hh 100 (by decide); have e101 := hh 101 (by decide); have e102 := hh 102 (by decide); have e103 := hh 103 (by decide); have e104 := hh 104 (by decide); have e111 := hh 111 (by decide); have e113 := hh 113 (by decide); have e114 := hh 114 (by decide); have e115 := hh 115 (by decide); have e116 := hh 116 (by decide); have e117 := hh 117 (by decide); have e118 := hh 118 (by decide); have e119 := hh 119 (by decide); have e120 := hh 120 (by decide); have e121 := hh 121 (by decide); have e122 := hh 122 (by decide); have e123 := hh 123 (by decide); have e124 := hh 124 (by decide); have e125 := hh 125 (by decide); have e134 := hh 134 (by decide); have e135 := hh 135 (by decide)
  unfold InvM m_ship m_img m_law at h ⊢
  simp only [e98, e99, e100, e101, e102, e103, e104, e111, e113, e114, e115, e116, e117, e118, e119, e120, e121, e122, e123, e124, e125, e134, e135]
  exact h
theorem c_ship.lo {o : Nat} {s : a_S} {μ μ' : z_M} (h : c_ship μ o s) (ho : o + 10 < 98) (hh : ∀ i, i < 98 → μ'.1 i = μ.1 i) : c_ship μ' o s := by
  unfold c_ship at h ⊢
  simp only [hh o (by omega), hh (o + 1) (by omega), hh (o + 2) (by omega), hh (o + 3) (by omega), hh (o + 4) (by omega), hh (o + 5) (by omega), hh (o + 6) (by omega), hh (o + 7) (by omega), hh (o + 8) (by omega), hh (o + 9) (by omega), hh (o + 10) (by omega)]
  exact h
theorem c_law.lo {o : Nat} {l : a_T} {μ μ' : z_M} (h : c_law μ o l) (ho : o + 4 < 98) (hh : ∀ i, i < 98 → μ'.1 i = μ.1 i) : c_law μ' o l := by
  unfold c_law at h ⊢
  simp only [hh o (by omega), hh (o + 1) (by omega), hh (o + 2) (by omega), hh (o + 3) (by omega), hh (o + 4) (by omega)]
  exact h
theorem InvC.lo {A : a_A} {μ μ' : z_M} (h : InvC A μ) (hh : z_lo μ μ') : InvC A μ' := by
  obtain ⟨h1, h2, h3, h4, h5, ⟨lp, l1, l2, l3, l4⟩, h7⟩ := h
  obtain ⟨g1, g2⟩ := hh
  refine ⟨h1.lo (by decide) g1, fun i hi => ⟨by rw [g1 27 (by decide)]; exact (h2 i hi).1, fun q => ((h2 i hi).2 q).lo (by omega) g1⟩, by rw [g1 2 (by decide)]; exact h3, by rw [g1 3 (by decide)]; exact h4, by rw [g1 2 (by decide)]; exact h5, ⟨lp, l1, l2, fun n hn => ⟨by rw [g2]; exact (l3 n hn).1, ((l3 n hn).2).lo (z_LAWS_lt _ (l1 n (by omega))) g1⟩, by rw [g2]; exact l4⟩, ?_⟩
  obtain ⟨r1, r2, r3, r4, r5⟩ := h7
  exact ⟨by rw [g2]; exact r1, by rw [g2]; exact r2, by rw [g2]; exact r3, by rw [g1 40 (by decide)]; exact r4, by rw [g1 46 (by decide)]; exact r5⟩
theorem InvC.ok {A : a_A} {μ : z_M} (h : InvC A μ) : z_ok z_SH μ.2.2 := h.2.2.2.2.2.2.1
/-- a step of both sides out of a step of each -/
theorem p_step {μ : z_M} {f g : z_M → Option (Int32 × z_M)} {A A' : a_A} {r : Int32} (hC : InvC A μ) (hM : InvM A μ) (hw : w_A A') (h4 : ∃ μ1, f μ = some (r, μ1) ∧ InvC A' μ1 ∧ z_hi μ μ1) (h5 : ∀ ν, InvM A ν → ∃ μ2, g ν = some (r, μ2) ∧ InvM A' μ2 ∧ z_lo ν μ2) : ∃ (r : Int32) (μ1 μ2 : z_M), f μ = some (r, μ1) ∧ z_ok z_SH μ1.2.2 ∧ g μ1 = some (r, μ2) ∧ Inv0 μ2 := by
  obtain ⟨μ1, e1, c1, hi1⟩ := h4
  obtain ⟨μ2, e2, m2, lo2⟩ := h5 μ1 (hM.hi hi1)
  exact ⟨r, μ1, μ2, e1, c1.ok, e2, A', hw, c1.lo lo2, m2⟩
theorem z_hi.rf (μ : z_M) : z_hi μ μ := fun _ _ => rfl
theorem z_lo.rf (μ : z_M) : z_lo μ μ := ⟨fun _ _ => rfl, rfl⟩
/-- both only look -/
theorem p_look {μ : z_M} {f g : z_M → Option (Int32 × z_M)} {A : a_A} {r : Int32} (hw : w_A A) (hC : InvC A μ) (hM : InvM A μ) (h4 : f μ = some (r, μ)) (h5 : ∀ ν, InvM A ν → g ν = some (r, ν)) : ∃ (r : Int32) (μ1 μ2 : z_M), f μ = some (r, μ1) ∧ z_ok z_SH μ1.2.2 ∧ g μ1 = some (r, μ2) ∧ Inv0 μ2 :=
  p_step hC hM hw ⟨μ, h4, hC, z_hi.rf μ⟩ (fun ν hν => ⟨ν, h5 ν hν, hν, z_lo.rf ν⟩)
theorem s_2 : zs_2 Inv0 := by
  rintro μ ⟨A, hw, hC, hM⟩
  refine p_look hw hC hM (r := A.2.2.2.2.1) ?_ (fun ν hν => ?_)
  · unfold f_X4_fault
    rw [hC.2.2.2.2.1]
  · unfold f_X5_fault
    rw [hν.2.2.2.2.2.1]
