/-! PURE: lives, last -/
theorem nI_mul (a b : Nat) : nI a * nI b = nI (a * b) := (Int32.ofNat_mul a b).symm
theorem p_ix (a n k : Nat) : nI a * nI n + nI k = nI (a * n + k) := by rw [nI_mul, nI_add]
theorem p_le {x y : Int32} : x ≤ y ↔ x.toInt ≤ y.toInt := Int32.le_iff_toInt_le
theorem p_lt {x y : Int32} : x < y ↔ x.toInt < y.toInt := Int32.lt_iff_toInt_lt
theorem p_eq {x y : Int32} : x = y ↔ x.toInt = y.toInt := Int32.toInt_inj.symm
theorem p_addI {x y : Int32} (h1 : -2147483648 ≤ x.toInt + y.toInt) (h2 : x.toInt + y.toInt < 2147483648) : (x + y).toInt = x.toInt + y.toInt := by
  rw [Int32.toInt_add]
  exact Int.bmod_eq_of_le (by simpa using h1) (by simpa using h2)
theorem p_subI {x y : Int32} (h1 : -2147483648 ≤ x.toInt - y.toInt) (h2 : x.toInt - y.toInt < 2147483648) : (x - y).toInt = x.toInt - y.toInt := by
  rw [Int32.toInt_sub]
  exact Int.bmod_eq_of_le (by simpa using h1) (by simpa using h2)
theorem p_mulI {x y : Int32} (h1 : -2147483648 ≤ x.toInt * y.toInt) (h2 : x.toInt * y.toInt < 2147483648) : (x * y).toInt = x.toInt * y.toInt := by
  rw [Int32.toInt_mul]
  exact Int.bmod_eq_of_le (by simpa using h1) (by simpa using h2)
theorem p_z0 : (0 : Int32).toInt = 0 := rfl
theorem p_z1 : (1 : Int32).toInt = 1 := by decide
theorem p_zm1 : (-1 : Int32).toInt = -1 := by decide
theorem p_z999 : (999 : Int32).toInt = 999 := by decide
/-- the kind's number -/
def a_k (s : a_S) (c : Nat) : Nat := (s.2.2 3 c).toNatClampNeg
theorem a_k_lt {s : a_S} (hw : w_ship s) {c : Nat} (hc : c < s.2.1) : s.2.2 3 c = nI (a_k s c) ∧ a_k s c < 8 := by
  have h := (hw.2.2.2.1 c hc).1
  have q := p_cl h
  refine ⟨q.1, ?_⟩
  have := q.2
  have := h.2
  unfold a_k
  omega
abbrev a_unbP (l : a_T) (s : a_S) (d : Int32) (c : Nat) : Prop := l 2 (a_k s c) ≤ 0 ∨ d ≤ s.2.2 5 c + l 2 (a_k s c) ∨ (¬ s.2.2 9 c < 0 ∧ s.2.2 9 c ≤ s.2.2 5 c + l 2 (a_k s c))
abbrev a_lack (l : a_T) (s : a_S) (c : Nat) : Prop := l 3 (a_k s c) = 1 ∧ s.2.2 7 c = 0
def a_why (l : a_T) (s : a_S) (d : Int32) (c : Nat) : Int32 := if s.2.2 5 c ≤ d then (if a_unbP l s d c then (if l 6 2 = 1 ∧ (s.2.2 9 c < 0 ∨ ¬ s.2.2 9 c ≤ d) then 3 else if a_lack l s c then 4 else 0) else 2) else 1
theorem w_aux1 {α β : Type} {D A1 A2 A3 A4 : Prop} [Decidable D] [Decidable A1] [Decidable A2] [Decidable A3] [Decidable A4] {K : Option (β × α)} {k e1 e2 : β} {m : α} (hK : K = some (k, m)) : (if D then (if A1 then K else (if A2 then K else (if A3 then some (e2, m) else (if A4 then K else some (e2, m))))) else some (e1, m)) = some (if D then (if A1 ∨ A2 ∨ (¬ A3 ∧ A4) then k else e2) else e1, m) := by
  subst hK
  by_cases h1 : D <;> by_cases h2 : A1 <;> by_cases h3 : A2 <;> by_cases h4 : A3 <;> by_cases h5 : A4 <;> simp [h1, h2, h3, h4, h5]
theorem w_aux2 {α β : Type} {B1 B2 B3 : Prop} [Decidable B1] [Decidable B2] [Decidable B3] {K : Option (β × α)} {k e3 : β} {m : α} (hK : K = some (k, m)) : (if B1 then (if B2 then some (e3, m) else (if B3 then K else some (e3, m))) else K) = some (if B1 ∧ (B2 ∨ ¬ B3) then e3 else k, m) := by
  subst hK
  by_cases h1 : B1 <;> by_cases h2 : B2 <;> by_cases h3 : B3 <;> simp [h1, h2, h3]
theorem p_why5 {ν : z_M} {s : a_S} {l : a_T} {n c : Nat} (hs : w_ship s) (hl : w_law l) (ms : m_ship ν s) (ml : m_law ν n l) (hn : n < 4) (hc : c < s.2.1) (d : Int32) : f_X5_why (nI n) d (nI c) ν = some (a_why l s d c, ν) := by
  have h14 : s.2.1 ≤ 14 := hs.2.1
  obtain ⟨ek, hk⟩ := a_k_lt hs hc
  obtain ⟨m1, m2, m3, m4, m5, m6, m7⟩ := ms.2.2.2.1 c hc
  obtain ⟨l1, l2, l3, l4, l5⟩ := ml.1 (a_k s c) hk
  have l6 := ml.2.2 2 (by decide)
  have hz : z_in (nI c) 15 := p_zn (by omega) (by decide)
  have hx : z_in (nI (8 * n + a_k s c)) 32 := p_zn (by omega) (by decide)
  have h5 : z_in (nI (5 * n + 2)) 20 := p_zn (by omega) (by decide)
  have e8 : (8 : Int32) * nI n + nI (a_k s c) = nI (8 * n + a_k s c) := p_ix 8 n _
  have e5 : (5 : Int32) * nI n + 2 = nI (5 * n + 2) := p_ix 5 n 2
  have hlv := (hl.1 (a_k s c) hk).2.2.2.1
  unfold f_X5_why g_X5_why_79 g_X5_why_114
  simp only [nI_clamp (show c < 2 ^ 31 by omega), m1, ek, e8, e5, z_lt, if_pos hz, if_pos hx, if_pos h5, nI_clamp (show 8 * n + a_k s c < 2 ^ 31 by omega), nI_clamp (show 5 * n + 2 < 2 ^ 31 by omega), m3, m7, l3, l4, l6, m5]
  refine w_aux1 (w_aux2 ?_)
  unfold a_lack
  rcases hlv with e | e <;> rw [e]
  · rw [if_pos (fun h => absurd rfl h), if_pos rfl, if_neg (fun h => absurd h.1 (by decide))]
  · rw [if_pos (fun _ => hz), if_neg (by decide)]
    by_cases h7 : s.2.2 7 c = 0
    · rw [if_pos h7, if_pos ⟨rfl, h7⟩]
    · rw [if_neg h7, if_neg (fun h => h7 h.2)]
def a_unb (l : a_T) (s : a_S) (c : Nat) : Int32 := if l 2 (a_k s c) = 0 then 999 else if s.2.2 9 c = -1 ∨ s.2.2 5 c + l 2 (a_k s c) < s.2.2 9 c then (if s.2.2 5 c + l 2 (a_k s c) < 999 then s.2.2 5 c + l 2 (a_k s c) else 999) else 999
theorem p_unb {μ : z_M} {o o1 : Nat} {s : a_S} {l : a_T} {c : Nat} (hs : w_ship s) (cs : c_ship μ o s) (cl : c_law μ o1 l) (hc : c < s.2.1) : f_X3_lastUnbarred o o1 (nI c) μ = some (a_unb l s c, μ) := by
  have h14 : s.2.1 ≤ 14 := hs.2.1
  obtain ⟨ek, hk⟩ := a_k_lt hs hc
  obtain ⟨m1, m2, m3, m4, m5, m6, m7⟩ := cs.2.2.2.1 c hc
  obtain ⟨l1, l2, l3, l4, l5⟩ := cl.1 (a_k s c) hk
  have hz : z_in (nI c) 14 := p_zn (by omega) (by decide)
  have hx : z_in (nI (a_k s c)) 8 := p_zn (by omega) (by decide)
  unfold f_X3_lastUnbarred a_unb
  simp only [nI_clamp (show c < 2 ^ 31 by omega), m1, ek, z_lt, if_pos hz, if_pos hx, nI_clamp (show a_k s c < 2 ^ 31 by omega), m3, m7, l3]
  rw [if_pos (fun _ => hz)]
  by_cases h1 : l 2 (a_k s c) = 0
  · rw [if_pos h1, if_pos h1]
  · rw [if_neg h1, if_neg h1]
    by_cases h2 : s.2.2 9 c = -1
    · rw [if_pos h2, if_pos rfl, if_pos (Or.inl h2)]
    · rw [if_neg h2]
      by_cases h3 : s.2.2 5 c + l 2 (a_k s c) < s.2.2 9 c
      · rw [if_pos h3, if_pos rfl, if_pos (Or.inr h3)]
      · rw [if_neg h3, if_neg (by decide), if_neg (fun h => h.elim h2 h3)]
theorem a_unb_iff {s : a_S} {l : a_T} {c : Nat} (hs : w_ship s) (hl : w_law l) (hc : c < s.2.1) {d : Int32} (hd : d.toInt ≤ 999) : d ≤ a_unb l s c ↔ a_unbP l s d c := by
  obtain ⟨ek, hk⟩ := a_k_lt hs hc
  have w5 := (hs.2.2.2.1 c hc).2.2.1
  have w9 := (hs.2.2.2.1 c hc).2.2.2.2.2.2
  have w2 := (hl.1 _ hk).2.2.1
  have hadd : (s.2.2 5 c + l 2 (a_k s c)).toInt = (s.2.2 5 c).toInt + (l 2 (a_k s c)).toInt := p_addI (by have := w5.1; have := w2.1; omega) (by have := w5.2; have := w2.2; omega)
  obtain ⟨w51, w52⟩ := w5
  obtain ⟨w91, w92⟩ := w9
  obtain ⟨w21, w22⟩ := w2
  unfold a_unb a_unbP
  generalize s.2.2 5 c + l 2 (a_k s c) = y at *
  simp only [p_le, p_lt, p_eq, p_z0, p_zm1, p_z999]
  split
  · rw [p_z999]
    constructor
    · intro _
      left
      omega
    · intro _
      omega
  · split
    · split
      · omega
      · rw [p_z999]
        omega
    · rw [p_z999]
      omega
theorem p_lack4 {μ : z_M} {o o1 : Nat} {s : a_S} {l : a_T} {c : Nat} (hs : w_ship s) (cs : c_ship μ o s) (cl : c_law μ o1 l) (hc : c < s.2.1) : f_X3_lacksLeave o o1 (nI c) μ = some (p_b (a_lack l s c), μ) := by
  have h14 : s.2.1 ≤ 14 := hs.2.1
  obtain ⟨ek, hk⟩ := a_k_lt hs hc
  obtain ⟨m1, m2, m3, m4, m5, m6, m7⟩ := cs.2.2.2.1 c hc
  obtain ⟨l1, l2, l3, l4, l5⟩ := cl.1 (a_k s c) hk
  have hz : z_in (nI c) 14 := p_zn (by omega) (by decide)
  unfold f_X3_lacksLeave f_X4_bit
  rw [if_pos hz, nI_clamp (by omega), m1, ek, z_b2_s]
  show (if p_bit (μ.1 o1 6) (a_k s c) = 1 then (z_b2 (some (p_bit (μ.1 o 2) c, μ)) fun r8 μ9 => if r8 = 0 then some (1, μ9) else some (0, μ9)) else some (0, μ)) = _
  rw [l4, m5, z_b2_s]
  unfold p_b a_lack
  by_cases h1 : l 3 (a_k s c) = 1
  · rw [if_pos h1]
    by_cases h2 : s.2.2 7 c = 0
    · rw [if_pos h2, if_pos ⟨h1, h2⟩]
    · rw [if_neg h2, if_neg (fun h => h2 h.2)]
  · rw [if_neg h1, if_neg (fun h => h1 h.1)]
theorem p_m1 {x : Int32} (h : -1 ≤ x.toInt) : x = -1 ↔ x < 0 := by
  rw [p_eq, p_lt, p_z0, p_zm1]
  omega
theorem p_why4 {μ : z_M} {o o1 : Nat} {s : a_S} {l : a_T} {c : Nat} (hs : w_ship s) (hl : w_law l) (cs : c_ship μ o s) (cl : c_law μ o1 l) (hc : c < s.2.1) {d : Int32} (hd : d.toInt ≤ 999) : f_X3_whyDead o o1 d (nI c) μ = some (a_why l s d c, μ) := by
  have h14 : s.2.1 ≤ 14 := hs.2.1
  obtain ⟨m1, m2, m3, m4, m5, m6, m7⟩ := cs.2.2.2.1 c hc
  have hz : z_in (nI c) 14 := p_zn (by omega) (by decide)
  have w9 := (hs.2.2.2.1 c hc).2.2.2.2.2.2.1
  have e53 : g_X3_whyDead_53 o o1 (nI c) μ = some (if a_lack l s c then 4 else 0, μ) := by
    unfold g_X3_whyDead_53
    rw [p_lack4 hs cs cl hc, z_b2_s, p_if0]
  have h12 : μ.1 o1 12 = l 6 2 := cl.2.2.2.2.1
  have hs2 : l 6 2 = 0 ∨ l 6 2 = 1 := hl.2.2.2.2.1
  unfold f_X3_whyDead
  simp only [if_pos hz, nI_clamp (show c < 2 ^ 31 by omega), m3, p_unb hs cs cl hc, z_b2_s, m7, h12]
  unfold a_why
  by_cases c1 : s.2.2 5 c ≤ d
  · rw [if_pos c1, if_pos c1]
    have hu := a_unb_iff hs hl hc hd
    by_cases c2 : a_unbP l s d c
    · rw [if_pos c2]
      rw [if_pos (show d ≤ _ from hu.mpr c2)]
      rcases hs2 with e | e
      · rw [if_pos e, e53, if_neg (show ¬ (l 6 2 = 1 ∧ (s.2.2 9 c < 0 ∨ ¬ s.2.2 9 c ≤ d)) from fun h => absurd (e.symm.trans h.1) (by decide))]
      · rw [if_neg (by rw [e]; decide), e53]
        by_cases c3 : s.2.2 9 c = -1
        · rw [if_pos c3, if_pos ⟨e, Or.inl ((p_m1 w9).mp c3)⟩]
        · rw [if_neg c3]
          by_cases c4 : s.2.2 9 c ≤ d
          · rw [if_pos c4, if_neg (show ¬ (l 6 2 = 1 ∧ (s.2.2 9 c < 0 ∨ ¬ s.2.2 9 c ≤ d)) from fun h => h.2.elim (fun q => c3 ((p_m1 w9).mpr q)) (fun q => q c4))]
          · rw [if_neg c4, if_pos ⟨e, Or.inr c4⟩]
    · rw [if_neg c2, if_neg (show ¬ d ≤ _ from fun h => c2 (hu.mp h))]
  · rw [if_neg c1, if_neg c1]
theorem p_land {A : a_A} {μ : z_M} (hC : InvC A μ) {n : Nat} (hn : n < 4) : ∃ o1, μ.2.2 1 n = some o1 ∧ c_law μ o1 (A.2.2.2.2.2 n) := by
  obtain ⟨lp, h1, h2, h3, h4⟩ := hC.2.2.2.2.2.1
  exact ⟨lp n, h3 n hn⟩
theorem p_nat {x : Int32} {b : Int} (h : p_in x 0 b) : ∃ n : Nat, x = nI n ∧ (n : Int) ≤ b ∧ n < 2 ^ 31 := by
  have q := p_cl h
  have := h.2
  have h3 : x.toInt < 2147483648 := by
    have := Int32.toInt_lt x
    simpa using this
  exact ⟨x.toNatClampNeg, q.1, by omega, by omega⟩
theorem s_14 : zs_14 Inv0 := by
  rintro μ ⟨A, hw, hC, hM⟩ x d c
  have F4 : f_X4_lives x d c μ = if p_in x 0 3 then (if p_in c 0 ((A.1.2.1 : Int) - 1) then (if p_in d 0 999 then (if z_in x 4 then ((μ.2.2 1 x.toNatClampNeg).bind fun r22 => (z_b2 (f_X3_whyDead (4) (r22) (d) (c) μ) fun r25 μ26 => (some (r25, μ26)))) else none) else some (-1002, μ)) else some (-1001, μ)) else some (-1001, μ) := by
    unfold f_X4_lives
    rw [p_isLand4, z_b2_s, p_if0, p_isClaimC hw hC, z_b2_s, p_if0, p_isDay4, z_b2_s, p_if0]
  have F5 : ∀ ν, InvM A ν → f_X5_lives x d c ν = if p_in x 0 3 then (if p_in c 0 ((A.1.2.1 : Int) - 1) then (if p_in d 0 999 then (z_b2 (f_X5_why (x) (d) (c) ν) fun r22 μ23 => (some (r22, μ23))) else some (-1002, ν)) else some (-1001, ν)) else some (-1001, ν) := by
    intro ν hν
    unfold f_X5_lives
    rw [p_isLand5, z_b2_s, p_if0, p_isClaimM hw hν, z_b2_s, p_if0, p_isDay5, z_b2_s, p_if0]
  by_cases h1 : p_in x 0 3
  case neg => exact p_look hw hC hM (r := -1001) (by rw [F4, if_neg h1]) (fun ν hν => by rw [F5 ν hν, if_neg h1])
  by_cases h2 : p_in c 0 ((A.1.2.1 : Int) - 1)
  case neg => exact p_look hw hC hM (r := -1001) (by rw [F4, if_pos h1, if_neg h2]) (fun ν hν => by rw [F5 ν hν, if_pos h1, if_neg h2])
  by_cases h3 : p_in d 0 999
  case neg => exact p_look hw hC hM (r := -1002) (by rw [F4, if_pos h1, if_pos h2, if_neg h3]) (fun ν hν => by rw [F5 ν hν, if_pos h1, if_pos h2, if_neg h3])
  obtain ⟨n, rfl, hn, hn'⟩ := p_nat h1
  obtain ⟨j, rfl, hj, hj'⟩ := p_nat h2
  have hn4 : n < 4 := by omega
  have hjc : j < A.1.2.1 := by omega
  obtain ⟨o1, e1, cl⟩ := p_land hC hn4
  have wl := hw.2.2.2.2 n hn4
  refine p_look hw hC hM (r := a_why (A.2.2.2.2.2 n) A.1 d j) ?_ (fun ν hν => ?_)
  · rw [F4, if_pos h1, if_pos h2, if_pos h3, if_pos (p_zn hn4 (by decide)), nI_clamp hn', e1, Option.bind_some, p_why4 hw.1 wl hC.1 cl hjc h3.2, z_b2_s]
  · rw [F5 ν hν, if_pos h1, if_pos h2, if_pos h3, p_why5 hw.1 wl hν.1 (hν.2.2.2.2.2.2 n hn4) hn4 hjc, z_b2_s]
def a_from (l : a_T) (s : a_S) (c : Nat) : Int32 := if l 6 2 = 0 then s.2.2 5 c else if s.2.2 5 c < s.2.2 9 c then s.2.2 9 c else s.2.2 5 c
def a_alive (l : a_T) (s : a_S) (c : Nat) : Int32 := if a_lack l s c then -1 else if l 6 2 = 1 ∧ s.2.2 9 c < 0 then -1 else if a_unb l s c < a_from l s c then -1 else a_unb l s c
theorem p_alive4 {μ : z_M} {o o1 : Nat} {s : a_S} {l : a_T} {c : Nat} (hs : w_ship s) (hl : w_law l) (cs : c_ship μ o s) (cl : c_law μ o1 l) (hc : c < s.2.1) : f_X3_lastAlive o o1 (nI c) μ = some (a_alive l s c, μ) := by
  have h14 : s.2.1 ≤ 14 := hs.2.1
  obtain ⟨m1, m2, m3, m4, m5, m6, m7⟩ := cs.2.2.2.1 c hc
  have hz : z_in (nI c) 14 := p_zn (by omega) (by decide)
  have w9 := (hs.2.2.2.1 c hc).2.2.2.2.2.2.1
  have h12 : μ.1 o1 12 = l 6 2 := cl.2.2.2.2.1
  have hs2 : l 6 2 = 0 ∨ l 6 2 = 1 := hl.2.2.2.2.1
  have e59 : ∀ x, g_X3_lastAlive_59 o o1 (nI c) x μ = some (if a_unb l s c < x then -1 else a_unb l s c, μ) := by
    intro x
    unfold g_X3_lastAlive_59
    rw [p_unb hs cs cl hc, z_b2_s]
  have e28 : g_X3_lastAlive_28 o o1 (nI c) μ = some (if a_unb l s c < a_from l s c then -1 else a_unb l s c, μ) := by
    unfold g_X3_lastAlive_28 a_from
    simp only [if_pos hz, nI_clamp (show c < 2 ^ 31 by omega), e59, m3, m7, h12]
    split <;> rfl
  unfold f_X3_lastAlive a_alive
  rw [p_lack4 hs cs cl hc, z_b2_s, p_if0, e28]
  simp only [if_pos hz, nI_clamp (show c < 2 ^ 31 by omega), m7, h12]
  by_cases c1 : a_lack l s c
  · rw [if_pos c1, if_pos c1]
  · rw [if_neg c1, if_neg c1]
    rcases hs2 with e | e
    · rw [if_pos e, if_neg (show ¬ (l 6 2 = 1 ∧ s.2.2 9 c < 0) from fun h => absurd (e.symm.trans h.1) (by decide))]
    · rw [if_neg (by rw [e]; decide)]
      by_cases c2 : s.2.2 9 c = -1
      · rw [if_pos c2, if_pos ⟨e, (p_m1 w9).mp c2⟩]
      · rw [if_neg c2, if_neg (show ¬ (l 6 2 = 1 ∧ s.2.2 9 c < 0) from fun h => c2 ((p_m1 w9).mpr h.2))]
theorem a_unb_in {s : a_S} {l : a_T} {c : Nat} (hs : w_ship s) (hl : w_law l) (hc : c < s.2.1) : p_in (a_unb l s c) 0 999 := by
  obtain ⟨ek, hk⟩ := a_k_lt hs hc
  have w5 := (hs.2.2.2.1 c hc).2.2.1
  have w2 := (hl.1 _ hk).2.2.1
  have hadd : (s.2.2 5 c + l 2 (a_k s c)).toInt = (s.2.2 5 c).toInt + (l 2 (a_k s c)).toInt := p_addI (by have := w5.1; have := w2.1; omega) (by have := w5.2; have := w2.2; omega)
  have := w5.1
  have := w2.1
  unfold a_unb
  split
  · decide
  · split
    · split
      · rename_i h
        rw [p_lt, p_z999] at h
        exact ⟨by omega, by omega⟩
      · decide
    · decide
theorem a_why_0 {s : a_S} {l : a_T} {c : Nat} (hs : w_ship s) (hl : w_law l) (hc : c < s.2.1) {d : Int32} (hd : d.toInt ≤ 999) : a_why l s d c = 0 ↔ (¬ a_lack l s c ∧ ¬ (l 6 2 = 1 ∧ s.2.2 9 c < 0) ∧ a_from l s c ≤ d ∧ d ≤ a_unb l s c) := by
  have hu := a_unb_iff hs hl hc hd
  have hs2 : l 6 2 = 0 ∨ l 6 2 = 1 := hl.2.2.2.2.1
  unfold a_why a_from
  by_cases c0 : a_lack l s c
  · rw [if_pos c0]
    constructor
    · intro h
      exfalso
      revert h
      repeat' split
      all_goals decide
    · intro h
      exact absurd c0 h.1
  · rw [if_neg c0]
    rcases hs2 with e | e
    · rw [if_neg (show ¬ (l 6 2 = 1 ∧ (s.2.2 9 c < 0 ∨ ¬ s.2.2 9 c ≤ d)) from fun h => absurd (e.symm.trans h.1) (by decide)), if_pos e]
      by_cases c1 : s.2.2 5 c ≤ d
      · rw [if_pos c1]
        by_cases c2 : a_unbP l s d c
        · rw [if_pos c2]
          exact ⟨fun _ => ⟨c0, fun h => absurd (e.symm.trans h.1) (by decide), c1, hu.mpr c2⟩, fun _ => rfl⟩
        · rw [if_neg c2]
          exact ⟨fun h => absurd h (by decide), fun h => absurd (hu.mp h.2.2.2) c2⟩
      · rw [if_neg c1]
        exact ⟨fun h => absurd h (by decide), fun h => absurd h.2.2.1 c1⟩
    · rw [if_neg (show ¬ l 6 2 = 0 by rw [e]; decide)]
      by_cases c1 : s.2.2 5 c ≤ d
      · rw [if_pos c1]
        by_cases c2 : a_unbP l s d c
        · rw [if_pos c2]
          by_cases c3 : s.2.2 9 c < 0
          · rw [if_pos ⟨e, Or.inl c3⟩]
            exact ⟨fun h => absurd h (by decide), fun h => absurd ⟨e, c3⟩ h.2.1⟩
          · by_cases c4 : s.2.2 9 c ≤ d
            · rw [if_neg (show ¬ (l 6 2 = 1 ∧ (s.2.2 9 c < 0 ∨ ¬ s.2.2 9 c ≤ d)) from fun h => h.2.elim c3 (fun q => q c4))]
              refine ⟨fun _ => ⟨c0, fun h => c3 h.2, ?_, hu.mpr c2⟩, fun _ => rfl⟩
              split
              · exact c4
              · exact c1
            · rw [if_pos ⟨e, Or.inr c4⟩]
              refine ⟨fun h => absurd h (by decide), fun h => ?_⟩
              exfalso
              have q := h.2.2.1
              split at q
              · exact c4 q
              · rename_i c5
                rw [p_lt] at c5
                rw [p_le] at c4 c1
                omega
        · rw [if_neg c2]
          exact ⟨fun h => absurd h (by decide), fun h => absurd (hu.mp h.2.2.2) c2⟩
      · rw [if_neg c1]
        refine ⟨fun h => absurd h (by decide), fun h => ?_⟩
        exfalso
        have q := h.2.2.1
        split at q
        · rename_i c5
          rw [p_lt] at c5
          rw [p_le] at q c1
          omega
        · exact c1 q
theorem a_alive_sp {s : a_S} {l : a_T} {c : Nat} (hs : w_ship s) (hl : w_law l) (hc : c < s.2.1) : (a_alive l s c = -1 ∧ ∀ j, j < 1000 → a_why l s (nI j) c ≠ 0) ∨ ∃ q, q < 1000 ∧ a_alive l s c = nI q ∧ a_why l s (nI q) c = 0 ∧ ∀ j, j < 1000 → q < j → a_why l s (nI j) c ≠ 0 := by
  have hj : ∀ j, j < 1000 → (nI j).toInt ≤ 999 := fun j h => by rw [nI_toInt (by omega)]; omega
  unfold a_alive
  by_cases c0 : a_lack l s c
  · rw [if_pos c0]
    exact Or.inl ⟨rfl, fun j h e => ((a_why_0 hs hl hc (hj j h)).mp e).1 c0⟩
  · rw [if_neg c0]
    by_cases c1 : l 6 2 = 1 ∧ s.2.2 9 c < 0
    · rw [if_pos c1]
      exact Or.inl ⟨rfl, fun j h e => ((a_why_0 hs hl hc (hj j h)).mp e).2.1 c1⟩
    · rw [if_neg c1]
      by_cases c2 : a_unb l s c < a_from l s c
      · rw [if_pos c2]
        refine Or.inl ⟨rfl, fun j h e => ?_⟩
        have q := ((a_why_0 hs hl hc (hj j h)).mp e).2.2
        rw [p_le, p_le] at q
        rw [p_lt] at c2
        omega
      · rw [if_neg c2]
        right
        obtain ⟨q, eq, hq, hq'⟩ := p_nat (a_unb_in hs hl hc)
        refine ⟨q, by omega, eq, (a_why_0 hs hl hc (hj q (by omega))).mpr ⟨c0, c1, ?_, ?_⟩, fun j h hqj e => ?_⟩
        · rw [← eq, p_le]
          rw [p_lt] at c2
          omega
        · rw [← eq, p_le]
          exact Int.le_refl _
        · have t := ((a_why_0 hs hl hc (hj j h)).mp e).2.2.2
          rw [eq, p_le, nI_toInt (by omega), nI_toInt (by omega)] at t
          omega
theorem p_last23 {ν : z_M} {s : a_S} {l : a_T} {n c : Nat} (hs : w_ship s) (hl : w_law l) (ms : m_ship ν s) (ml : m_law ν n l) (hn : n < 4) (hc : c < s.2.1) {r : Int32} (hr : (r = -1 ∧ ∀ j, j < 1000 → a_why l s (nI j) c ≠ 0) ∨ ∃ q, q < 1000 ∧ r = nI q ∧ a_why l s (nI q) c = 0 ∧ ∀ j, j < 1000 → q < j → a_why l s (nI j) c ≠ 0) : ∀ m fu : Nat, m < fu → m ≤ 1000 → r.toInt < (m : Int) → g_X5_last_23 fu (nI n) (nI c) (nI m + -1) ν = some (r, ν) := by
  intro m
  induction m with
  | zero =>
    intro fu hf h1 h2
    obtain ⟨fu, rfl⟩ : ∃ q, fu = q + 1 := ⟨fu - 1, by omega⟩
    unfold g_X5_last_23
    rw [if_pos (by decide)]
    rcases hr with ⟨e, _⟩ | ⟨q, hq, e, _⟩
    · rw [e]
    · rw [e, nI_toInt (by omega)] at h2
      omega
  | succ m ih =>
    intro fu hf h1 h2
    obtain ⟨fu, rfl⟩ : ∃ q, fu = q + 1 := ⟨fu - 1, by omega⟩
    have ex : nI (m + 1) + -1 = nI m := by rw [← Int32.sub_eq_add_neg]; exact nI_m1 m
    unfold g_X5_last_23
    rw [ex, if_neg (nI_pos (by omega)), p_why5 hs hl ms ml hn hc, z_b2_s]
    by_cases h0 : a_why l s (nI m) c = 0
    · rw [if_pos h0]
      rcases hr with ⟨e, h⟩ | ⟨q, hq, e, h, h'⟩
      · exact absurd h0 (h m (by omega))
      · rw [e, nI_toInt (by omega)] at h2
        have : q = m := by
          by_cases h : q = m
          · exact h
          · exact absurd h0 (h' m (by omega) (by omega))
        rw [e, this]
    · rw [if_neg h0]
      refine ih fu (by omega) (by omega) ?_
      rcases hr with ⟨e, h⟩ | ⟨q, hq, e, h, h'⟩
      · rw [e, p_zm1]
        omega
      · rw [e, nI_toInt (by omega)] at h2 ⊢
        have : q ≠ m := fun e => h0 (e ▸ h)
        omega
theorem s_15 : zs_15 Inv0 := by
  rintro μ ⟨A, hw, hC, hM⟩ x c
  have F4 : f_X4_last x c μ = if p_in x 0 3 then (if p_in c 0 ((A.1.2.1 : Int) - 1) then (if z_in x 4 then ((μ.2.2 1 x.toNatClampNeg).bind fun r15 => (z_b2 (f_X3_lastAlive (4) (r15) (c) μ) fun r18 μ19 => (some (r18, μ19)))) else none) else some (-1001, μ)) else some (-1001, μ) := by
    unfold f_X4_last
    rw [p_isLand4, z_b2_s, p_if0, p_isClaimC hw hC, z_b2_s, p_if0]
  have F5 : ∀ ν, InvM A ν → f_X5_last x c ν = if p_in x 0 3 then (if p_in c 0 ((A.1.2.1 : Int) - 1) then (g_X5_last_23 z_N x c 999 ν) else some (-1001, ν)) else some (-1001, ν) := by
    intro ν hν
    unfold f_X5_last
    rw [p_isLand5, z_b2_s, p_if0, p_isClaimM hw hν, z_b2_s, p_if0]
  by_cases h1 : p_in x 0 3
  case neg => exact p_look hw hC hM (r := -1001) (by rw [F4, if_neg h1]) (fun ν hν => by rw [F5 ν hν, if_neg h1])
  by_cases h2 : p_in c 0 ((A.1.2.1 : Int) - 1)
  case neg => exact p_look hw hC hM (r := -1001) (by rw [F4, if_pos h1, if_neg h2]) (fun ν hν => by rw [F5 ν hν, if_pos h1, if_neg h2])
  obtain ⟨n, rfl, hn, hn'⟩ := p_nat h1
  obtain ⟨j, rfl, hj, hj'⟩ := p_nat h2
  have hn4 : n < 4 := by omega
  have hjc : j < A.1.2.1 := by omega
  obtain ⟨o1, e1, cl⟩ := p_land hC hn4
  have wl := hw.2.2.2.2 n hn4
  refine p_look hw hC hM (r := a_alive (A.2.2.2.2.2 n) A.1 j) ?_ (fun ν hν => ?_)
  · rw [F4, if_pos h1, if_pos h2, if_pos (p_zn hn4 (by decide)), nI_clamp hn', e1, Option.bind_some, p_alive4 hw.1 wl hC.1 cl hjc, z_b2_s]
  · rw [F5 ν hν, if_pos h1, if_pos h2, show (999 : Int32) = nI 1000 + -1 by decide]
    have sp := a_alive_sp hw.1 wl hjc
    refine p_last23 hw.1 wl hν.1 (hν.2.2.2.2.2.2 n hn4) hn4 hjc sp 1000 z_N (by decide) (by decide) ?_
    rcases sp with ⟨e, h⟩ | ⟨q, hq, e, h⟩
    · rw [e]
      decide
    · rw [e, nI_toInt (by omega)]
      omega
