/-! PURE: PayOut.payAllFrom -/
def c_all (μ : z_M) (Q : y_Q) (L : Nat → Nat) (ln : Nat) (o : Nat → Nat) (i : Nat) : Prop := c_pay μ Q Q.1 L ln ∧ (∀ f, f < 5 → μ.1 35 f = nI (Q.2.2.2.2.2 f)) ∧ (∀ j, j < 6 → μ.2.2 39 j = some (40 + j)) ∧ (∀ j, j < 5 → μ.1 37 j = nI (o j)) ∧ (∀ j, j ≤ i → (∀ c, c < Q.1 → μ.1 (40 + j) c = nI (y_pa (y_p Q) o j c)) ∧ μ.1 46 j = nI (sm Q.1 (y_pa (y_p Q) o j))) ∧ (∀ j, j < i → μ.1 36 (o j) = nI (y_re (y_p Q) o j))
def isO (o : Nat → Nat) : Prop := (∀ j, j < 5 → o j < 5) ∧ (∀ i, i < 5 → ∀ j, j < 5 → o i = o j → i = j) ∧ (∀ f, f < 5 → ∃ j, j < 5 ∧ o j = f)
def xPay : List Nat := [33, 34, 36, 41, 42, 43, 44, 45, 46]
theorem c_pay.un {μ μ' : z_M} {Q : y_Q} {n : Nat} {L : Nat → Nat} {ln : Nat} {X : List Nat} (h : c_pay μ Q n L ln) (hu : z_un X μ μ') (hX : ∀ a, 28 ≤ a → a ≤ 32 → a ∉ X) : c_pay μ' Q n L ln := by
  obtain ⟨b1, b2, b3, b4, b5⟩ := h
  refine ⟨?_, ?_, ?_, ?_, b5⟩
  · rw [hu.1 28 (hX _ (by decide) (by decide))]; exact b1
  · rw [hu.1 28 (hX _ (by decide) (by decide))]; exact b2
  · rw [hu.1 29 (hX _ (by decide) (by decide))]; exact b3
  · rw [hu.1 30 (hX _ (by decide) (by decide)), hu.1 31 (hX _ (by decide) (by decide)), hu.1 32 (hX _ (by decide) (by decide))]; exact b4
theorem sm_bd {f : Nat → Nat} {b : Nat} : ∀ {n : Nat}, (∀ c, c < n → f c ≤ b) → sm n f ≤ n * b
  | 0, _ => by rw [sm]; omega
  | n + 1, h => by
    have h1 := sm_bd (f := f) (b := b) (n := n) (fun c hc => h c (by omega))
    have h2 := h n (by omega)
    rw [sm, Nat.succ_mul]
    omega
theorem y_pa_bd {Q : y_Q} (hw : w_Q Q) (o : Nat → Nat) (i : Nat) : sm Q.1 (y_pa (y_p Q) o i) ≤ 14 * 999 := by
  have h1 : sm Q.1 (y_pa (y_p Q) o i) ≤ Q.1 * 999 := sm_bd (fun c hc => Nat.le_trans (y_pa_le (y_p Q) o i c) (hw.2.1 c hc).1)
  exact Nat.le_trans h1 (Nat.mul_le_mul_right 999 hw.1)
theorem p_all1 {μ : z_M} {Q : y_Q} {L : Nat → Nat} {ln : Nat} {o : Nat → Nat} (hw : w_Q Q) (ho : isO o) {i : Nat} (hi : i < 5) (h : c_all μ Q L ln o i) (fu : Nat) : ∃ μ', g_X2_payAllFrom_2 (fu + 1) (nI i) μ = g_X2_payAllFrom_2 fu (nI (i + 1)) μ' ∧ c_all μ' Q L ln o (i + 1) ∧ z_un xPay μ μ' := by
  obtain ⟨h1, h2, h3, h4, h5, h6⟩ := h
  have hfi := ho.1 i hi
  have hF := h2 (o i) hfi
  have r1 := h3 i (by omega)
  have r2 := h3 (i + 1) (by omega)
  have ecp := p_copy (40 + i) (40 + (i + 1)) 14 (by decide) μ
  have u1 : z_un xPay μ (z_sw μ (40 + (i + 1)) (fun k => if k < 14 then μ.1 (40 + i) k else μ.1 (40 + (i + 1)) k)) := ⟨fun a ha => p_sw_ne (fun e => ha (by rw [e]; unfold xPay; simp; omega)), rfl⟩
  have hX : ∀ a, 28 ≤ a → a ≤ 32 → a ∉ xPay := by
    intro a q1 q2
    unfold xPay
    simp
    omega
  have n35 : (35 : Nat) ∉ xPay := by decide
  have n37 : (37 : Nat) ∉ xPay := by decide
  generalize hμ1 : z_sw μ (40 + (i + 1)) (fun k => if k < 14 then μ.1 (40 + i) k else μ.1 (40 + (i + 1)) k) = μ1 at *
  have row1 : ∀ c, c < Q.1 → μ1.1 (40 + (i + 1)) c = nI (y_pa (y_p Q) o i c) := by
    intro c hc
    have := hw.1
    rw [← hμ1, p_sw_at, if_pos (by omega)]
    exact (h5 i (by omega)).1 c hc
  have oth1 : ∀ a, a ≠ 40 + (i + 1) → μ1.1 a = μ.1 a := fun a ha => by rw [← hμ1, p_sw_ne ha]
  obtain ⟨μ2, e2, u2, row2, row2', c36, c36'⟩ := p_payFund (a := 40 + (i + 1)) (f := o i) (p := y_pa (y_p Q) o i) (μ := μ1) hw hfi ⟨by omega, by omega⟩ (h1.un u1 hX) (by rw [u1.1 35 n35]; exact hF) row1 (y_pa_le (y_p Q) o i)
  have hT := y_pa_sum (y_p Q) o i
  have hre := y_re_le (y_p Q) o i
  have hT : sm Q.1 (y_pa (y_p Q) o (i + 1)) + y_re (y_p Q) o i = sm Q.1 (y_pa (y_p Q) o i) + Q.2.2.2.2.2 (o i) := hT
  have hre : y_re (y_p Q) o i ≤ Q.2.2.2.2.2 (o i) := hre
  have hbd := y_pa_bd hw o i
  have htot : μ1.1 46 i + nI (Q.2.2.2.2.2 (o i) - (y_pf (y_p Q) (o i) (y_pa (y_p Q) o i)).2) = nI (sm Q.1 (y_pa (y_p Q) o (i + 1))) := by
    rw [oth1 46 (by omega), (h5 i (by omega)).2, nI_add]
    congr 1
    have : (y_pf (y_p Q) (o i) (y_pa (y_p Q) o i)).2 = y_re (y_p Q) o i := rfl
    rw [this]
    omega
  have hsub : ∀ a, a ∈ [33, 34, 36, 40 + (i + 1)] → a ∈ xPay := by
    intro a ha
    unfold xPay
    simp at ha ⊢
    omega
  have u3 : z_un xPay μ (z_si μ2 46 (i + 1) (nI (sm Q.1 (y_pa (y_p Q) o (i + 1))))) := (u1.tr (u2.mono hsub)).si (by decide) _ _
  refine ⟨_, ?_, ⟨h1.un u3 hX, ?_, ?_, ?_, fun j hj => ⟨fun c hc => ?_, ?_⟩, fun j hj => ?_⟩, u3⟩
  · rw [g_X2_payAllFrom_2]
    rw [if_neg (show ¬ (5 : Int32) ≤ nI i from p_nle (a := 5) (by omega) (by decide))]
    simp only [nI_1, if_pos (p_zn (n := i) (N := 6) (by omega) (by decide)), if_pos (p_zn (n := i) (N := 5) (by omega) (by decide)), if_pos (p_zn (n := i + 1) (N := 6) (by omega) (by decide)), nI_clamp (show i < 2 ^ 31 by omega), nI_clamp (show i + 1 < 2 ^ 31 by omega), r1, r2, Option.bind_some, ecp, z_b1_s, u1.2, u1.1 37 n37, h4 i hi, e2, z_b2_s, htot, z_st_s]
  · intro f hf
    rw [u3.1 35 n35]
    exact h2 f hf
  · intro j hj
    rw [u3.2]
    exact h3 j hj
  · intro j hj
    rw [u3.1 37 n37]
    exact h4 j hj
  · rw [p_si_ne (by omega)]
    by_cases e : j = i + 1
    · rw [e]
      exact row2 c hc
    · rw [u2.1 (40 + j) (by simp; omega), oth1 (40 + j) (by omega)]
      exact (h5 j (by omega)).1 c hc
  · by_cases e : j = i + 1
    · rw [e, p_si_at]
    · rw [p_si_nk e, u2.1 46 (by simp; omega), oth1 46 (by omega)]
      exact (h5 j (by omega)).2
  · rw [p_si_ne (by decide)]
    by_cases e : j = i
    · rw [e]
      exact c36
    · rw [c36' (o j) (fun q => e (ho.2.1 j (by omega) i hi q)), oth1 36 (by omega)]
      exact h6 j (by omega)
theorem p_all {Q : y_Q} {L : Nat → Nat} {ln : Nat} {o : Nat → Nat} (hw : w_Q Q) (ho : isO o) : ∀ m i fu μ, i + m = 5 → m < fu → c_all μ Q L ln o i → ∃ μ', g_X2_payAllFrom_2 fu (nI i) μ = some μ' ∧ c_all μ' Q L ln o 5 ∧ z_un xPay μ μ' := by
  intro m
  induction m with
  | zero =>
    intro i fu μ hi hf h
    obtain ⟨fu, rfl⟩ : ∃ q, fu = q + 1 := ⟨fu - 1, by omega⟩
    have ei : i = 5 := by omega
    subst ei
    refine ⟨μ, ?_, h, z_un.rf _ _⟩
    rw [g_X2_payAllFrom_2]
    rw [if_pos (by decide)]
  | succ m ih =>
    intro i fu μ hi hf h
    obtain ⟨fu, rfl⟩ : ∃ q, fu = q + 1 := ⟨fu - 1, by omega⟩
    obtain ⟨μ1, e1, c1, u1⟩ := p_all1 hw ho (by omega) h fu
    obtain ⟨μ2, e2, c2, u2⟩ := ih (i + 1) fu μ1 (by omega) (by omega) c1
    exact ⟨μ2, by rw [e1, e2], c2, u1.tr u2⟩
theorem p_payAll {Q : y_Q} {L : Nat → Nat} {ln : Nat} {o : Nat → Nat} {μ : z_M} (hw : w_Q Q) (ho : isO o) {i : Nat} (hi : i ≤ 5) (h : c_all μ Q L ln o i) : ∃ μ', f_X2_payAllFrom (nI i) μ = some μ' ∧ c_all μ' Q L ln o 5 ∧ z_un xPay μ μ' := p_all hw ho (5 - i) i z_N μ (by omega) (by have : z_N = 5000 := rfl; omega) h
/-! the next order -/
def wr (μ : z_M) (l : List Int32) : z_M := z_sw μ 37 (fun k => if k < 5 then l.getD k 0 else μ.1 37 k)
theorem wr_at (μ : z_M) (l : List Int32) {k : Nat} (h : k < 5) : (wr μ l).1 37 k = l.getD k 0 := by
  unfold wr
  rw [p_sw_at, if_pos h]
theorem wr_si (μ : z_M) (l : List Int32) (hl : l.length = 5) {k : Nat} (h : k < 5) (x : Int32) : z_si (wr μ l) 37 k x = wr μ (l.set k x) := by
  refine Prod.ext (funext fun a => funext fun b => ?_) rfl
  by_cases ea : a = 37
  · subst ea
    by_cases eb : b = k
    · subst eb
      rw [p_si_at, wr_at _ _ h]
      simp [hl, h]
    · rw [p_si_nk eb]
      by_cases hb : b < 5
      · rw [wr_at _ _ hb, wr_at _ _ hb, List.getD_eq_getElem?_getD, List.getD_eq_getElem?_getD, List.getElem?_set_ne (fun q => eb q.symm)]
      · unfold wr
        rw [p_sw_at, p_sw_at, if_neg hb, if_neg hb]
  · rw [p_si_ne ea]
    unfold wr
    rw [p_sw_ne ea, p_sw_ne ea]
def nS (x1 x2 : Int32) (l : List Int32) : Option (List Int32) := if z_in x1 5 then (if z_in x2 5 then some ((l.set x1.toNatClampNeg (l.getD x2.toNatClampNeg 0)).set x2.toNatClampNeg (l.getD x1.toNatClampNeg 0)) else none) else none
def n78 : Nat → Int32 → Int32 → Int32 → List Int32 → Option (Int32 × List Int32)
  | 0, _, _, _, _ => none
  | n + 1, x1, x3, x4, l => if x4 ≤ x3 then some (x1, l) else (nS x3 x4 l).bind (fun l' => n78 n x1 (x3 + 1) (x4 + (-1)) l')
def n65 (x1 x2 : Int32) (l : List Int32) : Option (Int32 × List Int32) := (nS x1 x2 l).bind (fun l' => n78 z_N x1 (x1 + 1) 4 l')
def n37 : Nat → Int32 → Int32 → List Int32 → Option (Int32 × List Int32)
  | 0, _, _, _ => none
  | n + 1, x1, x2, l => if x2 ≤ x1 + 1 then n65 x1 x2 l else (if z_in x2 5 then (if z_in x1 5 then (if l.getD x1.toNatClampNeg 0 ≤ l.getD x2.toNatClampNeg 0 then n65 x1 x2 l else n37 n x1 (x2 + (-1)) l) else none) else none)
def n29 (x1 : Int32) (l : List Int32) : Option (Int32 × List Int32) := if 0 ≤ x1 then n37 z_N x1 4 l else some (5, l)
def n2 : Nat → Int32 → List Int32 → Option (Int32 × List Int32)
  | 0, _, _ => none
  | n + 1, x1, l => if x1 < 0 then n29 x1 l else (if z_in x1 5 then (if z_in (x1 + 1) 5 then (if l.getD x1.toNatClampNeg 0 ≤ l.getD (x1 + 1).toNatClampNeg 0 then n29 x1 l else n2 n (x1 + (-1)) l) else none) else none)
theorem z_in5 {x : Int32} (h : z_in x 5) : x.toNatClampNeg < 5 := by
  obtain ⟨j, hj, e⟩ := vp_in_of h (by decide)
  rw [e, nI_clamp (by omega)]
  exact hj
theorem nS_len {x1 x2 : Int32} {l l' : List Int32} (hl : l.length = 5) (h : nS x1 x2 l = some l') : l'.length = 5 := by
  unfold nS at h
  split at h
  · split at h
    · cases h
      simp [hl]
    · cases h
  · cases h
theorem e_S (μ : z_M) (x1 x2 : Int32) (l : List Int32) (hl : l.length = 5) : f_X2_swapFunds x1 x2 (wr μ l) = (nS x1 x2 l).map (wr μ) := by
  unfold f_X2_swapFunds nS
  by_cases h1 : z_in x1 5
  · rw [if_pos h1, if_pos h1]
    by_cases h2 : z_in x2 5
    · have g1 := z_in5 h1
      have g2 := z_in5 h2
      simp only [z_lt, z_st, if_pos h1, if_pos h2, wr_at _ _ g1, wr_at _ _ g2, wr_si _ _ hl g1, Option.map_some]
      rw [wr_si _ _ (by simp [hl]) g2]
    · simp only [z_lt, if_neg h2, Option.map_none]
  · rw [if_neg h1, if_neg h1]
    rfl
theorem e_78 (μ : z_M) : ∀ (n : Nat) (x1 x3 x4 : Int32) (l : List Int32), l.length = 5 → g_X2_nextOrder_78 n x1 x3 x4 (wr μ l) = (n78 n x1 x3 x4 l).map (fun q => (q.1, wr μ q.2))
  | 0, _, _, _, _, _ => rfl
  | n + 1, x1, x3, x4, l, hl => by
    rw [g_X2_nextOrder_78, n78]
    by_cases h : x4 ≤ x3
    · rw [if_pos h, if_pos h]
      rfl
    · rw [if_neg h, if_neg h, e_S μ x3 x4 l hl]
      cases hS : nS x3 x4 l with
      | none => rfl
      | some l' => exact e_78 μ n x1 (x3 + 1) (x4 + (-1)) l' (nS_len hl hS)
theorem e_65 (μ : z_M) (x1 x2 : Int32) (l : List Int32) (hl : l.length = 5) : g_X2_nextOrder_65 x1 x2 (wr μ l) = (n65 x1 x2 l).map (fun q => (q.1, wr μ q.2)) := by
  unfold g_X2_nextOrder_65 n65
  rw [e_S μ x1 x2 l hl]
  cases hS : nS x1 x2 l with
  | none => rfl
  | some l' => exact e_78 μ z_N x1 (x1 + 1) 4 l' (nS_len hl hS)
theorem e_37 (μ : z_M) : ∀ (n : Nat) (x1 x2 : Int32) (l : List Int32), l.length = 5 → g_X2_nextOrder_37 n x1 x2 (wr μ l) = (n37 n x1 x2 l).map (fun q => (q.1, wr μ q.2))
  | 0, _, _, _, _ => rfl
  | n + 1, x1, x2, l, hl => by
    rw [g_X2_nextOrder_37, n37]
    by_cases h : x2 ≤ x1 + 1
    · rw [if_pos h, if_pos h]
      exact e_65 μ x1 x2 l hl
    · rw [if_neg h, if_neg h]
      by_cases h2 : z_in x2 5
      · rw [if_pos h2, if_pos h2]
        by_cases h1 : z_in x1 5
        · rw [if_pos h1, if_pos h1, wr_at _ _ (z_in5 h1), wr_at _ _ (z_in5 h2), e_65 μ x1 x2 l hl, e_37 μ n x1 (x2 + (-1)) l hl]
          split <;> rfl
        · rw [if_neg h1, if_neg h1]
          rfl
      · rw [if_neg h2, if_neg h2]
        rfl
theorem e_29 (μ : z_M) (x1 : Int32) (l : List Int32) (hl : l.length = 5) : g_X2_nextOrder_29 x1 (wr μ l) = (n29 x1 l).map (fun q => (q.1, wr μ q.2)) := by
  unfold g_X2_nextOrder_29 n29
  rw [e_37 μ z_N x1 4 l hl]
  split <;> rfl
theorem e_2 (μ : z_M) : ∀ (n : Nat) (x1 : Int32) (l : List Int32), l.length = 5 → g_X2_nextOrder_2 n x1 (wr μ l) = (n2 n x1 l).map (fun q => (q.1, wr μ q.2))
  | 0, _, _, _ => rfl
  | n + 1, x1, l, hl => by
    rw [g_X2_nextOrder_2, n2]
    by_cases h : x1 < 0
    · rw [if_pos h, if_pos h]
      exact e_29 μ x1 l hl
    · rw [if_neg h, if_neg h]
      by_cases h1 : z_in x1 5
      · rw [if_pos h1, if_pos h1]
        by_cases h2 : z_in (x1 + 1) 5
        · rw [if_pos h2, if_pos h2, wr_at _ _ (z_in5 h1), wr_at _ _ (z_in5 h2), e_29 μ x1 l hl, e_2 μ n (x1 + (-1)) l hl]
          split <;> rfl
        · rw [if_neg h2, if_neg h2]
          rfl
      · rw [if_neg h1, if_neg h1]
        rfl
def dl (k : Nat) : List Int32 := [nI (dg k 0), nI (dg k 1), nI (dg k 2), nI (dg k 3), nI (dg k 4)]
theorem dl_get (k : Nat) : ∀ {j : Nat}, j < 5 → (dl k).getD j 0 = nI (dg k j)
  | 0, _ => rfl
  | 1, _ => rfl
  | 2, _ => rfl
  | 3, _ => rfl
  | 4, _ => rfl
  | n + 5, h => by omega
theorem nx_all : ∀ t, t < 119 → ∃ j, j < 6 ∧ n2 z_N 3 (dl (od.getD t 0)) = some (nI j, dl (od.getD (t + 1) 0)) ∧ ∀ i, i < j → dg (od.getD t 0) i = dg (od.getD (t + 1) 0) i := by decide +kernel
theorem wr_self {μ : z_M} {k : Nat} (h : ∀ j, j < 5 → μ.1 37 j = nI (dg k j)) : wr μ (dl k) = μ := by
  refine Prod.ext (funext fun a => funext fun b => ?_) rfl
  by_cases ea : a = 37
  · subst ea
    by_cases hb : b < 5
    · rw [wr_at _ _ hb, dl_get k hb, h b hb]
    · unfold wr
      rw [p_sw_at, if_neg hb]
  · unfold wr
    rw [p_sw_ne ea]
theorem p_next {μ : z_M} {t : Nat} (ht : t < 119) (h : ∀ j, j < 5 → μ.1 37 j = nI (dg (od.getD t 0) j)) : ∃ j μ', j < 6 ∧ f_X2_nextOrder μ = some (nI j, μ') ∧ (∀ i, i < j → dg (od.getD t 0) i = dg (od.getD (t + 1) 0) i) ∧ z_un [37] μ μ' ∧ ∀ i, i < 5 → μ'.1 37 i = nI (dg (od.getD (t + 1) 0) i) := by
  obtain ⟨j, hj, e, hd⟩ := nx_all t ht
  refine ⟨j, wr μ (dl (od.getD (t + 1) 0)), hj, ?_, hd, ⟨fun a ha => ?_, rfl⟩, fun i hi => ?_⟩
  · have e2 := e_2 μ z_N 3 (dl (od.getD t 0)) rfl
    rw [wr_self h, e] at e2
    exact e2
  · unfold wr
    rw [p_sw_ne (by simpa using ha)]
  · rw [wr_at _ _ hi, dl_get _ hi]
