/-! PURE: PayOut.wantedOf, mostPayable, marshal, run -/
def wx (Q : y_Q) (x c : Nat) : Bool := (List.range 5).any (fun f => x.testBit f && Q.2.2.2.2.1 f c)
theorem p_and0 : ∀ m, m < 32 → ∀ x, x < 32 → ((nI m &&& nI x) = 0 ↔ ((List.range 5).any (fun f => x.testBit f && m.testBit f)) = false) := by decide +kernel
theorem p_wo {μ : z_M} {Q : y_Q} {L : Nat → Nat} {ln x : Nat} (hw : w_Q Q) (hp : c_pay μ Q Q.1 L ln) (hx : x < 32) : f_X2_wantedOf (nI x) μ = some (nI (sm Q.1 (fun c => if (Q.2.2.2.1 c && wx Q x c) = true then Q.2.1 c else 0)), μ) := by
  have hN : z_N = 5000 := rfl
  have h14 := hw.1
  obtain ⟨p1, p2, p3, p4, q1, q2, q3, q4⟩ := hp
  have inj : ∀ i j, i < ln → j < ln → L i = L j → i = j := by
    intro i j hi hj e
    rcases Nat.lt_trichotomy i j with q | q | q
    · have := q4 i j q hj
      rw [e] at this
      omega
    · exact q
    · have := q4 j i q hi
      rw [e] at this
      omega
  have key : ∀ m i fu, i + m = ln → m < fu → g_X2_wantedOf_4 fu (nI x) (nI (sm i (fun i => if (Q.2.2.2.1 (L i) && wx Q x (L i)) = true then Q.2.1 (L i) else 0))) (nI i) μ = some (nI (sm ln (fun i => if (Q.2.2.2.1 (L i) && wx Q x (L i)) = true then Q.2.1 (L i) else 0)), μ) := by
    intro m
    induction m with
    | zero =>
      intro i fu hi hf
      obtain ⟨fu, rfl⟩ : ∃ q, fu = q + 1 := ⟨fu - 1, by omega⟩
      have ei : i = ln := by omega
      subst ei
      rw [g_X2_wantedOf_4]
      rw [p1, if_pos (nI_le (Nat.le_refl _) (by omega))]
    | succ m ih =>
      intro i fu hi hf
      obtain ⟨fu, rfl⟩ : ∃ q, fu = q + 1 := ⟨fu - 1, by omega⟩
      have h := ih (i + 1) fu (by omega) (by omega)
      obtain ⟨hL, hal⟩ := q2 i (by omega)
      obtain ⟨M, hM, eM, bM⟩ := (p4 _ hL).2.1
      have ewx : ((List.range 5).any (fun f => x.testBit f && M.testBit f)) = wx Q x (L i) := by
        unfold wx
        rw [Bool.eq_iff_iff, List.any_eq_true, List.any_eq_true]
        constructor
        · rintro ⟨f, hf1, hf2⟩
          refine ⟨f, hf1, ?_⟩
          rw [← bM f (List.mem_range.mp hf1)]
          exact hf2
        · rintro ⟨f, hf1, hf2⟩
          refine ⟨f, hf1, ?_⟩
          rw [bM f (List.mem_range.mp hf1)]
          exact hf2
      rw [sm] at h
      rw [g_X2_wantedOf_4]
      rw [p1, if_neg (nI_ge (by omega) (by omega))]
      simp only [if_pos (p_zn (n := i) (N := 14) (by omega) (by decide)), nI_clamp (show i < 2 ^ 31 by omega), p3 i (by omega), if_pos (p_zn (n := L i) (N := 14) (by omega) (by decide)), nI_clamp (show L i < 2 ^ 31 by omega), eM, (p4 _ hL).2.2, nI_add, nI_1, z_lt_s]
      by_cases q : (nI M &&& nI x) = 0
      · rw [if_pos q]
        rw [p_and0 M hM x hx, ewx] at q
        rw [q, Bool.and_false, if_neg (by decide), Nat.add_zero] at h
        exact h
      · rw [if_neg q]
        rw [p_and0 M hM x hx, ewx, Bool.not_eq_false] at q
        rw [q, hal, Bool.and_self, if_pos rfl] at h
        exact h
  have h := key ln 0 z_N (by omega) (by omega)
  unfold f_X2_wantedOf
  rw [show nI (sm 0 _) = (0 : Int32) from rfl] at h
  rw [show (0 : Int32) = nI 0 from rfl] at h ⊢
  rw [h, sm_perm (N := Q.1) L (n := ln) (h := fun c => if (Q.2.2.2.1 c && wx Q x c) = true then Q.2.1 c else 0) (fun i hi => (q2 i hi).1) inj (fun c hc hq => ?_)]
  apply q3 c hc
  cases hh : Q.2.2.2.1 c with
  | true => rfl
  | false =>
    exfalso
    apply hq
    show (if (Q.2.2.2.1 c && wx Q x c) = true then Q.2.1 c else 0) = 0
    rw [hh]
    rfl
theorem p_cpl : ∀ e, e < 32 → ((31 : Int32) &&& (nI e ^^^ (-1 : Int32))) = nI (31 - e) ∧ ∀ f, f < 5 → (31 - e).testBit f = !(e.testBit f) := by decide +kernel
theorem p_wbd {Q : y_Q} (hw : w_Q Q) (a : Nat → Bool) : sm Q.1 (fun c => if a c = true then Q.2.1 c else 0) ≤ 14 * 999 := by
  have h1 : sm Q.1 (fun c => if a c = true then Q.2.1 c else 0) ≤ Q.1 * 999 := sm_bd (fun c hc => by
    have := (hw.2.1 c hc).1
    show (if a c = true then Q.2.1 c else 0) ≤ 999
    split <;> omega)
  exact Nat.le_trans h1 (Nat.mul_le_mul_right 999 hw.1)
theorem y_bd {Q : y_Q} {e : Nat} (he : e < 32) {k : Nat} (hk : k ∈ od) : y_T (y_p Q) (dg k) ≤ sm Q.1 (fun c => if (Q.2.2.2.1 c && wx Q (31 - e) c) = true then Q.2.1 c else 0) + sm 5 (fun f => if e.testBit f = true then Q.2.2.2.2.2 f else 0) := by
  obtain ⟨o1, o2, o3⟩ := od_dg k hk
  refine y_bound (y_p Q) (dg k) (fun f => e.testBit f) (fun c => Q.2.2.2.1 c && wx Q (31 - e) c) o1 (fun i j hi hj => o2 i hi j hj) o3 (fun c hc f hf hE hth => ?_)
  have hth : (Q.2.2.2.1 c && Q.2.2.2.2.1 f c) = true := hth
  rw [Bool.and_eq_true] at hth ⊢
  refine ⟨hth.1, ?_⟩
  unfold wx
  rw [List.any_eq_true]
  refine ⟨f, List.mem_range.mpr hf, ?_⟩
  rw [(p_cpl e he).2 f hf, hth.2]
  have hE : e.testBit f = false := hE
  rw [hE]
  rfl
theorem p_mp29 {μ : z_M} {Q : y_Q} (hw : w_Q Q) (h35 : ∀ f, f < 5 → μ.1 35 f = nI (Q.2.2.2.2.2 f)) {B e W : Nat} (he : e < 32) (k : Int32 → Int32 → z_M → Option (Int32 × z_M)) (hW : W ≤ 14 * 999) (hB : B < 2 ^ 30) : ∀ m f fu, f + m = 5 → m < fu → g_X2_mostPayable_29 k fu (nI B) (nI e) (nI (W + sm f (fun f => if e.testBit f = true then Q.2.2.2.2.2 f else 0))) (nI f) μ = k (nI (min (W + sm 5 (fun f => if e.testBit f = true then Q.2.2.2.2.2 f else 0)) B)) (nI (e + 1)) μ := by
  have hbd : ∀ n, n ≤ 5 → sm n (fun f => if e.testBit f = true then Q.2.2.2.2.2 f else 0) ≤ n * 9999 := fun n hn => sm_bd (fun f hf => by
    have := hw.2.2 f (by omega)
    show (if e.testBit f = true then Q.2.2.2.2.2 f else 0) ≤ 9999
    split <;> omega)
  intro m
  induction m with
  | zero =>
    intro f fu hf hfu
    obtain ⟨fu, rfl⟩ : ∃ q, fu = q + 1 := ⟨fu - 1, by omega⟩
    have ef : f = 5 := by omega
    subst ef
    have := hbd 5 (by omega)
    rw [g_X2_mostPayable_29]
    rw [if_pos (by decide), nI_1]
    show k (if _ then _ else _) _ μ = _
    congr 1
    by_cases q : W + sm 5 (fun f => if e.testBit f = true then Q.2.2.2.2.2 f else 0) < B
    · rw [if_pos (nI_lt q (by omega)), Nat.min_eq_left (by omega)]
    · rw [if_neg (nI_nlt (by omega) (by omega)), Nat.min_eq_right (by omega)]
  | succ m ih =>
    intro f fu hf hfu
    obtain ⟨fu, rfl⟩ : ∃ q, fu = q + 1 := ⟨fu - 1, by omega⟩
    have h := ih (f + 1) fu (by omega) (by omega)
    rw [g_X2_mostPayable_29]
    rw [if_neg (show ¬ (5 : Int32) ≤ nI f from p_nle (a := 5) (by omega) (by decide)), p_g (show f < 5 by omega) (by decide), p_bitE, z_b2_s, nI_clamp (by omega), h35 f (by omega), p_bitN e he f (by omega), nI_1]
    have e1 : nI (W + sm f (fun f => if e.testBit f = true then Q.2.2.2.2.2 f else 0)) + nI (Q.2.2.2.2.2 f) * (if e.testBit f = true then (1 : Int32) else 0) = nI (W + sm (f + 1) (fun f => if e.testBit f = true then Q.2.2.2.2.2 f else 0)) := by
      rw [sm]
      show _ = nI (W + (sm f (fun f => if e.testBit f = true then Q.2.2.2.2.2 f else 0) + (if e.testBit f = true then Q.2.2.2.2.2 f else 0)))
      by_cases q : e.testBit f = true
      · rw [if_pos q, if_pos q, show (1 : Int32) = nI 1 from rfl, pk_mul, nI_add, Nat.mul_one, Nat.add_assoc]
      · rw [if_neg q, if_neg q, show (0 : Int32) = nI 0 from rfl, pk_mul, nI_add, Nat.mul_zero, Nat.add_zero, Nat.add_zero]
    rw [e1]
    exact h
theorem p_mp9 {μ : z_M} {Q : y_Q} {L : Nat → Nat} {ln : Nat} (hw : w_Q Q) (hp : c_pay μ Q Q.1 L ln) (h35 : ∀ f, f < 5 → μ.1 35 f = nI (Q.2.2.2.2.2 f)) : ∀ m e fu B, e + m = 32 → m < fu → B < 2 ^ 30 → (∀ k ∈ od, y_T (y_p Q) (dg k) ≤ B) → ∃ B', B' < 2 ^ 30 ∧ (∀ k ∈ od, y_T (y_p Q) (dg k) ≤ B') ∧ g_X2_mostPayable_9 fu (nI B) (nI e) μ = some (nI B', μ) := by
  have hN : z_N = 5000 := rfl
  intro m
  induction m with
  | zero =>
    intro e fu B he hf hB hT
    obtain ⟨fu, rfl⟩ : ∃ q, fu = q + 1 := ⟨fu - 1, by omega⟩
    have ee : e = 32 := by omega
    subst ee
    refine ⟨B, hB, hT, ?_⟩
    rw [g_X2_mostPayable_9]
    rw [if_pos (by decide)]
  | succ m ih =>
    intro e fu B he hf hB hT
    obtain ⟨fu, rfl⟩ : ∃ q, fu = q + 1 := ⟨fu - 1, by omega⟩
    have hb := p_wbd hw (fun c => Q.2.2.2.1 c && wx Q (31 - e) c)
    have h29 := p_mp29 hw h35 (B := B) (e := e) (by omega) (fun (y28 : Int32) (y29 : Int32) (μ26 : z_M) => (g_X2_mostPayable_9 fu (y28) (y29) μ26)) hb hB 5 0 z_N (by omega) (by omega)
    obtain ⟨B', b1, b2, b3⟩ := ih (e + 1) fu (min (sm Q.1 (fun c => if (Q.2.2.2.1 c && wx Q (31 - e) c) = true then Q.2.1 c else 0) + sm 5 (fun f => if e.testBit f = true then Q.2.2.2.2.2 f else 0)) B) (by omega) (by omega) (by omega) (fun k hk => by
      have h1 := y_bd (Q := Q) (e := e) (by omega) hk
      have h2 := hT k hk
      omega)
    refine ⟨B', b1, b2, ?_⟩
    rw [g_X2_mostPayable_9]
    rw [if_neg (show ¬ (31 : Int32) < nI e from nI_nlt (a := 31) (by omega) (by decide)), (p_cpl e (by omega)).1, p_wo hw hp (by omega), z_b2_s]
    rw [sm, Nat.add_zero] at h29
    exact h29.trans b3
theorem p_mp {μ : z_M} {Q : y_Q} {L : Nat → Nat} {ln : Nat} (hw : w_Q Q) (hp : c_pay μ Q Q.1 L ln) (h35 : ∀ f, f < 5 → μ.1 35 f = nI (Q.2.2.2.2.2 f)) : ∃ B, B < 2 ^ 30 ∧ (∀ k ∈ od, y_T (y_p Q) (dg k) ≤ B) ∧ f_X2_mostPayable μ = some (nI B, μ) := by
  have hN : z_N = 5000 := rfl
  have hb := p_wbd hw (fun c => Q.2.2.2.1 c && wx Q 31 c)
  obtain ⟨B, b1, b2, b3⟩ := p_mp9 hw hp h35 31 1 z_N (sm Q.1 (fun c => if (Q.2.2.2.1 c && wx Q 31 c) = true then Q.2.1 c else 0)) (by omega) (by omega) (by omega) (fun k hk => by
    have h1 := y_bd (Q := Q) (e := 0) (by omega) hk
    have h2 : sm 5 (fun f => if (0 : Nat).testBit f = true then Q.2.2.2.2.2 f else 0) = 0 := sm_0 (fun f _ => by
      show (if (0 : Nat).testBit f = true then Q.2.2.2.2.2 f else 0) = 0
      rw [Nat.zero_testBit]
      rfl)
    rw [h2] at h1
    exact h1)
  refine ⟨B, b1, b2, ?_⟩
  unfold f_X2_mostPayable
  rw [show (31 : Int32) = nI 31 from rfl, p_wo hw hp (by decide), z_b2_s]
  exact b3
theorem c_all.un {μ μ' : z_M} {Q : y_Q} {L : Nat → Nat} {ln : Nat} {o o' : Nat → Nat} {i j : Nat} (h : c_all μ Q L ln o i) (hu : z_un [37, 38] μ μ') (hj : j ≤ i) (ho : ∀ k, k < j → o k = o' k) (h37 : ∀ k, k < 5 → μ'.1 37 k = nI (o' k)) : c_all μ' Q L ln o' j := by
  obtain ⟨h1, h2, h3, h4, h5, h6⟩ := h
  refine ⟨h1.un hu (fun a _ _ => by simp; omega), ?_, ?_, h37, fun k hk => ⟨fun c hc => ?_, ?_⟩, fun k hk => ?_⟩
  · rw [hu.1 35 (by decide)]
    exact h2
  · rw [hu.2]
    exact h3
  · rw [hu.1 (40 + k) (by simp; omega), ← y_pa_cg k (fun q hq => ho q (by omega))]
    exact (h5 k (by omega)).1 c hc
  · rw [hu.1 46 (by decide), ← y_pa_cg k (fun q hq => ho q (by omega))]
    exact (h5 k (by omega)).2
  · rw [hu.1 36 (by decide), ← ho k hk, ← y_re_cg k (fun q hq => ho q (by omega))]
    exact h6 k (by omega)
theorem p_copy5 (μ : z_M) (a b : Nat) : ∃ μ', f_X4_copyRow a 5 b 5 μ = some μ' ∧ z_un [b] μ μ' ∧ ∀ k, k < 5 → μ'.1 b k = μ.1 a k := by
  refine ⟨_, p_copy a b 5 (by decide) μ, ⟨fun c hc => p_sw_ne (by simpa using hc), rfl⟩, fun k hk => ?_⟩
  rw [p_sw_at, if_pos hk]
theorem isO_od {k : Nat} (h : k ∈ od) : isO (dg k) := od_dg k h
theorem od_get {t : Nat} (h : t < 120) : od.getD t 0 ∈ od := by
  rw [List.getD_eq_getElem?_getD, List.getElem?_eq_getElem (by rw [od_len]; exact h)]
  exact List.getElem_mem _
def xM : List Nat := [33, 34, 36, 37, 38, 41, 42, 43, 44, 45, 46]
theorem xM_1 : ∀ a ∈ xPay, a ∈ xM := by decide
theorem xM_2 : ∀ a ∈ ([37] : List Nat), a ∈ xM := by decide
theorem xM_3 : ∀ a ∈ ([38] : List Nat), a ∈ xM := by decide
theorem y_fold_stop (P : y_P) {b : Nat} : ∀ (l : List Nat), (∀ k ∈ l, y_T P (dg k) ≤ y_T P (dg b)) → l.foldl (y_st P) (some b) = some b
  | [], _ => rfl
  | k :: l, h => by
    have h1 : y_st P (some b) k = some b := by
      show (if y_T P (dg b) < y_T P (dg k) then some k else some b) = some b
      rw [if_neg (by have := h k List.mem_cons_self; omega)]
    rw [List.foldl_cons, h1]
    exact y_fold_stop P l (fun q hq => h q (List.mem_cons_of_mem _ hq))
theorem p_mar78 {μ : z_M} {Q : y_Q} {L : Nat → Nat} {ln : Nat} {o : Nat → Nat} (hw : w_Q Q) (h : c_all μ Q L ln o 5) {b : Nat} (hb : b ∈ od) (h38 : ∀ k, k < 5 → μ.1 38 k = nI (dg b k)) : ∃ μ', g_X2_marshal_78 μ = some μ' ∧ c_all μ' Q L ln (dg b) 5 ∧ z_un xM μ μ' := by
  obtain ⟨μ1, e1, u1, c1⟩ := p_copy5 μ 38 37
  have h1 : c_all μ1 Q L ln (dg b) 0 := h.un (u1.mono (by decide)) (by omega) (fun k hk => by omega) (fun k hk => by rw [c1 k hk, h38 k hk])
  obtain ⟨μ2, e2, c2, u2⟩ := p_payAll hw (isO_od hb) (by omega) h1
  refine ⟨μ2, ?_, c2, (u1.mono xM_2).tr (u2.mono xM_1)⟩
  unfold g_X2_marshal_78
  rw [e1, z_b1_s]
  rw [show f_X2_payAllFrom 0 μ1 = some μ2 from e2, z_b1_s]
theorem p_mar25 {Q : y_Q} {L : Nat → Nat} {ln : Nat} (hw : w_Q Q) {B : Nat} (hB : B < 2 ^ 30) (hT : ∀ k ∈ od, y_T (y_p Q) (dg k) ≤ B) : ∀ m n fu b μ, n + m = 120 → 1 ≤ n → m < fu → c_all μ Q L ln (dg (od.getD (n - 1) 0)) 5 → b ∈ od → (od.take n).foldl (y_st (y_p Q)) none = some b → (∀ k, k < 5 → μ.1 38 k = nI (dg b k)) → ∃ μ', g_X2_marshal_25 fu (nI (y_T (y_p Q) (dg b))) (nI B) (nI n) μ = some μ' ∧ c_all μ' Q L ln (dg (y_code (y_p Q) 1)) 5 ∧ z_un xM μ μ' := by
  have hTl : ∀ o, y_T (y_p Q) o ≤ 14 * 999 := fun o => y_pa_bd hw o 5
  have hcode : ∀ n b, (od.take n).foldl (y_st (y_p Q)) none = some b → (∀ k ∈ od.drop n, y_T (y_p Q) (dg k) ≤ y_T (y_p Q) (dg b)) → y_code (y_p Q) 1 = b := by
    intro n b h1 h2
    unfold y_code
    rw [if_pos rfl]
    have : od.foldl (y_st (y_p Q)) none = some b := by
      rw [← List.take_append_drop n od, List.foldl_append, h1]
      exact y_fold_stop (y_p Q) _ h2
    rw [this]
    rfl
  intro m
  induction m with
  | zero =>
    intro n fu b μ hn h1 hf h hb hfold h38
    obtain ⟨fu, rfl⟩ : ∃ q, fu = q + 1 := ⟨fu - 1, by omega⟩
    have en : n = 120 := by omega
    subst en
    rw [g_X2_marshal_25]
    rw [if_pos (by decide), hcode 120 b hfold (fun k hk => by
      rw [List.drop_eq_nil_of_le (by rw [od_len]; exact Nat.le_refl _)] at hk
      cases hk)]
    exact p_mar78 hw h hb h38
  | succ m ih =>
    intro n fu b μ hn h1 hf h hb hfold h38
    obtain ⟨fu, rfl⟩ : ∃ q, fu = q + 1 := ⟨fu - 1, by omega⟩
    have hTb := hTl (dg b)
    rw [g_X2_marshal_25]
    rw [if_neg (show ¬ (120 : Int32) ≤ nI n from p_nle (a := 120) (by omega) (by decide))]
    by_cases hq : B ≤ y_T (y_p Q) (dg b)
    · rw [if_pos (nI_le hq (by omega)), hcode n b hfold (fun k hk => Nat.le_trans (hT k (List.mem_of_mem_drop hk)) hq)]
      exact p_mar78 hw h hb h38
    · rw [if_neg (nI_ge (by omega) (by omega))]
      obtain ⟨j, μ1, hj, e1, d1, u1, c1⟩ := p_next (μ := μ) (t := n - 1) (by omega) h.2.2.2.1
      rw [show n - 1 + 1 = n by omega] at d1 c1
      have hmem : od.getD n 0 ∈ od := od_get (by omega)
      have h2 : c_all μ1 Q L ln (dg (od.getD n 0)) (min j 5) := h.un (u1.mono (by decide)) (by omega) (fun k hk => d1 k (by omega)) c1
      have hj5 : ∃ μ2, f_X2_payAllFrom (nI j) μ1 = some μ2 ∧ c_all μ2 Q L ln (dg (od.getD n 0)) 5 ∧ z_un xPay μ1 μ2 := by
        have : min j 5 = j := by omega
        rw [this] at h2
        exact p_payAll hw (isO_od hmem) (by omega) h2
      obtain ⟨μ2, e2, c2, u2⟩ := hj5
      have ut : z_un xM μ μ2 := (u1.mono xM_2).tr (u2.mono xM_1)
      have e46 : μ2.1 46 5 = nI (y_T (y_p Q) (dg (od.getD n 0))) := (c2.2.2.2.2.1 5 (Nat.le_refl _)).2
      have hTn := hTl (dg (od.getD n 0))
      have htake : od.take (n + 1) = od.take n ++ [od.getD n 0] := by
        rw [List.take_succ, List.getD_eq_getElem?_getD]
        rw [List.getElem?_eq_getElem (by rw [od_len]; omega)]
        rfl
      have hfold1 : (od.take (n + 1)).foldl (y_st (y_p Q)) none = (if y_T (y_p Q) (dg b) < y_T (y_p Q) (dg (od.getD n 0)) then some (od.getD n 0) else some b) := by
        rw [htake, List.foldl_append, hfold]
        rfl
      have c5 : (5 : Int32).toNatClampNeg = 5 := by decide
      rw [e1, z_b2_s, e2, z_b1_s]
      simp only [if_pos (show z_in (5 : Int32) 6 by decide), c5, e46, z_lt_s]
      by_cases hc : y_T (y_p Q) (dg (od.getD n 0)) ≤ y_T (y_p Q) (dg b)
      · rw [if_pos (nI_le hc (by omega)), nI_1]
        rw [if_neg (by omega)] at hfold1
        obtain ⟨μ3, e3, c3, u3⟩ := ih (n + 1) fu b μ2 (by omega) (by omega) (by omega) (by rw [Nat.add_sub_cancel]; exact c2) hb hfold1 (fun k hk => by rw [u2.1 38 (by decide), u1.1 38 (by decide)]; exact h38 k hk)
        exact ⟨μ3, e3, c3, ut.tr u3⟩
      · rw [if_neg (nI_ge (by omega) (by omega)), nI_1]
        rw [if_pos (by omega)] at hfold1
        obtain ⟨μ3, e3, u3, c3⟩ := p_copy5 μ2 37 38
        obtain ⟨μ4, e4, c4, u4⟩ := ih (n + 1) fu (od.getD n 0) μ3 (by omega) (by omega) (by omega) (by
          rw [Nat.add_sub_cancel]
          exact c2.un (u3.mono (by decide)) (Nat.le_refl _) (fun _ _ => rfl) (fun k hk => by rw [u3.1 37 (by decide)]; exact c2.2.2.2.1 k hk)) hmem hfold1 (fun k hk => by rw [c3 k hk]; exact c2.2.2.2.1 k hk)
        refine ⟨μ4, ?_, c4, (ut.tr (u3.mono xM_3)).tr u4⟩
        rw [e3, z_b1_s]
        exact e4
theorem p_marshal {μ : z_M} {Q : y_Q} {L : Nat → Nat} {ln : Nat} (hw : w_Q Q) (h : c_all μ Q L ln (dg 194) 5) : ∃ μ', f_X2_marshal μ = some μ' ∧ c_all μ' Q L ln (dg (y_code (y_p Q) 1)) 5 ∧ z_un xM μ μ' := by
  have hN : z_N = 5000 := rfl
  obtain ⟨μ1, e1, u1, c1⟩ := p_copy5 μ 37 38
  have h1 : c_all μ1 Q L ln (dg 194) 5 := h.un (u1.mono (by decide)) (Nat.le_refl _) (fun _ _ => rfl) (fun k hk => by rw [u1.1 37 (by decide)]; exact h.2.2.2.1 k hk)
  obtain ⟨B, b1, b2, b3⟩ := p_mp hw h1.1 h1.2.1
  have e0 : od.getD (1 - 1) 0 = 194 := by decide +kernel
  obtain ⟨μ2, e2, c2, u2⟩ := p_mar25 hw b1 b2 119 1 z_N 194 μ1 (by omega) (by omega) (by omega) (by rw [e0]; exact h1) (by decide +kernel) (by
    have : od.take 1 = [194] := by decide +kernel
    rw [this]
    rfl) (fun k hk => by rw [c1 k hk]; exact h.2.2.2.1 k hk)
  refine ⟨μ2, ?_, c2, (u1.mono xM_3).tr u2⟩
  unfold f_X2_marshal
  have c5 : (5 : Int32).toNatClampNeg = 5 := by decide
  have e46 : μ.1 46 5 = nI (y_T (y_p Q) (dg 194)) := (h.2.2.2.2.1 5 (Nat.le_refl _)).2
  rw [if_pos (show z_in (5 : Int32) 6 by decide), c5, e46, z_lt_s, e1, z_b1_s, b3, z_b2_s]
  exact e2
def xR : List Nat := [28, 29, 30, 31, 32, 33, 34, 35, 36, 37, 38, 41, 42, 43, 44, 45, 46]
theorem p_run42 {μ : z_M} {Q : y_Q} {L : Nat → Nat} {ln : Nat} {o1 o : Nat} (hw : w_Q Q) (h1 : c_pay μ Q Q.1 L ln) (h35 : ∀ f, f < 5 → μ.1 35 f = nI (Q.2.2.2.2.2 f)) (h39 : ∀ j, j < 6 → μ.2.2 39 j = some (40 + j)) (h40 : ∀ c, c < 14 → μ.1 40 c = 0) (h46 : μ.1 46 0 = 0) {way : Nat} (hway : way < 2) : ∀ m i fu μ', i + m = 5 → m < fu → z_un [37] μ μ' → (∀ j, j < i → μ'.1 37 j = nI j) → ∃ μ'', g_X2_run_42 o1 o fu (nI way) (nI i) μ' = some μ'' ∧ c_all μ'' Q L ln (dg (y_code (y_p Q) way)) 5 ∧ z_un xM μ μ'' := by
  intro m
  induction m with
  | zero =>
    intro i fu μ' hi hf hu hc
    obtain ⟨fu, rfl⟩ : ∃ q, fu = q + 1 := ⟨fu - 1, by omega⟩
    have ei : i = 5 := by omega
    subst ei
    have d194 : ∀ j, j < 5 → dg 194 j = j := by decide +kernel
    have h0 : c_all μ' Q L ln (dg 194) 0 := by
      refine ⟨h1.un hu (fun a _ _ => by simp; omega), ?_, ?_, fun j hj => by rw [d194 j hj]; exact hc j hj, fun j hj => ⟨fun c hcc => ?_, ?_⟩, fun j hj => by omega⟩
      · rw [hu.1 35 (by decide)]
        exact h35
      · rw [hu.2]
        exact h39
      · have := hw.1
        have : j = 0 := by omega
        subst this
        rw [hu.1 40 (by decide), h40 c (by omega)]
        rfl
      · have : j = 0 := by omega
        subst this
        rw [hu.1 46 (by decide), h46, sm_0 (f := y_pa (y_p Q) (dg 194) 0) (fun _ _ => rfl)]
        rfl
    obtain ⟨μ1, e1, c1, u1⟩ := p_payAll hw (isO_od (by decide +kernel)) (by omega) h0
    rw [g_X2_run_42]
    rw [if_pos (by decide)]
    rw [show f_X2_payAllFrom 0 μ' = some μ1 from e1, z_b1_s]
    by_cases e : way = 1
    · subst e
      rw [if_pos (by decide)]
      obtain ⟨μ2, e2, c2, u2⟩ := p_marshal hw c1
      exact ⟨μ2, by rw [e2, z_b1_s], c2, ((hu.mono xM_2).tr (u1.mono xM_1)).tr u2⟩
    · have : way = 0 := by omega
      subst this
      rw [if_neg (by decide)]
      exact ⟨μ1, rfl, c1, (hu.mono xM_2).tr (u1.mono xM_1)⟩
  | succ m ih =>
    intro i fu μ' hi hf hu hc
    obtain ⟨fu, rfl⟩ : ∃ q, fu = q + 1 := ⟨fu - 1, by omega⟩
    rw [g_X2_run_42]
    rw [if_neg (show ¬ (5 : Int32) ≤ nI i from p_nle (a := 5) (by omega) (by decide)), p_g (show i < 5 by omega) (by decide), nI_clamp (by omega), nI_1]
    exact ih (i + 1) fu (z_si μ' 37 i (nI i)) (by omega) (by omega) (hu.si (by simp) _ _) (fun j hj => by
      by_cases e : j = i
      · rw [e, p_si_at]
      · rw [p_si_nk e, hc j (by omega)])
/-- PAID OUT, on the class's side -/
theorem p_run {μ : z_M} {o o1 : Nat} {s : a_S} {l : a_T} (hs : w_ship s) (hl : w_law l) (cs : c_ship μ o s) (cl : c_law μ o1 l) (ho : o + 10 < 28) (ho1 : 51 ≤ o1) {d : Int32} (hd : d.toInt ≤ 999) (h39 : ∀ j, j < 6 → μ.2.2 39 j = some (40 + j)) (h40 : ∀ c, c < 14 → μ.1 40 c = 0) (h46 : μ.1 46 0 = 0) {way : Nat} (hway : way < 2) : ∃ L ln μ', f_X2_run o1 o d (nI way) μ = some μ' ∧ c_all μ' (y_of l s d) L ln (dg (y_code (y_p (y_of l s d)) way)) 5 ∧ z_un xR μ μ' ∧ μ'.1 46 0 = 0 := by
  obtain ⟨L, ln, μ1, e1, u1, c1⟩ := p_lineUp hs hl cs cl ho (by omega) hd
  obtain ⟨μ2, e2, u2, c2⟩ := p_copy5 μ1 (o + 9) 35
  have hw := w_of hs hl d
  have hX1 : ∀ a ∈ ([28, 29, 30, 31, 32] : List Nat), a ∈ xR := by decide
  have hX2 : ∀ a ∈ ([35] : List Nat), a ∈ xR := by decide
  have hX3 : ∀ a ∈ xM, a ∈ xR := by decide
  have s0 := p_am (b := 9999) (hs.2.2.2.2.1 0 (by decide))
  have k0 := p_am (b := 999) hl.2.2.2.2.2.1
  have e35 : ∀ f, f < 5 → μ2.1 35 f = s.2.2 10 f := by
    intro f hf
    rw [c2 f hf, u1.1 (o + 9) (by simp; omega)]
    exact cs.2.2.2.2.1 f hf
  have eo : μ2.1 o1 10 = l 6 3 := by
    rw [u2.1 o1 (by simp; omega), u1.1 o1 (by simp; omega)]
    exact cl.2.2.2.2.2.1
  have ecost : (if (0 : Int32) < (s.2.2 10 0 - l 6 3) then (s.2.2 10 0 - l 6 3) else (0 : Int32)) = nI ((s.2.2 10 0).toNatClampNeg - (l 6 3).toNatClampNeg) := by
    generalize (s.2.2 10 0).toNatClampNeg = x at *
    generalize (l 6 3).toNatClampNeg = y at *
    rw [s0.1, k0.1]
    by_cases q : y < x
    · rw [pk_sub (by omega), if_pos (show (0 : Int32) < nI (x - y) from nI_lt (a := 0) (by omega) (by omega))]
    · have hle : (nI x - nI y).toInt = (x : Int) - y := pk_sub_toInt (by omega) (by omega)
      rw [if_neg (by rw [p_lt, p_z0, hle]; omega), show x - y = 0 by omega]
      rfl
  have u3 : z_un xR μ (z_si μ2 35 0 (nI ((s.2.2 10 0).toNatClampNeg - (l 6 3).toNatClampNeg))) := ((u1.mono hX1).tr (u2.mono hX2)).si (by decide) _ _
  have c3 : c_pay (z_si μ2 35 0 (nI ((s.2.2 10 0).toNatClampNeg - (l 6 3).toNatClampNeg))) (y_of l s d) (y_of l s d).1 L ln := c1.un (u2.si (by simp) 0 _) (fun a _ _ => by simp; omega)
  have h35 : ∀ f, f < 5 → (z_si μ2 35 0 (nI ((s.2.2 10 0).toNatClampNeg - (l 6 3).toNatClampNeg))).1 35 f = nI ((y_of l s d).2.2.2.2.2 f) := by
    intro f hf
    show _ = nI (if f = 0 then (s.2.2 10 0).toNatClampNeg - (l 6 3).toNatClampNeg else (s.2.2 10 f).toNatClampNeg)
    by_cases e : f = 0
    · rw [if_pos e, e, p_si_at]
    · rw [if_neg e, p_si_nk e, e35 f hf]
      exact (p_am (b := 9999) (hs.2.2.2.2.1 f hf)).1
  have g40 : ∀ c, c < 14 → (z_si μ2 35 0 (nI ((s.2.2 10 0).toNatClampNeg - (l 6 3).toNatClampNeg))).1 40 c = 0 := by
    intro c hc
    rw [u3.1 40 (by decide)]
    exact h40 c hc
  have g46 : (z_si μ2 35 0 (nI ((s.2.2 10 0).toNatClampNeg - (l 6 3).toNatClampNeg))).1 46 0 = 0 := by
    rw [p_si_ne (by decide), u2.1 46 (by decide), u1.1 46 (by decide)]
    exact h46
  obtain ⟨μ', e4, c4, u4⟩ := p_run42 (o1 := o1) (o := o) hw c3 h35 (by rw [u3.2]; exact h39) g40 g46 hway 5 0 z_N _ (by omega) (by have : z_N = 5000 := rfl; omega) (z_un.rf _ _) (fun j hj => by omega)
  refine ⟨L, ln, μ', ?_, c4, u3.tr (u4.mono hX3), ?_⟩
  · unfold f_X2_run
    rw [e1, z_b1_s, e2, z_b1_s]
    have c0 : (0 : Int32).toNatClampNeg = 0 := by decide
    rw [if_pos (show z_in (0 : Int32) 5 by decide), if_pos (show z_in (0 : Int32) 5 by decide), c0, e35 0 (by decide), eo, ecost, z_st_s]
    exact e4
  · have := (c4.2.2.2.2.1 0 (by omega)).2
    rw [this, sm_0 (f := y_pa (y_p (y_of l s d)) (dg (y_code (y_p (y_of l s d)) way)) 0) (fun _ _ => rfl)]
    rfl
