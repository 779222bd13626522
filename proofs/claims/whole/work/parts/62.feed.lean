/-! PURE: feed -/
theorem z_lt_s {α β : Type} (x : β) (f : β → Option α) : z_lt x f = f x := Eq.trans rfl rfl
theorem z_st_s {α : Type} (m : z_M) (f : z_M → Option α) : z_st m f = f m := Eq.trans rfl rfl
def fdB (x : Int64) (k : Nat) : Int32 := (((x.toUInt64 >>> (((8 : Int32) * nI k).toInt64.toUInt64 &&& Int64.toUInt64 63)).toInt64).toInt32 &&& (255 : Int32))
theorem fd_h1 : ∀ k, k < 8 → ((((8 : Int32) * nI k).toInt64 &&& 63).toBitVec.smod 64).toNat = 8 * k := by decide +kernel
theorem fd_h2 : ∀ k, k < 8 → ((((8 : Int32) * nI k).toInt64.toUInt64 &&& Int64.toUInt64 63).toBitVec % 64).toNat = 8 * k := by decide +kernel
theorem fd_h3 : ∀ i, i < 32 → (255#64).getLsbD i = decide (i < 8) := by decide +kernel
theorem fd_eq (x : Int64) {k : Nat} (hk : k < 8) : ((x >>> (((8 : Int32) * nI k).toInt64 &&& 63)) &&& (255 : Int64)).toInt32 = fdB x k := by
  apply b_ext
  intro i hi
  unfold fdB
  rw [b_and, b_255]
  have e1 : bt (((x.toUInt64 >>> (((8 : Int32) * nI k).toInt64.toUInt64 &&& Int64.toUInt64 63)).toInt64).toInt32) i = x.toBitVec.getLsbD (8 * k + i) := by
    show ((x.toBitVec >>> ((((8 : Int32) * nI k).toInt64.toUInt64 &&& Int64.toUInt64 63).toBitVec % 64).toNat).signExtend 32).getLsbD i = _
    rw [fd_h2 k hk, BitVec.getLsbD_signExtend, BitVec.getLsbD_ushiftRight]
    simp [hi, (show i < 64 by omega)]
  have e2 : bt (((x >>> (((8 : Int32) * nI k).toInt64 &&& 63)) &&& (255 : Int64)).toInt32) i = (x.toBitVec.getLsbD (8 * k + i) && decide (i < 8)) := by
    show (((x.toBitVec.sshiftRight ((((8 : Int32) * nI k).toInt64 &&& 63).toBitVec.smod 64).toNat) &&& 255#64).signExtend 32).getLsbD i = _
    rw [fd_h1 k hk, BitVec.getLsbD_signExtend, BitVec.getLsbD_and, fd_h3 i hi, BitVec.getLsbD_sshiftRight]
    by_cases h8 : i < 8
    · simp [hi, h8, (show i < 64 by omega), (show 8 * k + i < 64 by omega)]
    · simp [h8, (show i < 64 by omega)]
  rw [e1, e2]
theorem fd_in (x : Int64) (k : Nat) : p_in (fdB x k) 0 255 := by
  unfold fdB p_in
  rw [pk_and _ 8 (by decide), nI_toInt (by omega)]
  omega
def fdL (x : Int64) : Nat → List Int32
  | 0 => []
  | k + 1 => fdB x k :: fdL x k
theorem fdL_len (x : Int64) : ∀ k, (fdL x k).length = k
  | 0 => rfl
  | k + 1 => by rw [fdL, List.length_cons, fdL_len x k]
theorem fdL_in (x : Int64) : ∀ k, ∀ y ∈ fdL x k, p_in y 0 255
  | 0, y, h => by cases h
  | k + 1, y, h => by
    rw [fdL] at h
    rcases List.mem_cons.mp h with e | h
    · rw [e]
      exact fd_in x k
    · exact fdL_in x k y h
/-- another text, another fault -/
def a_txt (A : a_A) (T : List Int32) (f : Int32) : a_A := (A.1, A.2.1, A.2.2.1, T, f, A.2.2.2.2.2)
theorem w_txt {A : a_A} (hw : w_A A) {T : List Int32} (f : Int32) (h1 : T.length ≤ 240) (h2 : ∀ x ∈ T, p_in x 0 255) : w_A (a_txt A T f) := ⟨hw.1, hw.2.1, h1, h2, hw.2.2.2.2⟩
theorem c_ship.cg {o : Nat} {s : a_S} {μ μ' : z_M} (h : c_ship μ o s) (hh : ∀ i, o ≤ i → i ≤ o + 10 → μ'.1 i = μ.1 i) : c_ship μ' o s := by
  unfold c_ship at h ⊢
  simp only [hh o (by omega) (by omega), hh (o + 1) (by omega) (by omega), hh (o + 2) (by omega) (by omega), hh (o + 3) (by omega) (by omega), hh (o + 4) (by omega) (by omega), hh (o + 5) (by omega) (by omega), hh (o + 6) (by omega) (by omega), hh (o + 7) (by omega) (by omega), hh (o + 8) (by omega) (by omega), hh (o + 9) (by omega) (by omega), hh (o + 10) (by omega) (by omega)]
  exact h
theorem c_law.cg {o : Nat} {l : a_T} {μ μ' : z_M} (h : c_law μ o l) (hh : ∀ i, o ≤ i → i ≤ o + 4 → μ'.1 i = μ.1 i) : c_law μ' o l := by
  unfold c_law at h ⊢
  simp only [hh o (by omega) (by omega), hh (o + 1) (by omega) (by omega), hh (o + 2) (by omega) (by omega), hh (o + 3) (by omega) (by omega), hh (o + 4) (by omega) (by omega)]
  exact h
theorem z_LAWS_ge : ∀ o ∈ z_LAWS, 51 ≤ o ∧ o + 4 ≤ 75 := by decide
theorem InvC.text {A : a_A} {μ μ' : z_M} {T : List Int32} {f : Int32} (h : InvC A μ) (ho : ∀ i, i ≠ 2 → i ≠ 3 → μ'.1 i = μ.1 i) (h2 : μ'.2.2 = μ.2.2) (h21 : μ'.1 2 1 = nI T.length) (ht : x_text (μ'.1 3) T) (hf : μ'.1 2 3 = f) : InvC (a_txt A T f) μ' := by
  obtain ⟨i1, i2, i3, i4, i5, ⟨lp, l1, l2, l3, l4⟩, r1, r2, r3, r4, r5⟩ := h
  refine ⟨i1.cg (fun i _ _ => ho i (by omega) (by omega)), fun i hi => ⟨?_, fun q => ((i2 i hi).2 q).cg (fun j _ _ => ho j (by omega) (by omega))⟩, h21, ht, hf, ⟨lp, l1, l2, fun n hn => ⟨?_, ((l3 n hn).2).cg (fun i _ _ => ?_)⟩, ?_⟩, ?_, ?_, ?_, ?_, ?_⟩
  · rw [ho 27 (by omega) (by omega)]
    exact (i2 i hi).1
  · rw [h2]
    exact (l3 n hn).1
  · have := z_LAWS_ge _ (l1 n (by omega))
    exact ho i (by omega) (by omega)
  · rw [h2]
    exact l4
  · rw [h2]
    exact r1
  · rw [h2]
    exact r2
  · rw [h2]
    exact r3
  · rw [ho 40 (by omega) (by omega)]
    exact r4
  · rw [ho 46 (by omega) (by omega)]
    exact r5
theorem InvM.text {A : a_A} {μ μ' : z_M} {T : List Int32} {f : Int32} (h : InvM A μ) (ho : ∀ i, i ≠ 98 → i ≠ 111 → μ'.1 i = μ.1 i) (h24 : μ'.1 98 24 = μ.1 98 24) (h27 : μ'.1 98 27 = μ.1 98 27) (h13 : μ'.1 98 13 = nI T.length) (ht : x_text (μ'.1 111) T) (hf : μ'.1 98 14 = f) : InvM (a_txt A T f) μ' := by
  obtain ⟨i1, i2, i3, i4, i5, i6, i7⟩ := h
  refine ⟨?_, ?_, ?_, h13, ht, hf, ?_⟩
  · unfold m_ship at i1 ⊢
    simp only [h24, h27, ho 114 (by decide) (by decide), ho 115 (by decide) (by decide), ho 116 (by decide) (by decide), ho 117 (by decide) (by decide), ho 118 (by decide) (by decide), ho 119 (by decide) (by decide), ho 120 (by decide) (by decide), ho 121 (by decide) (by decide), ho 122 (by decide) (by decide), ho 124 (by decide) (by decide), ho 125 (by decide) (by decide)]
    exact i1
  · rw [ho 123 (by decide) (by decide)]
    exact i2
  · unfold m_img at i3 ⊢
    simp only [ho 134 (by decide) (by decide), ho 135 (by decide) (by decide)]
    exact i3
  · unfold m_law at i7 ⊢
    simp only [ho 99 (by decide) (by decide), ho 100 (by decide) (by decide), ho 101 (by decide) (by decide), ho 102 (by decide) (by decide), ho 103 (by decide) (by decide), ho 104 (by decide) (by decide), ho 113 (by decide) (by decide)]
    exact i7
theorem x_app {f : Nat → Int32} {t : List Int32} (h : x_text f t) (b : Int32) {g : Nat → Int32} (hg : ∀ k, k ≠ t.length → g k = f k) (hb : g t.length = b) : x_text g (t ++ [b]) := by
  intro k hk
  rw [List.length_append, List.length_singleton] at hk
  by_cases e : k = t.length
  · rw [e, hb]
    simp
  · rw [hg k e, h k (by omega), List.getD_eq_getElem?_getD, List.getD_eq_getElem?_getD, List.getElem?_append_left (by omega)]
theorem p_feed4 (x : Int64) : ∀ k (A : a_A) (μ : z_M) fu, InvC A μ → A.2.2.2.1.length + k ≤ 240 → k < fu → k ≤ 8 → ∃ μ', g_X4_feed_39 fu x (nI k + (-1)) μ = some (nI (A.2.2.2.1.length + k), μ') ∧ InvC (a_txt A (A.2.2.2.1 ++ fdL x k) A.2.2.2.2.1) μ' ∧ z_hi μ μ' := by
  intro k
  induction k with
  | zero =>
    intro A μ fu hC hl hf _
    obtain ⟨fu, rfl⟩ : ∃ q, fu = q + 1 := ⟨fu - 1, by omega⟩
    refine ⟨μ, ?_, ?_, z_hi.rf μ⟩
    · unfold g_X4_feed_39
      rw [if_pos (by decide), hC.2.2.1]
      rfl
    · rw [fdL, List.append_nil]
      exact hC
  | succ k ih =>
    intro A μ fu hC hl hf h8
    obtain ⟨fu, rfl⟩ : ∃ q, fu = q + 1 := ⟨fu - 1, by omega⟩
    have h21 := hC.2.2.1
    have ea : f_X1_append (fdB x k) μ = some (z_si (z_si μ 3 A.2.2.2.1.length (fdB x k)) 2 1 (nI (A.2.2.2.1.length + 1))) := by
      unfold f_X1_append
      rw [h21, if_neg (show ¬ (240 : Int32) ≤ nI A.2.2.2.1.length from p_nle (a := 240) (by omega) (by decide)), p_g (show A.2.2.2.1.length < 240 by omega) (by decide), nI_clamp (by omega)]
      show some (z_si (z_si μ 3 A.2.2.2.1.length (fdB x k)) 2 1 ((z_si μ 3 A.2.2.2.1.length (fdB x k)).1 2 1 + 1)) = _
      rw [p_si_ne (by decide), h21, nI_1]
    have hC1 : InvC (a_txt A (A.2.2.2.1 ++ [fdB x k]) A.2.2.2.2.1) (z_si (z_si μ 3 A.2.2.2.1.length (fdB x k)) 2 1 (nI (A.2.2.2.1.length + 1))) := by
      refine hC.text (fun i h2 h3 => ?_) rfl ?_ ?_ ?_
      · rw [p_si_ne h2, p_si_ne h3]
      · rw [p_si_at, List.length_append, List.length_singleton]
      · rw [p_si_ne (by decide)]
        exact x_app hC.2.2.2.1 _ (fun j hj => p_si_nk hj) (p_si_at _ _ _ _)
      · rw [p_si_nk (by decide), p_si_ne (by decide)]
        exact hC.2.2.2.2.1
    obtain ⟨μ', e, c, hh⟩ := ih _ _ fu hC1 (by show (A.2.2.2.1 ++ [fdB x k]).length + k ≤ 240; rw [List.length_append, List.length_singleton]; omega) (by omega) (by omega)
    refine ⟨μ', ?_, ?_, ?_⟩
    · unfold g_X4_feed_39
      rw [pk_m1, if_neg (nI_pos (by omega))]
      show z_b1 (f_X1_append (fdB x k) μ) _ = _
      rw [ea, z_b1_s, e]
      show some (nI ((A.2.2.2.1 ++ [fdB x k]).length + k), μ') = _
      rw [List.length_append, List.length_singleton, show A.2.2.2.1.length + 1 + k = A.2.2.2.1.length + (k + 1) by omega]
    · rw [fdL]
      have e2 : A.2.2.2.1 ++ fdB x k :: fdL x k = (A.2.2.2.1 ++ [fdB x k]) ++ fdL x k := by simp
      rw [e2]
      exact c
    · intro i hi
      rw [hh i hi, p_si_ne (by omega), p_si_ne (by omega)]
theorem p_feed5 (x : Int64) : ∀ k (A : a_A) (μ : z_M) fu, InvM A μ → A.2.2.2.1.length + k ≤ 240 → k < fu → k ≤ 8 → ∃ μ', g_X5_feed_37 fu x (nI k + (-1)) μ = some (nI (A.2.2.2.1.length + k), μ') ∧ InvM (a_txt A (A.2.2.2.1 ++ fdL x k) A.2.2.2.2.1) μ' ∧ z_lo μ μ' := by
  intro k
  induction k with
  | zero =>
    intro A μ fu hC hl hf _
    obtain ⟨fu, rfl⟩ : ∃ q, fu = q + 1 := ⟨fu - 1, by omega⟩
    refine ⟨μ, ?_, ?_, z_lo.rf μ⟩
    · unfold g_X5_feed_37
      rw [if_pos (by decide), hC.2.2.2.1]
      rfl
    · rw [fdL, List.append_nil]
      exact hC
  | succ k ih =>
    intro A μ fu hC hl hf h8
    obtain ⟨fu, rfl⟩ : ∃ q, fu = q + 1 := ⟨fu - 1, by omega⟩
    have h21 := hC.2.2.2.1
    have hC1 : InvM (a_txt A (A.2.2.2.1 ++ [fdB x k]) A.2.2.2.2.1) (z_si (z_si μ 111 A.2.2.2.1.length (fdB x k)) 98 13 (nI (A.2.2.2.1.length + 1))) := by
      refine hC.text (fun i h2 h3 => ?_) ?_ ?_ ?_ ?_ ?_
      · rw [p_si_ne h2, p_si_ne h3]
      · rw [p_si_nk (by decide), p_si_ne (by decide)]
      · rw [p_si_nk (by decide), p_si_ne (by decide)]
      · rw [p_si_at, List.length_append, List.length_singleton]
      · rw [p_si_ne (by decide)]
        exact x_app hC.2.2.2.2.1 _ (fun j hj => p_si_nk hj) (p_si_at _ _ _ _)
      · rw [p_si_nk (by decide), p_si_ne (by decide)]
        exact hC.2.2.2.2.2.1
    obtain ⟨μ', e, c, hh⟩ := ih _ _ fu hC1 (by show (A.2.2.2.1 ++ [fdB x k]).length + k ≤ 240; rw [List.length_append, List.length_singleton]; omega) (by omega) (by omega)
    refine ⟨μ', ?_, ?_, ?_⟩
    · unfold g_X5_feed_37
      rw [pk_m1, if_neg (nI_pos (by omega)), fd_eq x (by omega), h21, p_g (show A.2.2.2.1.length < 240 by omega) (by decide), nI_clamp (by omega)]
      show g_X5_feed_37 fu x (nI k + (-1)) (z_si (z_si μ 111 A.2.2.2.1.length (fdB x k)) 98 13 ((z_si μ 111 A.2.2.2.1.length (fdB x k)).1 98 13 + 1)) = _
      rw [p_si_ne (by decide), h21, nI_1, e]
      show some (nI ((A.2.2.2.1 ++ [fdB x k]).length + k), μ') = _
      rw [List.length_append, List.length_singleton, show A.2.2.2.1.length + 1 + k = A.2.2.2.1.length + (k + 1) by omega]
    · rw [fdL]
      have e2 : A.2.2.2.1 ++ fdB x k :: fdL x k = (A.2.2.2.1 ++ [fdB x k]) ++ fdL x k := by simp
      rw [e2]
      exact c
    · refine ⟨fun i hi => ?_, hh.2⟩
      rw [hh.1 i hi, p_si_ne (by omega), p_si_ne (by omega)]
theorem s_0 : zs_0 Inv0 := by
  rintro μ ⟨A, hw, hC, hM⟩ n x
  have hlen : A.2.2.2.1.length ≤ 240 := hw.2.2.1
  by_cases h1 : p_in n 1 8
  case neg =>
    refine p_look hw hC hM (r := -1002) ?_ (fun ν hν => ?_)
    · unfold f_X4_feed
      by_cases g : n < 1
      · rw [if_pos g]
      · rw [if_neg g, if_neg]
        intro q
        apply h1
        rw [p_lt, p_z1] at g
        rw [p_le, show (8 : Int32).toInt = 8 by decide] at q
        exact ⟨by omega, q⟩
    · unfold f_X5_feed
      rw [p_in5k 1 8 (by decide) (by decide), z_b2_s, p_if0, if_neg h1]
  obtain ⟨k, rfl, hk, hk'⟩ := p_nat (x := n) (b := 8) ⟨by have := h1.1; omega, h1.2⟩
  have hk1 : 1 ≤ k := by
    have := h1.1
    rw [nI_toInt hk'] at this
    omega
  have es : nI k - 1 = nI k + (-1) := by
    rw [Int32.sub_eq_add_neg]
  have E4 : f_X4_feed (nI k) x μ = if A.2.2.2.1.length + k ≤ 240 then g_X4_feed_39 z_N x (nI k + (-1)) μ else some (-1004, μ) := by
    unfold f_X4_feed
    rw [if_neg (show ¬ nI k < 1 from nI_nlt (a := k) (b := 1) (by omega) (by omega)), if_pos (show nI k ≤ 8 from nI_le (b := 8) (by omega) (by decide)), hC.2.2.1, nI_add, es]
    by_cases g : A.2.2.2.1.length + k ≤ 240
    · rw [if_pos g, if_pos (show nI (A.2.2.2.1.length + k) ≤ 240 from nI_le (b := 240) g (by decide))]
      rw [z_lt_s]
    · rw [if_neg g, if_neg (show ¬ nI (A.2.2.2.1.length + k) ≤ 240 from nI_ge (a := 240) (by omega) (by omega))]
  have E5 : ∀ ν, InvM A ν → f_X5_feed (nI k) x ν = if A.2.2.2.1.length + k ≤ 240 then g_X5_feed_37 z_N x (nI k + (-1)) ν else some (-1004, ν) := by
    intro ν hν
    unfold f_X5_feed
    rw [p_in5k 1 8 (by decide) (by decide), z_b2_s, p_if0, if_pos h1, hν.2.2.2.1, nI_add, es]
    by_cases g : A.2.2.2.1.length + k ≤ 240
    · rw [if_pos g, if_pos (show nI (A.2.2.2.1.length + k) ≤ 240 from nI_le (b := 240) g (by decide))]
      rw [z_lt_s]
    · rw [if_neg g, if_neg (show ¬ nI (A.2.2.2.1.length + k) ≤ 240 from nI_ge (a := 240) (by omega) (by omega))]
  by_cases g : A.2.2.2.1.length + k ≤ 240
  case neg => exact p_look hw hC hM (r := -1004) (by rw [E4, if_neg g]) (fun ν hν => by rw [E5 ν hν, if_neg g])
  refine p_step hC hM (r := nI (A.2.2.2.1.length + k)) (A' := a_txt A (A.2.2.2.1 ++ fdL x k) A.2.2.2.2.1) (w_txt hw _ (by rw [List.length_append, fdL_len]; exact g) (fun y hy => ?_)) ?_ (fun ν hν => ?_)
  · rcases List.mem_append.mp hy with q | q
    · exact hw.2.2.2.1 y q
    · exact fdL_in x k y q
  · obtain ⟨μ', e, c, h⟩ := p_feed4 x k A μ z_N hC g (by have : z_N = 5000 := rfl; omega) (by omega)
    exact ⟨μ', by rw [E4, if_pos g, e], c, h⟩
  · obtain ⟨μ', e, c, h⟩ := p_feed5 x k A ν z_N hν g (by have : z_N = 5000 := rfl; omega) (by omega)
    exact ⟨μ', by rw [E5 ν hν, if_pos g, e], c, h⟩
