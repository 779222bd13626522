/-! PURE: what a pay-out shows; scratch cells -/
def scC : List Nat := [15, 16, 17, 18, 19, 20, 21, 22, 23, 24, 25, 28, 29, 30, 31, 32, 33, 34, 35, 36, 37, 38, 41, 42, 43, 44, 45, 46, 47, 48, 49, 50]
def scM : List Nat := [126, 127, 128, 129, 130, 131, 132, 133]
theorem scC_no {a : Nat} (h : a < 15 ∨ a = 26 ∨ a = 27 ∨ a = 39 ∨ a = 40 ∨ 50 < a) : a ∉ scC := by
  unfold scC
  simp
  omega
theorem scM_no {a : Nat} (h : a < 126 ∨ 133 < a) : a ∉ scM := by
  unfold scM
  simp
  omega
theorem InvC.scr {A : a_A} {μ μ' : z_M} (h : InvC A μ) (hu : z_un scC μ μ') (h46 : μ'.1 46 0 = 0) : InvC A μ' := by
  obtain ⟨i1, i2, i3, i4, i5, ⟨lp, l1, l2, l3, l4⟩, r1, r2, r3, r4, r5⟩ := h
  have e2 : μ'.2.2 = μ.2.2 := by rw [hu.2]
  refine ⟨i1.cg (fun i _ _ => hu.1 i (scC_no (by omega))), fun i hi => ⟨?_, fun q => ((i2 i hi).2 q).cg (fun j _ _ => hu.1 j (scC_no (by omega)))⟩, ?_, ?_, ?_, ⟨lp, l1, l2, fun n hn => ⟨?_, ((l3 n hn).2).cg (fun i _ _ => ?_)⟩, ?_⟩, ?_, ?_, ?_, ?_, h46⟩
  · rw [hu.1 27 (scC_no (by omega))]
    exact (i2 i hi).1
  · rw [hu.1 2 (scC_no (by omega))]
    exact i3
  · rw [hu.1 3 (scC_no (by omega))]
    exact i4
  · rw [hu.1 2 (scC_no (by omega))]
    exact i5
  · rw [e2]
    exact (l3 n hn).1
  · have := z_LAWS_ge _ (l1 n (by omega))
    exact hu.1 i (scC_no (by omega))
  · rw [e2]
    exact l4
  · rw [e2]
    exact r1
  · rw [e2]
    exact r2
  · rw [e2]
    exact r3
  · rw [hu.1 40 (scC_no (by omega))]
    exact r4
theorem z_hi_un {μ μ' : z_M} (hu : z_un scC μ μ') : z_hi μ μ' := fun i hi => hu.1 i (scC_no (by omega))
theorem InvM.scr {A : a_A} {μ μ' : z_M} (h : InvM A μ) (hu : z_un scM μ μ') : InvM A μ' := by
  have e : ∀ a, (a < 126 ∨ 133 < a) → μ'.1 a = μ.1 a := fun a ha => hu.1 a (scM_no ha)
  have e98 := e 98 (by decide); have e99 := e 99 (by decide); have e100 := e 100 (by decide); have e101 := e 101 (by decide); have e102 := e 102 (by decide); have e103 := e 103 (by decide); have e104 := e 104 (by decide); have e111 := e 111 (by decide); have e113 := e 113 (by decide); have e114 := e 114 (by decide); have e115 := e 115 (by decide); have e116 := e 116 (by decide); have e117 := e 117 (by decide); have e118 := e 118 (by decide); have e119 := e 119 (by decide); have e120 := e 120 (by decide); have e121 := e 121 (by decide); have e122 := e 122 (by decide); have e123 := e 123 (by decide); have e124 := e 124 (by decide); have e125 := e 125 (by decide); have e134 := e 134 (by decide); have e135 := e 135 (by decide)
  unfold InvM m_ship m_img m_law at h ⊢
  simp only [e98, e99, e100, e101, e102, e103, e104, e111, e113, e114, e115, e116, e117, e118, e119, e120, e121, e122, e123, e124, e125, e134, e135]
  exact h
theorem z_lo_un {μ μ' : z_M} (hu : z_un scM μ μ') : z_lo μ μ' := ⟨fun i hi => hu.1 i (scM_no (by omega)), by rw [hu.2]⟩
/-! ranges -/
theorem p_rA {α : Type} {L H : Int32} (m n : Int) (hL : L.toInt = m) (hH : H.toInt = n) (x : Int32) (a b : α) : (if x < L then a else if H < x then a else b) = if p_in x m n then b else a := by
  unfold p_in
  by_cases h1 : x < L
  · rw [if_pos h1]
    rw [p_lt, hL] at h1
    rw [if_neg (by omega)]
  · rw [if_neg h1]
    rw [p_lt, hL] at h1
    by_cases h2 : H < x
    · rw [if_pos h2]
      rw [p_lt, hH] at h2
      rw [if_neg (by omega)]
    · rw [if_neg h2]
      rw [p_lt, hH] at h2
      rw [if_pos (by omega)]
theorem p_rB {α : Type} {L H : Int32} (m n : Int) (hL : L.toInt = m) (hH : H.toInt = n) (x : Int32) (a b : α) : (if x < L then a else if x ≤ H then b else a) = if p_in x m n then b else a := by
  unfold p_in
  by_cases h1 : x < L
  · rw [if_pos h1]
    rw [p_lt, hL] at h1
    rw [if_neg (by omega)]
  · rw [if_neg h1]
    rw [p_lt, hL] at h1
    by_cases h2 : x ≤ H
    · rw [if_pos h2]
      rw [p_le, hH] at h2
      rw [if_pos (by omega)]
    · rw [if_neg h2]
      rw [p_le, hH] at h2
      rw [if_neg (by omega)]
/-! what it shows -/
noncomputable def q_o (Q : y_Q) (way : Nat) : Nat → Nat := dg (y_code (y_p Q) way)
noncomputable def q_pd (Q : y_Q) (way : Nat) : Nat → Nat := y_pa (y_p Q) (q_o Q way) 5
noncomputable def q_lf (Q : y_Q) (way : Nat) : Nat → Nat := y_rs (y_p Q) (q_o Q way) 5
theorem q_isO (Q : y_Q) (way : Nat) : isO (q_o Q way) := isO_od (y_code_mem (y_p Q) way)
theorem y_rs_at {P : y_P} {o : Nat → Nat} (ho : isO o) {j : Nat} (hj : j < 5) : ∀ i, i ≤ 5 → j < i → y_rs P o i (o j) = y_re P o j
  | 0, _, h => by omega
  | i + 1, h5, h => by
    rw [y_rs]
    by_cases e : i = j
    · rw [e, if_pos rfl]
    · rw [if_neg (fun q => e (ho.2.1 i (by omega) j hj q)), y_rs_at ho hj i (by omega) (by omega)]
theorem q_pd_le {Q : y_Q} (hw : w_Q Q) (way : Nat) {c : Nat} (hc : c < Q.1) : q_pd Q way c ≤ 999 := Nat.le_trans (y_pa_le (y_p Q) _ 5 c) (hw.2.1 c hc).1
theorem q_lf_le {Q : y_Q} (hw : w_Q Q) (way : Nat) {f : Nat} (hf : f < 5) : q_lf Q way f ≤ 9999 := Nat.le_trans (y_rs_le (y_p Q) _ f 5) (hw.2.2 f hf)
def c_out (μ : z_M) (Q : y_Q) (way : Nat) : Prop := (∀ c, c < Q.1 → μ.1 45 c = nI (q_pd Q way c)) ∧ (∀ f, f < 5 → μ.1 36 f = nI (q_lf Q way f)) ∧ (∀ j, j < 5 → μ.1 37 j = nI (q_o Q way j)) ∧ μ.1 46 5 = nI (sm Q.1 (q_pd Q way)) ∧ μ.1 28 2 = nI Q.1 ∧ μ.2.2 39 5 = some 45
theorem c_all.out {μ : z_M} {Q : y_Q} {L : Nat → Nat} {ln way : Nat} (h : c_all μ Q L ln (q_o Q way) 5) : c_out μ Q way := by
  have ho := q_isO Q way
  obtain ⟨h1, h2, h3, h4, h5, h6⟩ := h
  refine ⟨fun c hc => (h5 5 (Nat.le_refl _)).1 c hc, fun f hf => ?_, h4, (h5 5 (Nat.le_refl _)).2, h1.2.1, h3 5 (by decide)⟩
  obtain ⟨j, hj, ej⟩ := ho.2.2 f hf
  rw [← ej, h6 j hj]
  unfold q_lf
  rw [y_rs_at ho hj 5 (Nat.le_refl _) hj]
def m_out (ν : z_M) (Q : y_Q) (way : Nat) : Prop := (∀ c, c < Q.1 → ν.1 126 c = nI (q_pd Q way c)) ∧ (∀ f, f < 5 → ν.1 127 f = nI (q_lf Q way f)) ∧ (∀ j, j < 5 → ν.1 128 j = nI (q_o Q way j)) ∧ (∀ k, k < 3 → ν.1 129 k = nI (y_le (y_p Q) (q_o Q way) 5 k))
theorem y_og_0 (l : a_T) (s : a_S) (d : Int32) : y_og l s d (fun _ => false) = y_of l s d := by
  unfold y_og
  refine Prod.ext rfl (Prod.ext (funext fun c => ?_) rfl)
  show (if false = true then 0 else (s.2.2 6 c).toNatClampNeg) = (s.2.2 6 c).toNatClampNeg
  rw [if_neg (by decide)]
/-- a run of the class on the ship itself (4) or on the supposed one (15) -/
theorem k_run {A : a_A} {μ : z_M} (hw : w_A A) (hC : InvC A μ) {n : Nat} (hn : n < 4) {d : Int32} (hd : p_in d 0 999) {way : Nat} (hway : way < 2) {o : Nat} (ho : o = 4 ∨ o = 15) {s : a_S} (hs : w_ship s) (cs : c_ship μ o s) : ∃ o1 L ln μ', μ.2.2 1 n = some o1 ∧ f_X2_run o1 o d (nI way) μ = some μ' ∧ c_all μ' (y_of (A.2.2.2.2.2 n) s d) L ln (q_o (y_of (A.2.2.2.2.2 n) s d) way) 5 ∧ z_un xR μ μ' ∧ InvC A μ' := by
  obtain ⟨lp, l1, l2, l3, l4⟩ := hC.2.2.2.2.2.1
  obtain ⟨r1, r2, r3, r4, r5⟩ := hC.2.2.2.2.2.2
  have hlp := z_LAWS_ge _ (l1 n (by omega))
  obtain ⟨L, ln, μ', e1, c1, u1, g1⟩ := p_run hs (hw.2.2.2.2 n hn) cs (l3 n hn).2 (by omega) (by omega) hd.2 r3 r4 r5 hway
  exact ⟨lp n, L, ln, μ', (l3 n hn).1, e1, c1, u1, hC.scr (u1.mono (by decide)) g1⟩
theorem xR_sc : ∀ a ∈ xR, a ∈ scC := by decide
theorem xO_sc : ∀ a ∈ xO, a ∈ scM := by decide
/-- the reference's cells, nothing gone -/
theorem InvM.ctx {A : a_A} {ν : z_M} (h : InvM A ν) (hw : w_A A) {n : Nat} (hn : n < 4) : m_ctx ν n (A.2.2.2.2.2 n) A.1 (fun _ => false) := by
  refine ⟨h.1, h.2.2.2.2.2.2 n hn, fun c hc => ?_⟩
  have := hw.1.2.1
  rw [h.2.1 c (by omega), if_neg (show ¬ ((fun _ => false) c = true) from fun q => absurd q (by simp))]
theorem k_out {ν : z_M} {n : Nat} {l : a_T} {s : a_S} {g : Nat → Bool} (hs : w_ship s) (hl : w_law l) (hn : n < 4) (hm : m_ctx ν n l s g) (d : Int32) {way : Nat} (hway : way < 2) : ∃ ν', f_X5_payOut (nI n) d (nI way) ν = some ν' ∧ z_un xO ν ν' ∧ m_out ν' (y_og l s d g) way := by
  obtain ⟨ν', e, u, a, b⟩ := p_payOut (d := d) hs hl hn hm hway
  exact ⟨ν', e, u, a.1, a.2.1, b, a.2.2⟩
/-! holding, having -/
noncomputable def q_hd (Q : y_Q) (way : Nat) (s : a_S) (h : Int32) : Nat := sm s.2.1 (fun c => if s.2.2 4 c = h then q_pd Q way c else 0) + sm 3 (fun k => if s.2.2 11 k = h then q_lf Q way (2 + k) else 0)
theorem p_hold {μ : z_M} {Q : y_Q} {way o : Nat} {s : a_S} (hs : w_ship s) (hQ : Q.1 = s.2.1) (hc : c_out μ Q way) (cs : c_ship μ o s) (h : Int32) : f_X2_holding o h μ = some (nI (q_hd Q way s h), μ) := by
  have h14 : s.2.1 ≤ 14 := hs.2.1
  have hN : z_N = 5000 := rfl
  obtain ⟨o1, o2, o3, o4, o5, o6⟩ := hc
  have k46 : ∀ m k fu, k + m = 3 → m < fu → g_X2_holding_46 o fu h (nI (sm s.2.1 (fun c => if s.2.2 4 c = h then q_pd Q way c else 0) + sm k (fun k => if s.2.2 11 k = h then q_lf Q way (2 + k) else 0))) (nI k) μ = some (nI (q_hd Q way s h), μ) := by
    intro m
    induction m with
    | zero =>
      intro k fu hk hf
      obtain ⟨fu, rfl⟩ : ∃ q, fu = q + 1 := ⟨fu - 1, by omega⟩
      have ek : k = 3 := by omega
      subst ek
      rw [g_X2_holding_46]
      rw [if_pos (by decide)]
      rfl
    | succ m ih =>
      intro k fu hk hf
      obtain ⟨fu, rfl⟩ : ∃ q, fu = q + 1 := ⟨fu - 1, by omega⟩
      have h1 := ih (k + 1) fu (by omega) (by omega)
      rw [sm] at h1
      have e2 : (2 : Int32) + nI k = nI (2 + k) := nI_add 2 k
      rw [g_X2_holding_46]
      rw [if_neg (show ¬ (3 : Int32) ≤ nI k from p_nle (a := 3) (by omega) (by decide)), p_g (show k < 3 by omega) (by decide), e2, p_g (show 2 + k < 5 by omega) (by decide)]
      simp only [nI_clamp (show k < 2 ^ 31 by omega), nI_clamp (show 2 + k < 2 ^ 31 by omega), cs.2.2.2.2.2 k (by omega), o2 (2 + k) (by omega), z_lt_s, nI_add, nI_1]
      by_cases q : s.2.2 11 k = h
      · rw [if_pos q]
        rw [if_pos q, ← Nat.add_assoc] at h1
        exact h1
      · rw [if_neg q]
        rw [if_neg q, Nat.add_zero] at h1
        exact h1
  have k5 : ∀ m c fu, c + m = s.2.1 → m < fu → g_X2_holding_5 o fu h (nI (sm c (fun c => if s.2.2 4 c = h then q_pd Q way c else 0))) (nI c) μ = some (nI (q_hd Q way s h), μ) := by
    intro m
    induction m with
    | zero =>
      intro c fu hk hf
      obtain ⟨fu, rfl⟩ : ∃ q, fu = q + 1 := ⟨fu - 1, by omega⟩
      have ec : c = s.2.1 := by omega
      subst ec
      rw [g_X2_holding_5]
      rw [o5, hQ, if_pos (nI_le (Nat.le_refl _) (by omega))]
      exact k46 3 0 z_N (by omega) (by omega)
    | succ m ih =>
      intro c fu hk hf
      obtain ⟨fu, rfl⟩ : ∃ q, fu = q + 1 := ⟨fu - 1, by omega⟩
      have h1 := ih (c + 1) fu (by omega) (by omega)
      rw [sm] at h1
      have c5 : (5 : Int32).toNatClampNeg = 5 := by decide
      rw [g_X2_holding_5]
      rw [o5, hQ, if_neg (nI_ge (by omega) (by omega)), p_g (show c < 14 by omega) (by decide)]
      simp only [if_pos (show z_in (5 : Int32) 6 by decide), c5, o6, Option.bind_some, if_pos (p_zn (n := c) (N := 14) (by omega) (by decide)), nI_clamp (show c < 2 ^ 31 by omega), (cs.2.2.2.1 c (by omega)).2.1, o1 c (by omega), z_lt_s, nI_add, nI_1]
      by_cases q : s.2.2 4 c = h
      · rw [if_pos q]
        rw [if_pos q] at h1
        exact h1
      · rw [if_neg q]
        rw [if_neg q, Nat.add_zero] at h1
        exact h1
  unfold f_X2_holding
  exact k5 s.2.1 0 z_N (by omega) (by omega)
theorem p_hav {ν : z_M} {Q : y_Q} {way : Nat} {s : a_S} (hs : w_ship s) (hQ : Q.1 = s.2.1) (hc : m_out ν Q way) (ms : m_ship ν s) (h : Int32) : f_X5_having h ν = some (if h = -1 then nI (sm s.2.1 (q_pd Q way)) else nI (q_hd Q way s h), ν) := by
  have h14 : s.2.1 ≤ 14 := hs.2.1
  have hN : z_N = 5000 := rfl
  obtain ⟨o1, o2, o3, o4⟩ := hc
  have k48 : ∀ X m k fu, k + m = 3 → m < fu → g_X5_having_48 fu h (nI (X + sm k (fun k => if s.2.2 11 k = h then q_lf Q way (2 + k) else 0))) (nI k) ν = some (nI (X + sm 3 (fun k => if s.2.2 11 k = h then q_lf Q way (2 + k) else 0)), ν) := by
    intro X m
    induction m with
    | zero =>
      intro k fu hk hf
      obtain ⟨fu, rfl⟩ : ∃ q, fu = q + 1 := ⟨fu - 1, by omega⟩
      have ek : k = 3 := by omega
      subst ek
      rw [g_X5_having_48]
      rw [if_pos (by decide)]
    | succ m ih =>
      intro k fu hk hf
      obtain ⟨fu, rfl⟩ : ∃ q, fu = q + 1 := ⟨fu - 1, by omega⟩
      have h1 := ih (k + 1) fu (by omega) (by omega)
      rw [sm] at h1
      have e2 : (2 : Int32) + nI k = nI (2 + k) := nI_add 2 k
      rw [g_X5_having_48]
      rw [if_neg (show ¬ (3 : Int32) ≤ nI k from p_nle (a := 3) (by omega) (by decide)), p_g (show k < 3 by omega) (by decide), e2, if_pos (fun _ => p_zn (n := 2 + k) (N := 5) (by omega) (by decide))]
      simp only [nI_clamp (show k < 2 ^ 31 by omega), nI_clamp (show 2 + k < 2 ^ 31 by omega), ms.2.2.2.2.2 k (by omega), o2 (2 + k) (by omega), z_lt_s, nI_1]
      by_cases q : s.2.2 11 k = h
      · rw [if_pos q, nI_add]
        rw [if_pos q, ← Nat.add_assoc] at h1
        exact h1
      · rw [if_neg q, Int32.add_zero]
        rw [if_neg q, Nat.add_zero] at h1
        exact h1
  have k4 : ∀ m c fu, c + m = s.2.1 → m < fu → g_X5_having_4 fu h (nI (sm c (fun c => if h = -1 ∨ s.2.2 4 c = h then q_pd Q way c else 0))) (nI c) ν = some (nI (sm s.2.1 (fun c => if h = -1 ∨ s.2.2 4 c = h then q_pd Q way c else 0) + sm 3 (fun k => if s.2.2 11 k = h then q_lf Q way (2 + k) else 0)), ν) := by
    intro m
    induction m with
    | zero =>
      intro c fu hk hf
      obtain ⟨fu, rfl⟩ : ∃ q, fu = q + 1 := ⟨fu - 1, by omega⟩
      have ec : c = s.2.1 := by omega
      subst ec
      rw [g_X5_having_4]
      rw [ms.2.1, if_pos (nI_le (Nat.le_refl _) (by omega))]
      exact k48 _ 3 0 z_N (by omega) (by omega)
    | succ m ih =>
      intro c fu hk hf
      obtain ⟨fu, rfl⟩ : ∃ q, fu = q + 1 := ⟨fu - 1, by omega⟩
      have h1 := ih (c + 1) fu (by omega) (by omega)
      rw [sm] at h1
      have hz : z_in (nI c) 15 := p_zn (by omega) (by decide)
      rw [g_X5_having_4]
      rw [ms.2.1, if_neg (nI_ge (by omega) (by omega)), if_pos ⟨fun _ => hz, fun _ => hz, fun _ _ => hz⟩]
      simp only [nI_clamp (show c < 2 ^ 31 by omega), (ms.2.2.2.1 c (by omega)).2.1, o1 c (by omega), z_lt_s, nI_1]
      by_cases q1 : h = -1
      · rw [if_pos q1, nI_add]
        rw [if_pos (Or.inl q1)] at h1
        exact h1
      · rw [if_neg q1]
        by_cases q : s.2.2 4 c = h
        · rw [if_pos q, nI_add]
          rw [if_pos (Or.inr q)] at h1
          exact h1
        · rw [if_neg q, Int32.add_zero]
          rw [if_neg (fun w => w.elim q1 q), Nat.add_zero] at h1
          exact h1
  have h0 := k4 s.2.1 0 z_N (by omega) (by omega)
  unfold f_X5_having
  refine h0.trans ?_
  congr 2
  by_cases q1 : h = -1
  · rw [if_pos q1]
    congr 1
    rw [sm_0 (f := fun k => if s.2.2 11 k = h then q_lf Q way (2 + k) else 0) (n := 3) (fun k hk => by
      have := (hs.2.2.2.2.2 k hk).1
      show (if s.2.2 11 k = h then q_lf Q way (2 + k) else 0) = 0
      rw [if_neg]
      intro e
      rw [e, q1, p_zm1] at this
      omega)]
    exact sm_cg (fun c hc => if_pos (Or.inl q1))
  · rw [if_neg q1]
    unfold q_hd
    congr 2
    exact sm_cg (fun c hc => by
      show (if h = -1 ∨ s.2.2 4 c = h then q_pd Q way c else 0) = (if s.2.2 4 c = h then q_pd Q way c else 0)
      by_cases q : s.2.2 4 c = h
      · rw [if_pos q, if_pos (Or.inr q)]
      · rw [if_neg q, if_neg (fun w => w.elim q1 q)])
theorem p_paidTo {μ : z_M} {Q : y_Q} {way : Nat} (hw : w_Q Q) (hc : c_out μ Q way) {c : Nat} (h : c < Q.1) : f_X2_paidTo (nI c) μ = some (nI (q_pd Q way c), μ) := by
  have := hw.1
  have c5 : (5 : Int32).toNatClampNeg = 5 := by decide
  unfold f_X2_paidTo
  rw [if_neg (nI_pos (by omega)), if_neg (show ¬ (14 : Int32) ≤ nI c from p_nle (a := 14) (by omega) (by decide)), if_pos (show z_in (5 : Int32) 6 by decide), c5, hc.2.2.2.2.2, Option.bind_some, p_g (show c < 14 by omega) (by decide), nI_clamp (by omega), hc.1 c h]
