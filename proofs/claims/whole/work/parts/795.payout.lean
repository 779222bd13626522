/-! PURE: the reference's payAll, payOut -/
def m_at (ν : z_M) (P : y_P) (o : Nat → Nat) (i : Nat) : Prop := (∀ c, c < P.1 → ν.1 126 c = nI (y_pa P o i c)) ∧ (∀ f, f < 5 → ν.1 127 f = nI (y_rs P o i f)) ∧ (∀ k, k < 3 → ν.1 129 k = nI (y_le P o i k))
theorem y_rs_new {P : y_P} {o : Nat → Nat} {f : Nat} : ∀ i, (∀ j, j < i → o j ≠ f) → y_rs P o i f = P.2.2.2.2.1 f
  | 0, _ => rfl
  | i + 1, h => by rw [y_rs, if_neg (h i (by omega)), y_rs_new i (fun j hj => h j (by omega))]
theorem y_le_new {P : y_P} {o : Nat → Nat} {k : Nat} : ∀ i, (∀ j, j < i → o j ≠ k + 2) → y_le P o i k = 0
  | 0, _ => rfl
  | i + 1, h => by rw [y_le, if_neg (h i (by omega)), y_le_new i (fun j hj => h j (by omega))]
section
variable {n : Nat} {l : a_T} {s : a_S} {g : Nat → Bool} {d : Int32} {o : Nat → Nat}
theorem p_202 (hs : w_ship s) (hl : w_law l) {ν : z_M} (hm : m_ctx ν n l s g) (h : m_at ν (y_p (y_og l s d g)) o 5) : ∀ m c fu, c + m = s.2.1 → m < fu → g_X5_payAll_202 fu (nI (sm c (y_pa (y_p (y_og l s d g)) o 5))) (nI c) ν = some (nI (y_T (y_p (y_og l s d g)) o), ν) := by
  have h14 : s.2.1 ≤ 14 := hs.2.1
  intro m
  induction m with
  | zero =>
    intro c fu hc hf
    obtain ⟨fu, rfl⟩ : ∃ q, fu = q + 1 := ⟨fu - 1, by omega⟩
    have ec : c = s.2.1 := by omega
    subst ec
    rw [g_X5_payAll_202]
    rw [hm.1.2.1, if_pos (nI_le (Nat.le_refl _) (by omega))]
    rfl
  | succ m ih =>
    intro c fu hc hf
    obtain ⟨fu, rfl⟩ : ∃ q, fu = q + 1 := ⟨fu - 1, by omega⟩
    have h1 := ih (c + 1) fu (by omega) (by omega)
    rw [sm] at h1
    rw [g_X5_payAll_202]
    rw [hm.1.2.1, if_neg (nI_ge (by omega) (by omega)), p_g (show c < 15 by omega) (by decide), nI_clamp (by omega), h.1 c (show c < s.2.1 by omega), z_lt_s, nI_add, nI_1]
    exact h1
theorem p_110 (hs : w_ship s) (hl : w_law l) (hn : n < 4) (ho : isO o) : ∀ m i fu ν, i + m = 5 → m < fu → m_ctx ν n l s g → (∀ j, j < 5 → ν.1 128 j = nI (o j)) → m_at ν (y_p (y_og l s d g)) o i → ∃ ν', g_X5_payAll_110 fu (nI n) d (nI i) ν = some (nI (y_T (y_p (y_og l s d g)) o), ν') ∧ z_un [126, 127, 129, 130] ν ν' ∧ m_at ν' (y_p (y_og l s d g)) o 5 := by
  have h14 : s.2.1 ≤ 14 := hs.2.1
  have hN : z_N = 5000 := rfl
  have hQ := w_og hs hl d g
  intro m
  induction m with
  | zero =>
    intro i fu ν hi hf hm h128 hat
    obtain ⟨fu, rfl⟩ : ∃ q, fu = q + 1 := ⟨fu - 1, by omega⟩
    have ei : i = 5 := by omega
    subst ei
    refine ⟨ν, ?_, z_un.rf _ _, hat⟩
    rw [g_X5_payAll_110]
    rw [if_pos (by decide)]
    exact p_202 hs hl hm hat s.2.1 0 z_N (by omega) (by omega)
  | succ m ih =>
    intro i fu ν hi hf hm h128 hat
    obtain ⟨fu, rfl⟩ : ∃ q, fu = q + 1 := ⟨fu - 1, by omega⟩
    have hi5 : i < 5 := by omega
    have hf5 := ho.1 i hi5
    have hne : ∀ j, j < i → o j ≠ o i := fun j hj e => by have := ho.2.1 j (by omega) i hi5 e; omega
    have hF := hQ.2.2 (o i) hf5
    have ers : y_rs (y_p (y_og l s d g)) o i (o i) = (y_og l s d g).2.2.2.2.2 (o i) := y_rs_new i hne
    have h127 : ν.1 127 (o i) = nI ((y_og l s d g).2.2.2.2.2 (o i)) := by rw [hat.2.1 (o i) hf5, ers]
    have hst : m_st ν s.2.1 (o i) (y_pa (y_p (y_og l s d g)) o i) ((y_og l s d g).2.2.2.2.2 (o i)) 0 := by
      refine ⟨hat.1, h127, fun h2 => ?_⟩
      rw [hat.2.2 (o i - 2) (by omega), y_le_new i (fun j hj e => hne j hj (by omega))]
    have hpa := y_pa_le (y_p (y_og l s d g)) o i
    have hpf : y_f (y_p (y_og l s d g)) (o i) 0 (y_pa (y_p (y_og l s d g)) o i, (y_og l s d g).2.2.2.2.2 (o i)) = (y_pa (y_p (y_og l s d g)) o (i + 1), y_re (y_p (y_og l s d g)) o i) := by
      have e1 : y_pa (y_p (y_og l s d g)) o (i + 1) = (y_pf (y_p (y_og l s d g)) (o i) (y_pa (y_p (y_og l s d g)) o i)).1 := by rw [y_pa]
      have e2 : y_re (y_p (y_og l s d g)) o i = (y_pf (y_p (y_og l s d g)) (o i) (y_pa (y_p (y_og l s d g)) o i)).2 := by unfold y_re; rfl
      have e3 : y_pf (y_p (y_og l s d g)) (o i) (y_pa (y_p (y_og l s d g)) o i) = y_f (y_p (y_og l s d g)) (o i) 0 (y_pa (y_p (y_og l s d g)) o i, (y_og l s d g).2.2.2.2.2 (o i)) := by unfold y_pf; rfl
      rw [e1, e2, e3]
    have next : ∀ ν', m_st ν' s.2.1 (o i) (y_f (y_p (y_og l s d g)) (o i) 0 (y_pa (y_p (y_og l s d g)) o i, (y_og l s d g).2.2.2.2.2 (o i))).1 (y_f (y_p (y_og l s d g)) (o i) 0 (y_pa (y_p (y_og l s d g)) o i, (y_og l s d g).2.2.2.2.2 (o i))).2 (0 + sm s.2.1 (fun c => if rd l s 0 c = true then (y_f (y_p (y_og l s d g)) (o i) 0 (y_pa (y_p (y_og l s d g)) o i, (y_og l s d g).2.2.2.2.2 (o i))).1 c - y_pa (y_p (y_og l s d g)) o i c else 0)) → m_fr (o i) ν ν' → ∃ ν'', g_X5_payAll_110 fu (nI n) d (nI (i + 1)) ν' = some (nI (y_T (y_p (y_og l s d g)) o), ν'') ∧ z_un [126, 127, 129, 130] ν ν'' ∧ m_at ν'' (y_p (y_og l s d g)) o 5 := by
      intro ν' hs' hfr
      rw [hpf, Nat.zero_add] at hs'
      have hat' : m_at ν' (y_p (y_og l s d g)) o (i + 1) := by
        refine ⟨hs'.1, fun f hf' => ?_, fun k hk => ?_⟩
        · rw [y_rs]
          by_cases e : o i = f
          · rw [if_pos e, ← e]
            exact hs'.2.1
          · rw [if_neg e, hfr.2.1 f (fun q => e q.symm)]
            exact hat.2.1 f hf'
        · rw [y_le]
          by_cases e : o i = k + 2
          · rw [if_pos e]
            have := hs'.2.2 (by omega)
            rw [show o i - 2 = k by omega] at this
            exact this
          · rw [if_neg e, hfr.2.2 k e]
            exact hat.2.2 k hk
      obtain ⟨ν'', y1, y2, y3⟩ := ih (i + 1) fu ν' (by omega) (by omega) (hfr.ctx hm) (fun j hj => by rw [hfr.1.1 128 (by decide)]; exact h128 j hj) hat'
      exact ⟨ν'', y1, hfr.1.tr y2, y3⟩
    have hcnt : ∀ p, y_cn (y_p (y_og l s d g)) (o i) p ≤ 14 := by
      intro p
      have h1 : y_cn (y_p (y_og l s d g)) (o i) p ≤ s.2.1 * 1 := sm_bd (n := s.2.1) (fun c _ => by
        show (if (y_p (y_og l s d g)).2.2.2.1 (o i) c = true ∧ p c < (y_p (y_og l s d g)).2.1 c then 1 else 0) ≤ 1
        split <;> omega)
      exact Nat.le_trans h1 (by omega)
    rw [g_X5_payAll_110]
    rw [if_neg (show ¬ (5 : Int32) ≤ nI i from p_nle (a := 5) (by omega) (by decide)), p_g hi5 (by decide), nI_clamp (by omega), h128 i hi5, z_lt_s, p_g hf5 (by decide), nI_clamp (by omega), h127]
    by_cases h0 : (y_og l s d g).2.2.2.2.2 (o i) = 0
    · rw [if_pos (show nI ((y_og l s d g).2.2.2.2.2 (o i)) = 0 by rw [h0]; rfl)]
      obtain ⟨z, hz⟩ : ∃ z, z_N = z + 1 := ⟨4999, rfl⟩
      rw [hz, g_X5_payAll_149]
      rw [if_pos (by decide), nI_1]
      refine next ν ?_ (m_fr.rf _ ν)
      rw [y_f_r0 h0]
      refine hst.cg (fun _ _ => rfl) rfl ?_
      rw [sm_0 (fun c _ => by
        show (if rd l s 0 c = true then y_pa (y_p (y_og l s d g)) o i c - y_pa (y_p (y_og l s d g)) o i c else 0) = 0
        rw [Nat.sub_self]
        split <;> rfl)]
    · rw [if_neg (show ¬ nI ((y_og l s d g).2.2.2.2.2 (o i)) = 0 from fun q => h0 ((nI_eq (b := 0) (by omega) (by decide)).mp q))]
      obtain ⟨o', ν1, fd, e1, u1, g1⟩ := p_findStep hs hl hm hn d hpa hf5 hst.1
      have hst1 : m_st ν1 s.2.1 (o i) (y_pa (y_p (y_og l s d g)) o i) ((y_og l s d g).2.2.2.2.2 (o i)) 0 := ⟨fun c hc => by rw [u1.1 126 (by decide)]; exact hst.1 c hc, by rw [u1.1 127 (by decide)]; exact hst.2.1, fun h => by rw [u1.1 129 (by decide)]; exact hst.2.2 h⟩
      have f1 : m_fr (o i) ν ν1 := ⟨u1.mono (by simp), fun h _ => by rw [u1.1 127 (by decide)], fun h _ => by rw [u1.1 129 (by decide)]⟩
      obtain ⟨ν2, e2, s2, f2⟩ := p_149 hs hl hn hf5 (fun (y32 : Int32) (y33 : Int32) (y34 : Int32) (μ30 : z_M) => (g_X5_payAll_110 fu (y32) (y33) (y34) μ30)) (nI i) 14 _ _ 0 o' z_N ν1 (hcnt _) (by omega) (f1.ctx hm) hst1 hpa hF fd g1
      obtain ⟨ν3, y1, y2, y3⟩ := next ν2 s2 (f1.tr f2)
      refine ⟨ν3, ?_, y2, y3⟩
      rw [e1, z_b2_s, e2, nI_1]
      exact y1
theorem p_payAll5 (hs : w_ship s) (hl : w_law l) (hn : n < 4) (ho : isO o) {ν : z_M} (hm : m_ctx ν n l s g) (h128 : ∀ j, j < 5 → ν.1 128 j = nI (o j)) : ∃ ν', f_X5_payAll (nI n) d ν = some (nI (y_T (y_p (y_og l s d g)) o), ν') ∧ z_un [126, 127, 129, 130] ν ν' ∧ m_at ν' (y_p (y_og l s d g)) o 5 := by
  have h14 : s.2.1 ≤ 14 := hs.2.1
  have hN : z_N = 5000 := rfl
  have k0 := p_am (b := 999) hl.2.2.2.2.2.1
  have s0 := p_am (b := 9999) (hs.2.2.2.2.1 0 (by decide))
  have c50 : ∀ m k fu ν1, k + m = 3 → m < fu → z_un [126, 127, 129, 130] ν ν1 → (∀ c, c < s.2.1 → ν1.1 126 c = 0) → (∀ f, f < 5 → ν1.1 127 f = s.2.2 10 f) → (∀ j, j < k → ν1.1 129 j = 0) → ∃ ν', g_X5_payAll_50 fu (nI n) d (nI k) ν1 = some (nI (y_T (y_p (y_og l s d g)) o), ν') ∧ z_un [126, 127, 129, 130] ν ν' ∧ m_at ν' (y_p (y_og l s d g)) o 5 := by
    intro m
    induction m with
    | zero =>
      intro k fu ν1 hk hf hu c1 c2 c3
      obtain ⟨fu, rfl⟩ : ∃ q, fu = q + 1 := ⟨fu - 1, by omega⟩
      have ek : k = 3 := by omega
      subst ek
      have e5 : (5 : Int32) * nI n + 3 = nI (5 * n + 3) := p_ix 5 n 3
      have e104 : ν1.1 104 (5 * n + 3) = l 6 3 := by rw [hu.1 104 (by decide)]; exact hm.2.1.2.2 3 (by decide)
      have c0 : (0 : Int32).toNatClampNeg = 0 := by decide
      have z0 : z_in (0 : Int32) 5 := by decide
      have ecost : (if s.2.2 10 0 ≤ l 6 3 then (0 : Int32) else s.2.2 10 0 - l 6 3) = nI ((s.2.2 10 0).toNatClampNeg - (l 6 3).toNatClampNeg) := by
        generalize (s.2.2 10 0).toNatClampNeg = x at *
        generalize (l 6 3).toNatClampNeg = y at *
        rw [s0.1, k0.1]
        by_cases q : x ≤ y
        · rw [if_pos (nI_le q (by omega)), show x - y = 0 by omega]
          rfl
        · rw [if_neg (nI_ge (by omega) (by omega)), pk_sub (by omega)]
      have u2 : z_un [126, 127, 129, 130] ν (z_si ν1 127 0 (nI ((s.2.2 10 0).toNatClampNeg - (l 6 3).toNatClampNeg))) := hu.si (by simp) _ _
      obtain ⟨ν', y1, y2, y3⟩ := p_110 (d := d) hs hl hn ho 5 0 z_N (z_si ν1 127 0 (nI ((s.2.2 10 0).toNatClampNeg - (l 6 3).toNatClampNeg))) (by omega) (by omega) (hm.un u2 (fun a _ _ => by simp; omega)) (fun j hj => by rw [u2.1 128 (by decide)]; exact h128 j hj) ⟨fun c hc => by
          rw [p_si_ne (by decide), c1 c hc]
          rfl, fun f hf' => by
          show _ = nI (if f = 0 then (s.2.2 10 0).toNatClampNeg - (l 6 3).toNatClampNeg else (s.2.2 10 f).toNatClampNeg)
          by_cases e : f = 0
          · rw [e, p_si_at, if_pos rfl]
          · rw [p_si_nk e, c2 f hf', if_neg e]
            exact (p_am (b := 9999) (hs.2.2.2.2.1 f hf')).1, fun j hj => by
          rw [p_si_ne (by decide), c3 j hj]
          rfl⟩
      refine ⟨ν', ?_, u2.tr y2, y3⟩
      rw [g_X5_payAll_50]
      rw [if_pos (show (3 : Int32) ≤ nI 3 by decide), e5, p_g (show 5 * n + 3 < 20 by omega) (by decide), nI_clamp (by omega), e104, z_lt_s]
      simp only [if_pos z0, c0, c2 0 (by decide)]
      rw [if_pos (fun _ => z0), ecost, z_st_s]
      exact y1
    | succ m ih =>
      intro k fu ν1 hk hf hu c1 c2 c3
      obtain ⟨fu, rfl⟩ : ∃ q, fu = q + 1 := ⟨fu - 1, by omega⟩
      rw [g_X5_payAll_50]
      rw [if_neg (show ¬ (3 : Int32) ≤ nI k from p_nle (a := 3) (by omega) (by decide)), p_g (show k < 3 by omega) (by decide), nI_clamp (by omega), z_st_s, nI_1]
      exact ih (k + 1) fu _ (by omega) (by omega) (hu.si (by simp) _ _) (fun c hc => by rw [p_si_ne (by decide)]; exact c1 c hc) (fun f hf' => by rw [p_si_ne (by decide)]; exact c2 f hf') (fun j hj => by
        by_cases e : j = k
        · rw [e, p_si_at]
        · rw [p_si_nk e]
          exact c3 j (by omega))
  have c25 : ∀ m f fu ν1, f + m = 5 → m < fu → z_un [126, 127, 129, 130] ν ν1 → (∀ c, c < s.2.1 → ν1.1 126 c = 0) → (∀ j, j < f → ν1.1 127 j = s.2.2 10 j) → ∃ ν', g_X5_payAll_25 fu (nI n) d (nI f) ν1 = some (nI (y_T (y_p (y_og l s d g)) o), ν') ∧ z_un [126, 127, 129, 130] ν ν' ∧ m_at ν' (y_p (y_og l s d g)) o 5 := by
    intro m
    induction m with
    | zero =>
      intro f fu ν1 hk hf hu c1 c2
      obtain ⟨fu, rfl⟩ : ∃ q, fu = q + 1 := ⟨fu - 1, by omega⟩
      have ek : f = 5 := by omega
      subst ek
      rw [g_X5_payAll_25]
      rw [if_pos (by decide)]
      exact c50 3 0 z_N ν1 (by omega) (by omega) hu c1 c2 (fun j hj => by omega)
    | succ m ih =>
      intro f fu ν1 hk hf hu c1 c2
      obtain ⟨fu, rfl⟩ : ∃ q, fu = q + 1 := ⟨fu - 1, by omega⟩
      rw [g_X5_payAll_25]
      rw [if_neg (show ¬ (5 : Int32) ≤ nI f from p_nle (a := 5) (by omega) (by decide)), p_g (show f < 5 by omega) (by decide), p_g (show f < 5 by omega) (by decide), nI_clamp (by omega), z_st_s, nI_1, hu.1 124 (by decide), hm.1.2.2.2.2.1 f (by omega)]
      exact ih (f + 1) fu _ (by omega) (by omega) (hu.si (by simp) _ _) (fun c hc => by rw [p_si_ne (by decide)]; exact c1 c hc) (fun j hj => by
        by_cases e : j = f
        · rw [e, p_si_at]
        · rw [p_si_nk e]
          exact c2 j (by omega))
  have c2' : ∀ m c fu ν1, c + m = s.2.1 → m < fu → z_un [126, 127, 129, 130] ν ν1 → (∀ e, e < c → ν1.1 126 e = 0) → ∃ ν', g_X5_payAll_2 fu (nI n) d (nI c) ν1 = some (nI (y_T (y_p (y_og l s d g)) o), ν') ∧ z_un [126, 127, 129, 130] ν ν' ∧ m_at ν' (y_p (y_og l s d g)) o 5 := by
    intro m
    induction m with
    | zero =>
      intro c fu ν1 hk hf hu c1
      obtain ⟨fu, rfl⟩ : ∃ q, fu = q + 1 := ⟨fu - 1, by omega⟩
      have ek : c = s.2.1 := by omega
      subst ek
      rw [g_X5_payAll_2]
      rw [hu.1 98 (by decide), hm.1.2.1, if_pos (nI_le (Nat.le_refl _) (by omega))]
      exact c25 5 0 z_N ν1 (by omega) (by omega) hu c1 (fun j hj => by omega)
    | succ m ih =>
      intro c fu ν1 hk hf hu c1
      obtain ⟨fu, rfl⟩ : ∃ q, fu = q + 1 := ⟨fu - 1, by omega⟩
      rw [g_X5_payAll_2]
      rw [hu.1 98 (by decide), hm.1.2.1, if_neg (nI_ge (by omega) (by omega)), p_g (show c < 15 by omega) (by decide), nI_clamp (by omega), z_st_s, nI_1]
      exact ih (c + 1) fu _ (by omega) (by omega) (hu.si (by simp) _ _) (fun e he => by
        by_cases q : e = c
        · rw [q, p_si_at]
        · rw [p_si_nk q]
          exact c1 e (by omega))
  unfold f_X5_payAll
  exact c2' s.2.1 0 z_N ν (by omega) (by omega) (z_un.rf _ _) (fun e he => by omega)
end
