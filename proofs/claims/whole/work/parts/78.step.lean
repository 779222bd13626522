/-! PURE: the reference's payStep, payAll -/
def m_st (ν : z_M) (N f : Nat) (p : Nat → Nat) (r le : Nat) : Prop := (∀ c, c < N → ν.1 126 c = nI (p c)) ∧ ν.1 127 f = nI r ∧ (2 ≤ f → ν.1 129 (f - 2) = nI le)
def m_fr (f : Nat) (ν ν' : z_M) : Prop := z_un [126, 127, 129, 130] ν ν' ∧ (∀ g, g ≠ f → ν'.1 127 g = ν.1 127 g) ∧ (∀ k, f ≠ k + 2 → ν'.1 129 k = ν.1 129 k)
theorem m_fr.rf (f : Nat) (ν : z_M) : m_fr f ν ν := ⟨z_un.rf _ _, fun _ _ => rfl, fun _ _ => rfl⟩
theorem m_fr.tr {f : Nat} {a b c : z_M} (h : m_fr f a b) (g : m_fr f b c) : m_fr f a c := ⟨h.1.tr g.1, fun i q => (g.2.1 i q).trans (h.2.1 i q), fun i q => (g.2.2 i q).trans (h.2.2 i q)⟩
theorem m_fr.ctx {f : Nat} {ν ν' : z_M} {n : Nat} {l : a_T} {s : a_S} {g : Nat → Bool} (h : m_ctx ν n l s g) (hf : m_fr f ν ν') : m_ctx ν' n l s g := h.un hf.1 (fun a _ _ => by simp; omega)
section
variable {n : Nat} {l : a_T} {s : a_S} {g : Nat → Bool} {f : Nat}
theorem p_pay (hs : w_ship s) (hl : w_law l) (hn : n < 4) (hf : f < 5) {ν : z_M} (hm : m_ctx ν n l s g) {p : Nat → Nat} {r le x c : Nat} (hst : m_st ν s.2.1 f p r le) (hx : x ≤ r) (hc : c < s.2.1) : ∃ ν', f_X5_pay (nI n) (nI f) (nI c) (nI x) ν = some ν' ∧ m_st ν' s.2.1 f (fun e => if e = c then p e + x else p e) (r - x) (le + (if rd l s 0 c = true then x else 0)) ∧ m_fr f ν ν' ∧ ν'.1 130 = ν.1 130 := by
  have h14 : s.2.1 ≤ 14 := hs.2.1
  obtain ⟨s1, s2, s3⟩ := hst
  have hz : z_in (nI c) 15 := p_zn (by omega) (by decide)
  have hz5 : z_in (nI f) 5 := p_zn hf (by decide)
  have u2 : m_fr f ν (z_si (z_si ν 126 c (nI (p c + x))) 127 f (nI (r - x))) := ⟨((z_un.rf _ _).si (by simp) _ _).si (by simp) _ _, fun h q => by rw [p_si_nk q, p_si_ne (by decide)], fun k _ => by rw [p_si_ne (by decide), p_si_ne (by decide)]⟩
  have e0 : f_X5_pay (nI n) (nI f) (nI c) (nI x) ν = if nI f ≤ 1 then some (z_si (z_si ν 126 c (nI (p c + x))) 127 f (nI (r - x))) else if rd l s 0 c = true then (if z_in (nI f - 2) 3 then some (z_si (z_si (z_si ν 126 c (nI (p c + x))) 127 f (nI (r - x))) 129 (nI f - 2).toNatClampNeg ((z_si (z_si ν 126 c (nI (p c + x))) 127 f (nI (r - x))).1 129 (nI f - 2).toNatClampNeg + nI x)) else none) else some (z_si (z_si ν 126 c (nI (p c + x))) 127 f (nI (r - x))) := by
    unfold f_X5_pay
    rw [if_pos hz, if_pos hz, nI_clamp (show c < 2 ^ 31 by omega), s1 c hc, nI_add]
    simp only [z_st_s, if_pos hz5, nI_clamp (show f < 2 ^ 31 by omega)]
    rw [p_si_ne (show (127 : Nat) ≠ 126 by decide), s2, pk_sub hx]
    have eOn : f_X5_isOn (nI n) 0 (nI c) (z_si (z_si ν 126 c (nI (p c + x))) 127 f (nI (r - x))) = some (p_b (rd l s 0 c = true), z_si (z_si ν 126 c (nI (p c + x))) 127 f (nI (r - x))) := p_isOn hs hl (u2.ctx hm) hn hc (f := 0) (by decide)
    rw [eOn, z_b2_s, p_if0]
    by_cases q : z_in (nI f - 2) 3
    · simp only [if_pos q]
    · simp only [if_neg q]
  have base : ∀ le', (2 ≤ f → (z_si (z_si ν 126 c (nI (p c + x))) 127 f (nI (r - x))).1 129 (f - 2) = nI le') → m_st (z_si (z_si ν 126 c (nI (p c + x))) 127 f (nI (r - x))) s.2.1 f (fun e => if e = c then p e + x else p e) (r - x) le' := by
    intro le' h
    refine ⟨fun e he => ?_, p_si_at _ _ _ _, h⟩
    show _ = nI (if e = c then p e + x else p e)
    rw [p_si_ne (by decide)]
    by_cases q : e = c
    · rw [q, p_si_at, if_pos rfl]
    · rw [p_si_nk q, s1 e he, if_neg q]
  rw [e0]
  by_cases h2 : f < 2
  · rw [if_pos (show nI f ≤ 1 from nI_le (b := 1) (by omega) (by decide))]
    exact ⟨_, rfl, base _ (fun q => by omega), u2, by rw [p_si_ne (by decide), p_si_ne (by decide)]⟩
  · rw [if_neg (show ¬ nI f ≤ 1 from nI_ge (a := 1) (by omega) (by omega))]
    by_cases q : rd l s 0 c = true
    · have e2 : nI f - 2 = nI (f - 2) := pk_sub (a := f) (b := 2) (by omega)
      rw [if_pos q, if_pos q, e2, p_g (show f - 2 < 3 by omega) (by decide), nI_clamp (by omega), p_si_ne (show (129 : Nat) ≠ 127 by decide), p_si_ne (show (129 : Nat) ≠ 126 by decide), s3 (by omega), nI_add]
      refine ⟨_, rfl, ⟨fun e he => ?_, ?_, fun _ => p_si_at _ _ _ _⟩, ⟨u2.1.si (by simp) _ _, fun h q => ?_, fun k q => ?_⟩, by rw [p_si_ne (by decide), p_si_ne (by decide), p_si_ne (by decide)]⟩
      · show _ = nI (if e = c then p e + x else p e)
        rw [p_si_ne (by decide), p_si_ne (show (126 : Nat) ≠ 127 by decide)]
        by_cases q : e = c
        · rw [q, p_si_at, if_pos rfl]
        · rw [p_si_nk q, s1 e he, if_neg q]
      · rw [p_si_ne (by decide), p_si_at]
      · rw [p_si_ne (by decide)]
        exact u2.2.1 h q
      · rw [p_si_nk (by omega)]
        exact u2.2.2 k q
    · rw [if_neg q, if_neg q]
      exact ⟨_, rfl, base _ (fun h => by rw [p_si_ne (by decide), p_si_ne (by decide)]; exact s3 h), u2, by rw [p_si_ne (by decide), p_si_ne (by decide)]⟩
theorem m_st.cg {ν : z_M} {N : Nat} {p q : Nat → Nat} {r r' le le' : Nat} (h : m_st ν N f p r le) (hp : ∀ c, c < N → p c = q c) (hr : r = r') (hle : le = le') : m_st ν N f q r' le' := by
  subst hr
  subst hle
  exact ⟨fun c hc => by rw [h.1 c hc, hp c hc], h.2.1, h.2.2⟩
/-- what the first round of a step gives -/
def mu1 (r N : Nat) (w : Nat → Nat) (c : Nat) : Nat := if sm N w ≤ r then w c else sh_q r (sm N w) w c
def on1 (r N : Nat) (w : Nat → Nat) (c : Nat) : Nat := if 0 < w c ∧ sm c (sh_1 w) < sh_o r N w then 1 else 0
theorem mu1_le (r N : Nat) (w : Nat → Nat) : sm N (mu1 r N w) ≤ r := by
  by_cases h : sm N w ≤ r
  · rw [sm_cg (f := mu1 r N w) (g := w) (fun c _ => if_pos h)]
    exact h
  · rw [sm_cg (f := mu1 r N w) (g := sh_q r (sm N w) w) (fun c _ => if_neg h)]
    have := sh_oq (r := r) (N := N) (w := w) (by omega)
    omega
theorem mu1_0 {r N : Nat} {w : Nat → Nat} {c : Nat} (h : w c = 0) : mu1 r N w c = 0 := by
  unfold mu1 sh_q
  rw [h, Nat.mul_zero, Nat.zero_div]
  split <;> rfl
theorem p_ps88 (hs : w_ship s) (hl : w_law l) (hn : n < 4) (hf : f < 5) {ν0 : z_M} (hm : m_ctx ν0 n l s g) {p w : Nat → Nat} {r le : Nat} (hr : r < 2 ^ 30) (hW : sm s.2.1 w < 2 ^ 30) (hlt : r < sm s.2.1 w) (h130 : ∀ c, c < s.2.1 → ν0.1 130 c = nI (sh_1 w c)) : ∀ m i fu ν, i + m = s.2.1 → m < fu → m_fr f ν0 ν → ν.1 130 = ν0.1 130 → m_st ν s.2.1 f (fun c => if c < i then p c + on1 r s.2.1 w c else p c) (sh_o r s.2.1 w - sm i (sh_1 w)) (le + sm i (fun c => if rd l s 0 c = true then on1 r s.2.1 w c else 0)) → ∃ ν', g_X5_payStep_88 fu (nI n) (nI f) (nI (sm s.2.1 w)) (nI r) (nI (sh_o r s.2.1 w - sm i (sh_1 w))) (nI i) ν = some ν' ∧ m_fr f ν0 ν' ∧ m_st ν' s.2.1 f (fun c => p c + on1 r s.2.1 w c) 0 (le + sm s.2.1 (fun c => if rd l s 0 c = true then on1 r s.2.1 w c else 0)) := by
  have h14 : s.2.1 ≤ 14 := hs.2.1
  have hok := sh_ok hlt
  have hoq := sh_oq hlt
  intro m
  induction m with
  | zero =>
    intro i fu ν hi hfu hfr h1 hst
    obtain ⟨fu, rfl⟩ : ∃ q, fu = q + 1 := ⟨fu - 1, by omega⟩
    have ei : i = s.2.1 := by omega
    subst ei
    refine ⟨ν, ?_, hfr, hst.cg (fun c hc => by rw [if_pos hc]) (by omega) rfl⟩
    rw [g_X5_payStep_88]
    rw [(hfr.ctx hm).1.2.1, if_pos (nI_le (Nat.le_refl _) (by omega))]
  | succ m ih =>
    intro i fu ν hi hfu hfr h1 hst
    obtain ⟨fu, rfl⟩ : ∃ q, fu = q + 1 := ⟨fu - 1, by omega⟩
    have hc : i < s.2.1 := by omega
    rw [g_X5_payStep_88]
    rw [(hfr.ctx hm).1.2.1, if_neg (nI_ge hc (by omega)), if_neg (nI_ge hlt (by omega)), p_g (show i < 15 by omega) (by decide), nI_clamp (by omega), h1, h130 i hc, nI_1]
    have skip : on1 r s.2.1 w i = 0 → sh_o r s.2.1 w - sm (i + 1) (sh_1 w) = sh_o r s.2.1 w - sm i (sh_1 w) → ∃ ν', g_X5_payStep_88 fu (nI n) (nI f) (nI (sm s.2.1 w)) (nI r) (nI (sh_o r s.2.1 w - sm i (sh_1 w))) (nI (i + 1)) ν = some ν' ∧ m_fr f ν0 ν' ∧ m_st ν' s.2.1 f (fun c => p c + on1 r s.2.1 w c) 0 (le + sm s.2.1 (fun c => if rd l s 0 c = true then on1 r s.2.1 w c else 0)) := by
      intro h0 h0'
      have h := ih (i + 1) fu ν (by omega) (by omega) hfr h1 (hst.cg (fun c hc' => by
        by_cases e : c = i
        · rw [e, if_neg (by omega), if_pos (by omega), h0]
          rfl
        · by_cases e2 : c < i
          · rw [if_pos e2, if_pos (by omega)]
          · rw [if_neg e2, if_neg (by omega)]) h0'.symm (by
        rw [sm, h0]
        split <;> rfl))
      rw [h0'] at h
      exact h
    by_cases hp : 0 < w i
    · have e1 : sh_1 w i = 1 := if_pos hp
      rw [e1, if_neg (by decide)]
      have e2 : sm (i + 1) (sh_1 w) = sm i (sh_1 w) + 1 := by rw [sm, e1]
      by_cases hz : sh_o r s.2.1 w - sm i (sh_1 w) = 0
      · rw [if_pos ((nI_lt0 (by omega)).mpr hz)]
        exact skip (if_neg (fun q => by omega)) (by omega)
      · rw [if_neg (fun q => hz ((nI_lt0 (by omega)).mp q))]
        have e3 : on1 r s.2.1 w i = 1 := if_pos ⟨hp, by omega⟩
        obtain ⟨ν', e4, st4, fr4, g4⟩ := p_pay hs hl hn hf (hfr.ctx hm) (x := 1) (c := i) hst (by omega) hc
        have e4' : f_X5_pay (nI n) (nI f) (nI i) 1 ν = some ν' := e4
        rw [e4', z_b1_s]
        obtain ⟨ν'', y1, y2, y3⟩ := ih (i + 1) fu ν' (by omega) (by omega) (hfr.tr fr4) (g4.trans h1) (st4.cg (fun c hc' => by
          show (if c = i then (if c < i then p c + on1 r s.2.1 w c else p c) + 1 else (if c < i then p c + on1 r s.2.1 w c else p c)) = _
          by_cases e : c = i
          · rw [if_pos e, e, if_neg (by omega), if_pos (by omega), e3]
          · rw [if_neg e]
            by_cases e2 : c < i
            · rw [if_pos e2, if_pos (by omega)]
            · rw [if_neg e2, if_neg (by omega)]) (by omega) (by
          rw [sm, e3]
          omega))
        refine ⟨ν'', ?_, y2, y3⟩
        rw [sb_m1 (by omega), show sh_o r s.2.1 w - sm i (sh_1 w) - 1 = sh_o r s.2.1 w - sm (i + 1) (sh_1 w) by omega]
        exact y1
    · have e1 : sh_1 w i = 0 := if_neg hp
      rw [e1, if_pos (show nI 0 = 0 from rfl)]
      exact skip (if_neg (fun q => hp q.1)) (by rw [sm, e1]; rfl)
theorem p_ps15 (hs : w_ship s) (hl : w_law l) (hn : n < 4) (hf : f < 5) {ν0 : z_M} (hm : m_ctx ν0 n l s g) {p w : Nat → Nat} {r le : Nat} (hr : r ≤ 9999) (hW : sm s.2.1 w < 2 ^ 30) (hW0 : 0 < sm s.2.1 w) (hw : ∀ c, c < s.2.1 → 0 < w c → w c = (s.2.2 6 c).toNatClampNeg - p c ∧ p c ≤ (s.2.2 6 c).toNatClampNeg ∧ w c ≤ 999) (h130 : ∀ c, c < s.2.1 → ν0.1 130 c = nI (sh_1 w c)) : ∀ m i fu ν, i + m = s.2.1 → m < fu → m_fr f ν0 ν → ν.1 130 = ν0.1 130 → m_st ν s.2.1 f (fun c => if c < i then p c + mu1 r s.2.1 w c else p c) (r - sm i (mu1 r s.2.1 w)) (le + sm i (fun c => if rd l s 0 c = true then mu1 r s.2.1 w c else 0)) → ∃ ν', g_X5_payStep_15 fu (nI n) (nI f) (nI (sm s.2.1 w)) (nI r) (nI (r - sm i (mu1 r s.2.1 w))) (nI i) ν = g_X5_payStep_88 z_N (nI n) (nI f) (nI (sm s.2.1 w)) (nI r) (nI (r - sm s.2.1 (mu1 r s.2.1 w))) 0 ν' ∧ m_fr f ν0 ν' ∧ ν'.1 130 = ν0.1 130 ∧ m_st ν' s.2.1 f (fun c => p c + mu1 r s.2.1 w c) (r - sm s.2.1 (mu1 r s.2.1 w)) (le + sm s.2.1 (fun c => if rd l s 0 c = true then mu1 r s.2.1 w c else 0)) := by
  have h14 : s.2.1 ≤ 14 := hs.2.1
  intro m
  induction m with
  | zero =>
    intro i fu ν hi hfu hfr h1 hst
    obtain ⟨fu, rfl⟩ : ∃ q, fu = q + 1 := ⟨fu - 1, by omega⟩
    have ei : i = s.2.1 := by omega
    subst ei
    refine ⟨ν, ?_, hfr, h1, hst.cg (fun c hc => by rw [if_pos hc]) rfl rfl⟩
    rw [g_X5_payStep_15]
    rw [(hfr.ctx hm).1.2.1, if_pos (nI_le (Nat.le_refl _) (by omega))]
  | succ m ih =>
    intro i fu ν hi hfu hfr h1 hst
    obtain ⟨fu, rfl⟩ : ∃ q, fu = q + 1 := ⟨fu - 1, by omega⟩
    have hc : i < s.2.1 := by omega
    have hle := mu1_le r s.2.1 w
    have hmono := sm_mono (mu1 r s.2.1 w) (a := i + 1) (b := s.2.1) (by omega)
    rw [sm] at hmono
    have hctx := hfr.ctx hm
    rw [g_X5_payStep_15]
    rw [hctx.1.2.1, if_neg (nI_ge hc (by omega)), p_g (show i < 15 by omega) (by decide), nI_clamp (by omega), h1, h130 i hc]
    by_cases hp : 0 < w i
    · have e1 : sh_1 w i = 1 := if_pos hp
      obtain ⟨w1, w2, w3⟩ := hw i hc hp
      have hwn : f_X5_wants (nI i) ν = some (nI (w i), ν) := by
        rw [p_wants hs hctx (p := p) hc (by rw [hst.1 i hc]; show nI (if i < i then p i + mu1 r s.2.1 w i else p i) = nI (p i); rw [if_neg (Nat.lt_irrefl i)]), pk_sub w2, ← w1]
      have hmu : mu1 r s.2.1 w i = if sm s.2.1 w ≤ r then w i else r * w i / sm s.2.1 w := rfl
      obtain ⟨ν', e4, st4, fr4, g4⟩ := p_pay hs hl hn hf hctx (x := mu1 r s.2.1 w i) (c := i) hst (by omega) hc
      have h := ih (i + 1) fu ν' (by omega) (by omega) (hfr.tr fr4) (g4.trans h1) (st4.cg (fun c hc' => by
        show (if c = i then (if c < i then p c + mu1 r s.2.1 w c else p c) + mu1 r s.2.1 w i else (if c < i then p c + mu1 r s.2.1 w c else p c)) = _
        by_cases e : c = i
        · rw [if_pos e, e, if_neg (by omega), if_pos (by omega)]
        · rw [if_neg e]
          by_cases e2 : c < i
          · rw [if_pos e2, if_pos (by omega)]
          · rw [if_neg e2, if_neg (by omega)]) (by rw [sm, Nat.sub_sub]) (by
        rw [sm]
        omega))
      have go : ∀ K : Int32 → Int32 → Int32 → Int32 → Int32 → Int32 → z_M → Option z_M, (∀ a b c d e f μ, K a b c d e f μ = g_X5_payStep_15 fu a b c d e f μ) → g_X5_payStep_60 K (nI n) (nI f) (nI (sm s.2.1 w)) (nI r) (nI (r - sm i (mu1 r s.2.1 w))) (nI i) (nI (mu1 r s.2.1 w i)) ν = g_X5_payStep_15 fu (nI n) (nI f) (nI (sm s.2.1 w)) (nI r) (nI (r - sm (i + 1) (mu1 r s.2.1 w))) (nI (i + 1)) ν' := by
        intro K hK
        unfold g_X5_payStep_60
        simp only [z_lt_s]
        rw [e4, z_b1_s, hK, pk_sub (by omega), nI_1, sm, Nat.sub_sub]
      rw [e1, if_neg (by decide), hwn, z_b2_s, z_b2_s]
      by_cases q : sm s.2.1 w ≤ r
      · rw [if_neg (nI_nlt q (by omega))]
        rw [hmu, if_pos q] at go
        rw [go _ (fun _ _ _ _ _ _ _ => rfl)]
        exact h
      · have hmul : r * w i < 2 ^ 31 := by
          have := Nat.mul_le_mul hr w3
          omega
        rw [if_pos (nI_lt (by omega) (by omega)), if_pos (fun z => by rw [← nI_0, nI_eq (by omega) (by decide)] at z; omega), pk_mul, pk_div hmul hW0 (by omega)]
        rw [hmu, if_neg q] at go
        rw [go _ (fun _ _ _ _ _ _ _ => rfl)]
        exact h
    · have e1 : sh_1 w i = 0 := if_neg hp
      have e0 : mu1 r s.2.1 w i = 0 := mu1_0 (by omega)
      rw [e1, if_pos (show nI 0 = 0 from rfl), nI_1]
      have h := ih (i + 1) fu ν (by omega) (by omega) hfr h1 (hst.cg (fun c hc' => by
        by_cases e : c = i
        · rw [e, if_neg (by omega), if_pos (by omega), e0]
          rfl
        · by_cases e2 : c < i
          · rw [if_pos e2, if_pos (by omega)]
          · rw [if_neg e2, if_neg (by omega)]) (by rw [sm, e0]; rfl) (by
        rw [sm, e0]
        split <;> rfl))
      rw [sm, e0, Nat.add_zero] at h
      exact h
theorem p_payStep (hs : w_ship s) (hl : w_law l) (hn : n < 4) (hf : f < 5) {ν : z_M} (hm : m_ctx ν n l s g) {p w : Nat → Nat} {r le : Nat} (hr : r ≤ 9999) (hW : sm s.2.1 w < 2 ^ 30) (hW0 : 0 < sm s.2.1 w) (hw : ∀ c, c < s.2.1 → 0 < w c → w c = (s.2.2 6 c).toNatClampNeg - p c ∧ p c ≤ (s.2.2 6 c).toNatClampNeg ∧ w c ≤ 999) (h130 : ∀ c, c < s.2.1 → ν.1 130 c = nI (sh_1 w c)) (hst : m_st ν s.2.1 f p r le) : ∃ ν', f_X5_payStep (nI n) (nI f) (nI (sm s.2.1 w)) ν = some ν' ∧ m_fr f ν ν' ∧ m_st ν' s.2.1 f (fun c => p c + sh r s.2.1 w c) (sh_r r s.2.1 w) (le + sm s.2.1 (fun c => if rd l s 0 c = true then sh r s.2.1 w c else 0)) := by
  have h14 : s.2.1 ≤ 14 := hs.2.1
  have hN : z_N = 5000 := rfl
  obtain ⟨ν1, e1, f1, g1, s1⟩ := p_ps15 hs hl hn hf hm hr hW hW0 hw h130 s.2.1 0 z_N ν (by omega) (by omega) (m_fr.rf f ν) rfl (hst.cg (fun c _ => by rw [if_neg (by omega)]) rfl rfl)
  have e0 : f_X5_payStep (nI n) (nI f) (nI (sm s.2.1 w)) ν = g_X5_payStep_88 z_N (nI n) (nI f) (nI (sm s.2.1 w)) (nI r) (nI (r - sm s.2.1 (mu1 r s.2.1 w))) 0 ν1 := by
    unfold f_X5_payStep
    rw [p_g hf (by decide), nI_clamp (by omega), hst.2.1, z_lt_s]
    exact e1
  rw [e0]
  by_cases q : sm s.2.1 w ≤ r
  · refine ⟨ν1, ?_, f1, s1.cg (fun c hc => ?_) ?_ ?_⟩
    · obtain ⟨z, hz⟩ : ∃ z, z_N = z + 1 := ⟨4999, rfl⟩
      rw [hz, g_X5_payStep_88]
      rw [if_pos (nI_le q (by omega))]
      split <;> rfl
    · show p c + mu1 r s.2.1 w c = p c + sh r s.2.1 w c
      unfold mu1 sh
      rw [if_pos q, if_pos q]
    · unfold sh_r
      rw [if_pos q, sm_cg (f := mu1 r s.2.1 w) (g := w) (fun c _ => if_pos q)]
    · congr 1
      apply sm_cg
      intro c hc
      show (if rd l s 0 c = true then mu1 r s.2.1 w c else 0) = (if rd l s 0 c = true then sh r s.2.1 w c else 0)
      unfold mu1 sh
      rw [if_pos q, if_pos q]
  · have emu : sm s.2.1 (mu1 r s.2.1 w) = sm s.2.1 (sh_q r (sm s.2.1 w) w) := sm_cg (fun c _ => if_neg q)
    have eo : r - sm s.2.1 (mu1 r s.2.1 w) = sh_o r s.2.1 w := by rw [emu]; rfl
    rw [eo] at s1 ⊢
    obtain ⟨ν2, e2, f2, s2⟩ := p_ps88 (le := le + sm s.2.1 (fun c => if rd l s 0 c = true then mu1 r s.2.1 w c else 0)) hs hl hn hf hm (by omega) hW (by omega) h130 s.2.1 0 z_N ν1 (by omega) (by omega) f1 g1 (s1.cg (q := fun c => if c < 0 then (p c + mu1 r s.2.1 w c) + on1 r s.2.1 w c else (p c + mu1 r s.2.1 w c)) (fun c _ => by rw [if_neg (by omega)]) (Nat.sub_zero _).symm (Nat.add_zero _).symm)
    rw [show sh_o r s.2.1 w - sm 0 (sh_1 w) = sh_o r s.2.1 w from Nat.sub_zero _] at e2
    refine ⟨ν2, e2, f2, s2.cg (fun c hc => ?_) ?_ ?_⟩
    · show p c + mu1 r s.2.1 w c + on1 r s.2.1 w c = p c + sh r s.2.1 w c
      unfold mu1 sh on1
      rw [if_neg q, if_neg q]
      omega
    · unfold sh_r
      rw [if_neg q]
    · rw [Nat.add_assoc, ← sm_add]
      congr 1
      apply sm_cg
      intro c hc
      show (if rd l s 0 c = true then mu1 r s.2.1 w c else 0) + (if rd l s 0 c = true then on1 r s.2.1 w c else 0) = (if rd l s 0 c = true then sh r s.2.1 w c else 0)
      unfold mu1 sh on1
      rw [if_neg q, if_neg q]
      split <;> rfl
end
