/-! PURE: the reference's payAll -/
noncomputable def y_le (P : y_P) (o : Nat → Nat) : Nat → Nat → Nat
  | 0, _ => 0
  | i + 1, k => if o i = k + 2 then sm P.1 (fun c => if P.2.2.2.2.2 c = true then y_pa P o (i + 1) c - y_pa P o i c else 0) else y_le P o i k
/-- how many still want -/
def y_cn (P : y_P) (f : Nat) (p : Nat → Nat) : Nat := sm P.1 (fun c => if P.2.2.2.1 f c = true ∧ p c < P.2.1 c then 1 else 0)
theorem sm_lt {f g : Nat → Nat} {n c : Nat} (hc : c < n) (h : ∀ e, e < n → f e ≤ g e) (hs : f c < g c) : sm n f < sm n g := by
  rw [sm_up (f := f) hc, sm_up (f := g) hc]
  have : sm n (fun e => if e = c then 0 else f e) ≤ sm n (fun e => if e = c then 0 else g e) := sm_le (fun e he => by
    have := h e he
    show (if e = c then 0 else f e) ≤ (if e = c then 0 else g e)
    split <;> omega)
  omega
/-- the first step that wants, paid: no way round it -/
theorem y_first {P : y_P} {f v : Nat} {st : y_S} (hv : v < y_M) (h : ∀ c, c < P.1 → y_wt P f st.1 c → v ≤ P.2.2.1 c) : y_f P f 0 st = y_f P f 0 (y_l P f v st) := by
  rw [y_f_skip (u := v) (Nat.zero_le _) (by omega) (fun c h1 h2 h3 => Or.inr (h c h1 ⟨h2, h3⟩)), y_f_step hv]
  by_cases e0 : (y_l P f v st).2 = 0
  · rw [y_f_r0 e0, y_f_r0 e0]
  · have full := y_l_full (P := P) (f := f) (v := v) (st := st) (by omega)
    symm
    refine y_f_skip (Nat.zero_le _) hv (fun c h1 h2 h3 => Or.inr ?_)
    have h4 := (y_l_R P f v st).1 c
    have h5 := h c h1 ⟨h2, by omega⟩
    rcases Nat.eq_or_lt_of_le h5 with q | q
    · have := full c h1 h2 q.symm
      omega
    · exact q
section
variable {n : Nat} {l : a_T} {s : a_S} {g : Nat → Bool} {d : Int32}
theorem p_149 (hs : w_ship s) (hl : w_law l) (hn : n < 4) {f : Nat} (hf : f < 5) (k : Int32 → Int32 → Int32 → z_M → Option (Int32 × z_M)) (x4 : Int32) : ∀ m p r le o fu ν, y_cn (y_p (y_og l s d g)) f p ≤ m → m + 2 < fu → m_ctx ν n l s g → m_st ν s.2.1 f p r le → (∀ c, p c ≤ (y_og l s d g).2.1 c) → r ≤ 9999 → m_found (y_p (y_og l s d g)) f p o s.2.1 → (∀ c, c < s.2.1 → ν.1 130 c = nI (sh_1 (m_wf (y_p (y_og l s d g)) f p o) c)) → ∃ ν', g_X5_payAll_149 k fu (nI n) d x4 (nI f) (nI (sm s.2.1 (m_wf (y_p (y_og l s d g)) f p o))) ν = k (nI n) d (x4 + 1) ν' ∧ m_st ν' s.2.1 f (y_f (y_p (y_og l s d g)) f 0 (p, r)).1 (y_f (y_p (y_og l s d g)) f 0 (p, r)).2 (le + sm s.2.1 (fun c => if rd l s 0 c = true then (y_f (y_p (y_og l s d g)) f 0 (p, r)).1 c - p c else 0)) ∧ m_fr f ν ν' := by
  have h14 : s.2.1 ≤ 14 := hs.2.1
  have hQ := w_og hs hl d g
  have stop : ∀ (p : Nat → Nat) (r le fu : Nat) (ν : z_M) (st : y_S), m_st ν s.2.1 f p r le → st = (p, r) → ∃ ν', g_X5_payAll_149 k (fu + 1) (nI n) d x4 (nI f) 0 ν = k (nI n) d (x4 + 1) ν' ∧ m_st ν' s.2.1 f st.1 st.2 (le + sm s.2.1 (fun c => if rd l s 0 c = true then st.1 c - p c else 0)) ∧ m_fr f ν ν' := by
    intro p r le fu ν st h1 h2
    subst h2
    refine ⟨ν, ?_, h1.cg (fun _ _ => rfl) rfl ?_, m_fr.rf f ν⟩
    · rw [g_X5_payAll_149]
      rw [if_pos (by decide)]
    · rw [sm_0 (f := fun c => if rd l s 0 c = true then (p, r).1 c - p c else 0) (fun c _ => by
        show (if rd l s 0 c = true then p c - p c else 0) = 0
        rw [Nat.sub_self]
        split <;> rfl)]
      rfl
  intro m
  induction m with
  | zero =>
    intro p r le o fu ν hcn hfu hm hst hpa hr hfd h130
    obtain ⟨fu, rfl⟩ : ∃ q, fu = q + 1 := ⟨fu - 1, by omega⟩
    have hno : ∀ c, c < s.2.1 → ¬ y_wt (y_p (y_og l s d g)) f p c := by
      intro c hc hq
      have h0 : y_cn (y_p (y_og l s d g)) f p = 0 := by omega
      have := sm_z (f := fun c => if (y_p (y_og l s d g)).2.2.2.1 f c = true ∧ p c < (y_p (y_og l s d g)).2.1 c then 1 else 0) h0 c hc
      rw [if_pos hq] at this
      omega
    cases o with
    | some e => exact absurd hfd.2.1 (hno e hfd.1)
    | none =>
      have e0 : sm s.2.1 (m_wf (y_p (y_og l s d g)) f p none) = 0 := sm_0 (fun _ _ => rfl)
      rw [e0]
      exact stop p r le fu ν _ hst (y_f_end (Nat.zero_le _) (fun c h1 h2 h3 => absurd ⟨h2, h3⟩ (hno c h1)))
  | succ m ih =>
    intro p r le o fu ν hcn hfu hm hst hpa hr hfd h130
    obtain ⟨fu, rfl⟩ : ∃ q, fu = q + 1 := ⟨fu - 1, by omega⟩
    cases o with
    | none =>
      have e0 : sm s.2.1 (m_wf (y_p (y_og l s d g)) f p none) = 0 := sm_0 (fun _ _ => rfl)
      rw [e0]
      exact stop p r le fu ν _ hst (y_f_end (Nat.zero_le _) (fun c h1 h2 h3 => absurd ⟨h2, h3⟩ (hfd c h1)))
    | some e =>
      obtain ⟨d1, d2, d3⟩ := hfd
      have hv : (y_og l s d g).2.2.1 e < y_M := hQ.S d1
      have hwe : m_wf (y_p (y_og l s d g)) f p (some e) = y_w (y_p (y_og l s d g)) f ((y_og l s d g).2.2.1 e) p := rfl
      rw [hwe] at h130 ⊢
      generalize hvv : (y_og l s d g).2.2.1 e = v at *
      have wpos : 0 < y_w (y_p (y_og l s d g)) f v p e := by
        unfold y_w
        rw [if_pos ⟨d1, d2.1, hvv⟩]
        have := d2.2
        omega
      have hW0 : 0 < sm s.2.1 (y_w (y_p (y_og l s d g)) f v p) := Nat.lt_of_lt_of_le wpos (sm_one d1)
      have hwl : ∀ c, c < s.2.1 → y_w (y_p (y_og l s d g)) f v p c ≤ 999 := by
        intro c hc
        have := (hQ.2.1 c hc).1
        unfold y_w
        split
        · show (y_og l s d g).2.1 c - p c ≤ 999
          omega
        · omega
      have hW : sm s.2.1 (y_w (y_p (y_og l s d g)) f v p) < 2 ^ 30 := by
        have h1 := sm_bd hwl
        have h2 := Nat.mul_le_mul_right 999 h14
        have h3 := Nat.le_trans h1 h2
        generalize sm s.2.1 (y_w (y_p (y_og l s d g)) f v p) = X at *
        omega
      have hww : ∀ c, c < s.2.1 → 0 < y_w (y_p (y_og l s d g)) f v p c → y_w (y_p (y_og l s d g)) f v p c = (s.2.2 6 c).toNatClampNeg - p c ∧ p c ≤ (s.2.2 6 c).toNatClampNeg ∧ y_w (y_p (y_og l s d g)) f v p c ≤ 999 := by
        intro c hc hq
        have h3 := hwl c hc
        have h4 := hpa c
        have eA : (y_og l s d g).2.1 c = if g c = true then 0 else (s.2.2 6 c).toNatClampNeg := rfl
        rw [eA] at h4
        have e5 : y_w (y_p (y_og l s d g)) f v p c = (if g c = true then 0 else (s.2.2 6 c).toNatClampNeg) - p c := by
          unfold y_w at hq ⊢
          split at hq
          · next z => rw [if_pos z]; rfl
          · omega
        refine ⟨?_, ?_, h3⟩
        · rw [e5] at hq ⊢
          split
          · next z => rw [if_pos z] at hq; omega
          · rfl
        · split at h4 <;> omega
      obtain ⟨ν1, e1, f1, s1⟩ := p_payStep hs hl hn hf hm hr hW hW0 hww h130 hst
      have hR := y_l_R (y_p (y_og l s d g)) f v (p, r)
      have hfin : y_f (y_p (y_og l s d g)) f 0 (p, r) = y_f (y_p (y_og l s d g)) f 0 (y_l (y_p (y_og l s d g)) f v (p, r)) := y_first hv (fun c hc hq => by rw [← hvv]; exact d3 c hc hq)
      have s1' : m_st ν1 s.2.1 f (y_l (y_p (y_og l s d g)) f v (p, r)).1 (y_l (y_p (y_og l s d g)) f v (p, r)).2 (le + sm s.2.1 (fun c => if rd l s 0 c = true then (y_l (y_p (y_og l s d g)) f v (p, r)).1 c - p c else 0)) := by
        refine s1.cg (fun _ _ => rfl) rfl ?_
        congr 1
        apply sm_cg
        intro c hc
        show (if rd l s 0 c = true then sh r s.2.1 (y_w (y_p (y_og l s d g)) f v p) c else 0) = (if rd l s 0 c = true then p c + sh r s.2.1 (y_w (y_p (y_og l s d g)) f v p) c - p c else 0)
        rw [Nat.add_sub_cancel_left]
      have hf2 := y_f_R (y_p (y_og l s d g)) f 0 (y_l (y_p (y_og l s d g)) f v (p, r))
      rw [hfin]
      rw [g_X5_payAll_149]
      rw [if_neg (fun q => by have := (nI_lt0 (by omega)).mp q; omega), e1, z_b1_s, p_g hf (by decide), nI_clamp (by omega), s1'.2.1]
      generalize hst' : y_l (y_p (y_og l s d g)) f v (p, r) = st' at *
      have hr' : st'.2 ≤ r := by
        have h := hR.2.2.2.2
        have h2 := sm_le (f := p) (g := st'.1) (n := (y_p (y_og l s d g)).1) (fun c _ => hR.1 c)
        have h3 : sm (y_p (y_og l s d g)).1 st'.1 + st'.2 = sm (y_p (y_og l s d g)).1 p + r := h
        generalize sm (y_p (y_og l s d g)).1 st'.1 = X at *
        generalize sm (y_p (y_og l s d g)).1 p = Y at *
        omega
      have comb : ∀ F : y_S, (∀ c, st'.1 c ≤ F.1 c) → le + sm s.2.1 (fun c => if rd l s 0 c = true then st'.1 c - p c else 0) + sm s.2.1 (fun c => if rd l s 0 c = true then F.1 c - st'.1 c else 0) = le + sm s.2.1 (fun c => if rd l s 0 c = true then F.1 c - p c else 0) := by
        intro F hF
        rw [Nat.add_assoc, ← sm_add]
        congr 1
        apply sm_cg
        intro c hc
        have h1 := hF c
        have h2 : p c ≤ st'.1 c := hR.1 c
        show (if rd l s 0 c = true then st'.1 c - p c else 0) + (if rd l s 0 c = true then F.1 c - st'.1 c else 0) = (if rd l s 0 c = true then F.1 c - p c else 0)
        split <;> omega
      by_cases h0 : st'.2 = 0
      · rw [if_pos (by rw [h0]; rfl)]
        obtain ⟨fu, rfl⟩ : ∃ q, fu = q + 1 := ⟨fu - 1, by omega⟩
        obtain ⟨ν2, e2, s2, f2⟩ := stop st'.1 st'.2 (le + sm s.2.1 (fun c => if rd l s 0 c = true then st'.1 c - p c else 0)) fu ν1 (y_f (y_p (y_og l s d g)) f 0 st') s1' (y_f_r0 h0)
        exact ⟨ν2, e2, s2.cg (fun _ _ => rfl) rfl (comb _ hf2.1), f1.tr f2⟩
      · rw [if_neg (show ¬ nI st'.2 = 0 from fun q => h0 ((nI_eq (a := st'.2) (b := 0) (by omega) (by decide)).mp q))]
        have hpa' : ∀ c, st'.1 c ≤ (y_og l s d g).2.1 c := fun c => hR.2.1 c (hpa c)
        obtain ⟨o', ν2, fd2, e2, u2, g2⟩ := p_findStep hs hl (f1.ctx hm) hn d hpa' hf s1'.1
        have s2 : m_st ν2 s.2.1 f st'.1 st'.2 (le + sm s.2.1 (fun c => if rd l s 0 c = true then st'.1 c - p c else 0)) := ⟨fun c hc => by rw [u2.1 126 (by decide)]; exact s1'.1 c hc, by rw [u2.1 127 (by decide)]; exact s1'.2.1, fun h => by rw [u2.1 129 (by decide)]; exact s1'.2.2 h⟩
        have f2 : m_fr f ν1 ν2 := ⟨u2.mono (by simp), fun h _ => by rw [u2.1 127 (by decide)], fun h _ => by rw [u2.1 129 (by decide)]⟩
        have hcn' : y_cn (y_p (y_og l s d g)) f st'.1 ≤ m := by
          have full := y_l_full (P := y_p (y_og l s d g)) (f := f) (v := v) (st := (p, r)) (by rw [hst']; omega)
          rw [hst'] at full
          have := sm_lt (f := fun c => if (y_p (y_og l s d g)).2.2.2.1 f c = true ∧ st'.1 c < (y_p (y_og l s d g)).2.1 c then 1 else 0) (g := fun c => if (y_p (y_og l s d g)).2.2.2.1 f c = true ∧ p c < (y_p (y_og l s d g)).2.1 c then 1 else 0) (n := (y_p (y_og l s d g)).1) (c := e) d1 (fun c _ => by
            have h1 : p c ≤ st'.1 c := hR.1 c
            show (if (y_p (y_og l s d g)).2.2.2.1 f c = true ∧ st'.1 c < (y_p (y_og l s d g)).2.1 c then 1 else 0) ≤ (if (y_p (y_og l s d g)).2.2.2.1 f c = true ∧ p c < (y_p (y_og l s d g)).2.1 c then 1 else 0)
            by_cases z : (y_p (y_og l s d g)).2.2.2.1 f c = true ∧ st'.1 c < (y_p (y_og l s d g)).2.1 c
            · rw [if_pos z, if_pos ⟨z.1, by have := z.2; omega⟩]
              exact Nat.le_refl _
            · rw [if_neg z]
              exact Nat.zero_le _) (by
            show (if (y_p (y_og l s d g)).2.2.2.1 f e = true ∧ st'.1 e < (y_p (y_og l s d g)).2.1 e then 1 else 0) < (if (y_p (y_og l s d g)).2.2.2.1 f e = true ∧ p e < (y_p (y_og l s d g)).2.1 e then 1 else 0)
            rw [if_pos d2, if_neg (fun z => by have := full e d1 d2.1 hvv; have := z.2; omega)]
            exact Nat.zero_lt_one)
          have hcn2 : sm (y_p (y_og l s d g)).1 (fun c => if (y_p (y_og l s d g)).2.2.2.1 f c = true ∧ p c < (y_p (y_og l s d g)).2.1 c then 1 else 0) ≤ m + 1 := hcn
          have := Nat.lt_of_lt_of_le this hcn2
          exact Nat.le_of_lt_succ this
        obtain ⟨ν3, e3, s3, f3⟩ := ih st'.1 st'.2 _ o' fu ν2 hcn' (by omega) (f2.ctx (f1.ctx hm)) s2 hpa' (by omega) fd2 g2
        refine ⟨ν3, ?_, s3.cg (fun _ _ => rfl) rfl (comb _ hf2.1), (f1.tr f2).tr f3⟩
        rw [e2, z_b2_s]
        exact e3
end
