/-! PURE: a word, a kind on both sides -/
def wq (t : Nat → Int32) (N p : Nat) : Nat := xR1 cSp t N p
def we (t : Nat → Int32) (N p : Nat) : Nat := xR1 cLe t N (wq t N p)
def wv (t : Nat → Int32) (N p : Nat) : Nat := sv t (wq t N p) (we t N p - wq t N p)
theorem ki_rg : ∀ (l : List Nat) (i v : Nat), ki l i v = -1 ∨ ∃ j, j < l.length ∧ ki l i v = nI (i + j)
  | [], _, _ => Or.inl rfl
  | c :: l, i, v => by
    rw [ki]
    by_cases h : v = c
    · rw [if_pos h]
      exact Or.inr ⟨0, by rw [List.length_cons]; omega, by rw [Nat.add_zero]⟩
    · rw [if_neg h]
      rcases ki_rg l (i + 1) v with e | ⟨j, h1, h2⟩
      · exact Or.inl e
      · exact Or.inr ⟨j + 1, by rw [List.length_cons]; omega, by rw [h2]; congr 1; omega⟩
theorem ki_0 : ∀ tb, tb < 4 → ki (wcs tb) 0 0 = -1 := by decide
def W2 : Nat → Nat → Prop := fun a k => a = 2 ∧ 2 ≤ k ∧ k ≤ 6
theorem W456_2 : ∀ a k, W456 a k → W2 a k := fun a k h => ⟨h.1, by have := h.2; omega, by have := h.2; omega⟩
theorem tx.of2 {μ μ' : z_M} {t : Nat → Int32} {N : Nat} (h : tx μ t N) (hF : gF W2 μ μ') : tx μ' t N := by
  refine ⟨h.1, ?_, fun k hk => ?_⟩
  · rw [hF.1 2 1 (by unfold W2; omega)]
    exact h.2.1
  · rw [hF.1 3 k (by unfold W2; omega)]
    exact h.2.2 k hk
def V1 : Nat → Nat → Prop := fun a k => a = 98 ∧ 14 ≤ k ∧ k ≤ 20
theorem W15_V : ∀ a k, W15 a k → V1 a k := fun a k h => ⟨h.1, by have := h.2; omega, by have := h.2; omega⟩
theorem my.of2 {ν ν' : z_M} {t : Nat → Int32} {N : Nat} (h : my ν t N) (hF : hF V1 ν ν') : my ν' t N := by
  refine ⟨h.1, ?_, fun k hk => ?_⟩
  · rw [hF.1 98 13 (by unfold V1; omega)]
    exact h.2.1
  · rw [hF.1 111 k (by unfold V1; omega)]
    exact h.2.2 k hk
theorem wq_in (t : Nat → Int32) {N p : Nat} (hp : p ≤ N) : p ≤ wq t N p ∧ wq t N p ≤ N := by
  obtain ⟨q1, q2, _, _⟩ := xR1_in (P := cSp) (t := t) (N := N) (N - p) p (by omega)
  exact ⟨q1, q2⟩
theorem we_in (t : Nat → Int32) {N p : Nat} (hp : p ≤ N) : wq t N p ≤ we t N p ∧ we t N p ≤ N := by
  have h := wq_in t hp
  obtain ⟨q1, q2, _, _⟩ := xR1_in (P := cLe) (t := t) (N := N) (N - wq t N p) (wq t N p) (by omega)
  exact ⟨q1, q2⟩
theorem tkE_in (t : Nat → Int32) {N q : Nat} (hq : q ≤ N) : q ≤ tkE t N q ∧ tkE t N q ≤ N := by
  obtain ⟨a1, a2, _, _⟩ := xR1_in (P := cLe) (t := t) (N := N) (N - q) q (by omega)
  obtain ⟨b1, b2, _, _⟩ := xR1_in (P := cFi) (t := t) (N := N) (N - q) q (by omega)
  unfold tkE
  split
  · omega
  · split
    · exact ⟨a1, a2⟩
    · split
      · exact ⟨b1, b2⟩
      · omega
section
variable {t : Nat → Int32} {N : Nat} {μ ν : z_M}
/-- the class's next word -/
theorem p_word (h : tx μ t N) {p : Nat} (hp : p ≤ N) (h6 : μ.1 2 6 = nI p) : ∃ μ', f_X1_nextToken μ = some μ' ∧ gF W456 μ μ' ∧ μ'.1 2 5 = nI (wq t N p) ∧ μ'.1 2 4 = nI (tkK t N (wq t N p)) ∧ μ'.1 2 6 = nI (tkE t N (wq t N p)) ∧ (∀ tb, tb < 4 → f_X1_wordIn tb μ' = some (ki (wcs tb) 0 (wv t N p), μ')) ∧ (∀ tb, tb < 4 → ¬ ki (wcs tb) 0 (wv t N p) = -1 → tkE t N (wq t N p) = we t N p ∧ p < we t N p) := by
  obtain ⟨μ', e1, F1, h5, h4, h6'⟩ := p_nT h hp h6
  have hq := wq_in t hp
  have he := we_in t hp
  obtain ⟨c1, c2, c3, c4⟩ := xR1_in (P := cLe) (t := t) (N := N) (N - wq t N p) (wq t N p) (by omega)
  have h1 := h.1
  refine ⟨μ', e1, F1, h5, h4, h6', ?_⟩
  change μ'.1 2 5 = nI (wq t N p) at h5
  change μ'.1 2 4 = nI (tkK t N (wq t N p)) at h4
  change μ'.1 2 6 = nI (tkE t N (wq t N p)) at h6'
  by_cases z : wq t N p < N ∧ cLe (t (wq t N p)) = true
  · have k1 : tkK t N (wq t N p) = 1 := by
      unfold tkK
      rw [if_neg (by omega), if_pos z.2]
    have k2 : tkE t N (wq t N p) = we t N p := by
      unfold tkE
      rw [if_neg (by omega), if_pos z.2]
      rfl
    have k3 : wq t N p < we t N p := by
      unfold we
      rw [xR1_lt z.1, if_pos z.2]
      have := (xR1_in (P := cLe) (t := t) (N := N) (N - (wq t N p + 1)) (wq t N p + 1) (by omega)).1
      omega
    rw [k1] at h4
    rw [k2] at h6'
    refine ⟨fun tb htb => ?_, fun tb htb _ => ⟨k2, by omega⟩⟩
    refine p_wIn (h.of F1) htb (q := wq t N p) (k := we t N p - wq t N p) (by omega) h4 h5 ?_ (fun j hj => ?_)
    · rw [h6']
      congr 1
      omega
    · exact c4 _ (by omega) (show wq t N p + j < we t N p by omega)
  · have k1 : ¬ tkK t N (wq t N p) = 1 := by
      unfold tkK
      split
      · decide
      · rw [if_neg (fun y => z ⟨by omega, y⟩)]
        split <;> decide
    have k4 : tkK t N (wq t N p) < 4 := by
      unfold tkK
      repeat' split
      all_goals decide
    have k2 : we t N p = wq t N p := by
      unfold we
      by_cases y : wq t N p < N
      · rw [xR1_lt y, if_neg (fun w => z ⟨y, w⟩)]
      · rw [xR1_ge (by omega)]
    have k3 : wv t N p = 0 := by
      unfold wv
      rw [k2, Nat.sub_self, sv]
    refine ⟨fun tb htb => ?_, fun tb htb w => absurd (by rw [k3]; exact ki_0 tb htb) w⟩
    rw [k3, ki_0 tb htb]
    refine p_wNo ?_
    rw [h4]
    intro y
    exact k1 ((nI_eq (b := 1) (by omega) (by decide)).mp y)
/-- text, place on both sides -/
def Tl (t : Nat → Int32) (N : Nat) (μ ν : z_M) (p : Nat) : Prop := tx μ t N ∧ my ν t N ∧ p ≤ N ∧ μ.1 2 6 = nI p ∧ (∃ p2, p2 ≤ N ∧ ν.1 98 15 = nI p2 ∧ wq t N p2 = wq t N p) ∧ μ.1 2 2 = 0
/-- a fault on both sides -/
def Fl (t : Nat → Int32) (N : Nat) (f : Nat) (μ ν : z_M) : Prop := 1 ≤ f ∧ f ≤ 3 ∧ tx μ t N ∧ (∃ p, p ≤ N ∧ μ.1 2 6 = nI p) ∧ μ.1 2 2 = nI f ∧ μ.1 2 3 = ν.1 98 14
theorem p_refuse (h : tx μ t N) {q p f : Nat} (h5 : μ.1 2 5 = nI q) (hp : p ≤ N) (h6 : μ.1 2 6 = nI p) (hf : 1 ≤ f ∧ f ≤ 3) : ∃ μ', f_X1_refuse (nI f) μ = some (0, μ') ∧ gF W2 μ μ' ∧ ∀ ν, ν.1 98 14 = nI q → Fl t N f μ' ν := by
  unfold f_X1_refuse
  rw [z_st_s, z_st_s]
  have F : gF W2 μ (z_si (z_si μ 2 2 (nI f)) 2 3 ((z_si μ 2 2 (nI f)).1 2 5)) := ((gF.rf W2 μ).si (a := 2) (k := 2) ⟨rfl, by decide, by decide⟩ _).si (a := 2) (k := 3) ⟨rfl, by decide, by decide⟩ _
  refine ⟨_, rfl, F, fun ν hν => ⟨hf.1, hf.2, h.of2 F, ⟨p, hp, ?_⟩, ?_, ?_⟩⟩
  · rw [p_si_nk (by decide), p_si_nk (by decide)]
    exact h6
  · rw [p_si_nk (by decide), p_si_at]
  · rw [p_si_at, hν, p_si_nk (by decide)]
    exact h5
/-- a kind -/
theorem p_kinds (ht : ∀ i, i < N → p_in (t i) 0 255) {p : Nat} (h : Tl t N μ ν p) : ∃ ν', hF V1 ν ν' ∧ ((∃ μ', (∀ mk, f_X1_readKind mk μ = some (-1, μ')) ∧ gF W2 μ μ' ∧ f_X5_takeKind ν = some (1, ν') ∧ Fl t N 1 μ' ν') ∨ ∃ k, k < 8 ∧ ∃ q p', p < p' ∧ f_X5_takeKind ν = some (0, ν') ∧ ν'.1 98 19 = nI k ∧ ν'.1 98 20 = nI q ∧ (∀ mk, p_bit mk k = 1 → ∃ μ', f_X1_readKind mk μ = some (-1, μ') ∧ gF W2 μ μ' ∧ ∀ ν2, ν2.1 98 14 = nI q → Fl t N 3 μ' ν2) ∧ (∀ mk, ¬ p_bit mk k = 1 → ∃ μ', f_X1_readKind mk μ = some (nI k, μ') ∧ gF W456 μ μ' ∧ Tl t N μ' ν' p') ∧ ν'.1 98 14 = ν.1 98 14) := by
  obtain ⟨h1, h2, hp, h6, ⟨p2, hp2, h15, hw⟩, h22⟩ := h
  have h240 := h1.1
  obtain ⟨μ1, e1, F1, a5, a4, a6, aw, ae⟩ := p_word h1 hp h6
  obtain ⟨ν1, g1, G1, b15, b17, bw⟩ := p_readWord h2 ht hp2 h15
  have hq := wq_in t hp
  have he := we_in t hp
  have hT := tkE_in t hq.2
  have bv : wv t N p < 2 ^ 62 := by
    have := sv_b ht (wq t N p) (we t N p - wq t N p) (by omega)
    unfold wv
    omega
  change ν1.1 98 15 = nI (wq t N p2) at b15
  change ν1.1 98 17 = nI (xR1 cLe t N (wq t N p2)) at b17
  change ν1.2.1 98 16 = lN (sv t (wq t N p2) (xR1 cLe t N (wq t N p2) - wq t N p2)) at bw
  rw [hw] at b15 b17 bw
  change ν1.1 98 17 = nI (we t N p) at b17
  change ν1.2.1 98 16 = lN (wv t N p) at bw
  have kE := p_kindOf bw bv
  have R : ∀ mk, f_X1_readKind mk μ = if ki (wcs 1) 0 (wv t N p) = -1 then z_b2 (f_X1_refuse 1 μ1) fun r28 μ29 => some (-1, μ29) else z_b2 (f_X4_bit mk (ki (wcs 1) 0 (wv t N p)) μ1) fun r14 μ15 => if r14 = 1 then z_b2 (f_X1_refuse 3 μ15) fun r21 μ22 => some (-1, μ22) else some (ki (wcs 1) 0 (wv t N p), μ15) := by
    intro mk
    unfold f_X1_readKind
    rw [e1, z_b1_s, aw 1 (by decide), z_b2_s]
  have G2 : hF V1 ν (z_si (z_si ν1 98 19 (ki (wcs 1) 0 (wv t N p))) 98 20 (nI (wq t N p))) := ((G1.mono W15_V).si (a := 98) (k := 19) ⟨rfl, by decide, by decide⟩ _).si (a := 98) (k := 20) ⟨rfl, by decide, by decide⟩ _
  have i19 : (z_si (z_si ν1 98 19 (ki (wcs 1) 0 (wv t N p))) 98 20 (nI (wq t N p))).1 98 19 = ki (wcs 1) 0 (wv t N p) := by
    rw [p_si_nk (by decide), p_si_at]
  have i20 : (z_si (z_si ν1 98 19 (ki (wcs 1) 0 (wv t N p))) 98 20 (nI (wq t N p))).1 98 20 = nI (wq t N p) := p_si_at _ _ _ _
  have i15 : (z_si (z_si ν1 98 19 (ki (wcs 1) 0 (wv t N p))) 98 20 (nI (wq t N p))).1 98 15 = nI (wq t N p) := by
    rw [p_si_nk (by decide), p_si_nk (by decide)]
    exact b15
  have i17 : (z_si (z_si ν1 98 19 (ki (wcs 1) 0 (wv t N p))) 98 20 (nI (wq t N p))).1 98 17 = nI (we t N p) := by
    rw [p_si_nk (by decide), p_si_nk (by decide)]
    exact b17
  have i14 : (z_si (z_si ν1 98 19 (ki (wcs 1) 0 (wv t N p))) 98 20 (nI (wq t N p))).1 98 14 = ν.1 98 14 := by
    rw [p_si_nk (by decide), p_si_nk (by decide)]
    exact G1.1 98 14 (by unfold W15; omega)
  have T : f_X5_takeKind ν = if 0 ≤ ki (wcs 1) 0 (wv t N p) then some (0, z_si (z_si (z_si ν1 98 19 (ki (wcs 1) 0 (wv t N p))) 98 20 (nI (wq t N p))) 98 15 (nI (we t N p))) else some (1, z_si (z_si (z_si ν1 98 19 (ki (wcs 1) 0 (wv t N p))) 98 20 (nI (wq t N p))) 98 14 (nI (wq t N p))) := by
    unfold f_X5_takeKind f_X5_fails
    rw [g1, z_b1_s, kE, z_b2_s, z_st_s, z_st_s, show (z_si ν1 98 19 (ki (wcs 1) 0 (wv t N p))).1 98 15 = nI (wq t N p) by rw [p_si_nk (by decide)]; exact b15, i19, i15, i17, z_st_s, z_st_s, z_b2_s]
  generalize z_si (z_si ν1 98 19 (ki (wcs 1) 0 (wv t N p))) 98 20 (nI (wq t N p)) = ν2 at *
  rcases ki_rg (wcs 1) 0 (wv t N p) with z | ⟨k, hk, z⟩
  · obtain ⟨μ2, r1, r2, r3⟩ := p_refuse (f := 1) (h1.of F1) a5 hT.2 a6 (by decide)
    refine ⟨_, G2.si (a := 98) (k := 14) ⟨rfl, by decide, by decide⟩ (nI (wq t N p)), Or.inl ⟨μ2, fun mk => ?_, (F1.mono W456_2).tr r2, ?_, r3 _ (p_si_at _ _ _ _)⟩⟩
    · rw [R, if_pos z, show (1 : Int32) = nI 1 from rfl, r1, z_b2_s]
    · rw [T, z, if_neg (by decide)]
  · have hk8 : k < 8 := hk
    rw [Nat.zero_add] at z
    have zn : ¬ ki (wcs 1) 0 (wv t N p) = -1 := by
      rw [z]
      have : ∀ k, k < 8 → ¬ nI k = -1 := by decide
      exact this k hk8
    obtain ⟨t1, t2⟩ := ae 1 (by decide) zn
    refine ⟨_, G2.si (a := 98) (k := 15) ⟨rfl, by decide, by decide⟩ (nI (we t N p)), Or.inr ⟨k, hk8, wq t N p, we t N p, t2, ?_, ?_, ?_, fun mk hm => ?_, fun mk hm => ?_, ?_⟩⟩
    · rw [T, z, if_pos (nI_pos' (by omega))]
    · rw [p_si_nk (by decide), i19]
      exact z
    · rw [p_si_nk (by decide)]
      exact i20
    · obtain ⟨μ2, r1, r2, r3⟩ := p_refuse (f := 3) (h1.of F1) a5 hT.2 a6 (by decide)
      refine ⟨μ2, ?_, (F1.mono W456_2).tr r2, r3⟩
      rw [R, if_neg zn, z, p_bitE, z_b2_s, if_pos hm, show (3 : Int32) = nI 3 from rfl, r1, z_b2_s]
    · refine ⟨μ1, ?_, F1, h1.of F1, h2.of2 (G2.si (a := 98) (k := 15) ⟨rfl, by decide, by decide⟩ _), he.2, ?_, ⟨_, he.2, p_si_at _ _ _ _, rfl⟩, ?_⟩
      · rw [R, if_neg zn, z, p_bitE, z_b2_s, if_neg hm]
      · rw [a6, t1]
      · rw [F1.1 2 2 (by unfold W456; omega)]
        exact h22
    · rw [p_si_nk (by decide)]
      exact i14
end
