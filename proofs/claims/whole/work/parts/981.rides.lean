/-! PURE: the clause rides -/
def pc (m : Nat) : Nat := m % 2 + m / 2 % 2 + m / 4
theorem rm : ∀ m, m < 8 → ∀ f, f < 3 → ¬ p_bit (nI m) f = 1 → ∃ m2, m2 < 8 ∧ ¬ m2 = 0 ∧ pc m2 = pc m + 1 ∧ nI m ||| ((1 : Int32) <<< (nI f &&& 31)) = nI m2 := by
  have : ∀ m, m < 8 → ∀ f, f < 3 → ¬ p_bit (nI m) f = 1 → (m ||| 2 ^ f) < 8 ∧ ¬ (m ||| 2 ^ f) = 0 ∧ pc (m ||| 2 ^ f) = pc m + 1 ∧ nI m ||| ((1 : Int32) <<< (nI f &&& 31)) = nI (m ||| 2 ^ f) := by decide +kernel
  exact fun m h1 f h2 h3 => ⟨_, this m h1 f h2 h3⟩
theorem pc_b : ∀ m, m < 8 → pc m ≤ 3 := by decide
theorem wq_wq (t : Nat → Int32) {N p : Nat} (hp : p ≤ N) : wq t N (wq t N p) = wq t N p := by
  obtain ⟨q1, q2, q3, q4⟩ := xR1_in (P := cSp) (t := t) (N := N) (N - p) p (by omega)
  unfold wq
  by_cases z : xR1 cSp t N p < N
  · rw [xR1_lt z, if_neg (q3 z)]
  · rw [xR1_ge (by omega)]
theorem wv_n {t : Nat → Int32} {N p : Nat} (h : ¬ (wq t N p < N ∧ cLe (t (wq t N p)) = true)) : wv t N p = 0 := by
  have k2 : we t N p = wq t N p := by
    unfold we
    by_cases y : wq t N p < N
    · rw [xR1_lt y, if_neg (fun w => h ⟨y, w⟩)]
    · rw [xR1_ge (by omega)]
  unfold wv
  rw [k2, Nat.sub_self, sv]
def Wr (o k : Nat) : Nat → Nat → Prop := fun a j => W2 a j ∨ (a = o + 1 ∧ j = k)
def Vr (k : Nat) : Nat → Nat → Prop := fun a j => V1 a j ∨ (a = 105 ∧ j = k)
theorem W456_r (o k : Nat) : ∀ a j, W456 a j → Wr o k a j := fun a j h => Or.inl (W456_2 a j h)
theorem W15_r (k : Nat) : ∀ a j, W15 a j → Vr k a j := fun a j h => Or.inl (W15_V a j h)
section
variable {t : Nat → Int32} {N : Nat} {μ ν μ1 ν1 : z_M} {o k m p1 : Nat}
def Ri (t : Nat → Int32) (N o k : Nat) (μ ν μ1 ν1 : z_M) (m p1 : Nat) : Prop := gF (Wr o k) μ μ1 ∧ hF (Vr k) ν ν1 ∧ Tl t N μ1 ν1 p1 ∧ μ1.1 2 3 = -1 ∧ ν1.1 98 14 = -1 ∧ m < 8 ∧ μ1.1 (o + 1) k = nI m ∧ ν1.1 105 k = nI m
def Ro (t : Nat → Int32) (N o k : Nat) (μ ν : z_M) (p1 : Nat) (c r : Option (Int32 × z_M)) : Prop := (∃ μ' ν' m' p', c = some (1, μ') ∧ r = some (0, ν') ∧ ¬ m' = 0 ∧ p1 ≤ p' ∧ Ri t N o k μ ν μ' ν' m' p') ∨ (∃ μ' ν' f, c = some (0, μ') ∧ r = some (nI f, ν') ∧ gF (Wr o k) μ μ' ∧ hF (Vr k) ν ν' ∧ Fl t N f μ' ν') ∨ (∃ μ' ν' p', c = some (1, μ') ∧ r = some (1, ν') ∧ gF (Wr o k) μ μ' ∧ hF (Vr k) ν ν' ∧ tx μ' t N ∧ p' ≤ N ∧ μ'.1 2 6 = nI p' ∧ tkK t N (wq t N p') = 1 ∧ ν'.1 98 14 = nI (wq t N p'))
theorem g40_0 (o fu : Nat) (x2 x4 : Int32) (μ : z_M) : g_X1_readRides_40 o (fu + 1) x2 0 x4 μ = some (if μ.1 2 2 = 0 then 1 else 0, μ) := by
  rw [g_X1_readRides_40]
  unfold g_X1_readRides_78
  rw [if_pos rfl]
  split <;> rfl
/-- a word of funds of the reference -/
theorem p_fundW {ν : z_M} {p2 p : Nat} (h2 : my ν t N) (ht : ∀ i, i < N → p_in (t i) 0 255) (hp : p ≤ N) (hp2 : p2 ≤ N) (h15 : ν.1 98 15 = nI p2) (hw : wq t N p2 = wq t N p) : ∃ ν', f_X5_readWord ν = some ν' ∧ hF W15 ν ν' ∧ ν'.1 98 15 = nI (wq t N p) ∧ ν'.1 98 17 = nI (we t N p) ∧ f_X5_fundOf ν' = some (ki (wcs 2) 0 (wv t N p), ν') := by
  have h240 := h2.1
  obtain ⟨ν1, i1, G1, b15, b17, bw⟩ := p_readWord h2 ht hp2 h15
  have hq := wq_in t hp
  have he := we_in t hp
  have bv : wv t N p < 2 ^ 62 := by
    have := sv_b ht (wq t N p) (we t N p - wq t N p) (by omega)
    unfold wv
    omega
  change ν1.1 98 15 = nI (wq t N p2) at b15
  change ν1.1 98 17 = nI (xR1 cLe t N (wq t N p2)) at b17
  change ν1.2.1 98 16 = lN (sv t (wq t N p2) (xR1 cLe t N (wq t N p2) - wq t N p2)) at bw
  rw [hw] at b15 b17 bw
  change ν1.1 98 17 = nI (we t N p) at b17
  change ν1.2.1 98 16 = lN (wv t N p) at bw
  exact ⟨ν1, i1, G1, b15, b17, p_fundOf bw bv⟩
theorem r_step (ho : 51 ≤ o) (hk : k < 8) (ht : ∀ i, i < N → p_in (t i) 0 255) (h : Ri t N o k μ ν μ1 ν1 m p1) (fu fv : Nat) : Ro t N o k μ ν p1 (g_X1_readRides_40 o (fu + 2) (nI k) 1 (nI (pc m)) μ1) (g_X5_takeRides_37 (fv + 2) (nI k) 1 ν1) ∨ ∃ μ' ν' m' p', g_X1_readRides_40 o (fu + 2) (nI k) 1 (nI (pc m)) μ1 = g_X1_readRides_40 o (fu + 1) (nI k) 1 (nI (pc m')) μ' ∧ g_X5_takeRides_37 (fv + 2) (nI k) 1 ν1 = g_X5_takeRides_37 (fv + 1) (nI k) 1 ν' ∧ pc m' = pc m + 1 ∧ p1 ≤ p' ∧ Ri t N o k μ ν μ' ν' m' p' := by
  obtain ⟨F, G, ⟨h1, h2, hp, h6, ⟨p2, hp2, h15, hw⟩, h22⟩, h3, h14, hm, hc, hr⟩ := h
  have h240 := h1.1
  have hpc := pc_b m hm
  obtain ⟨μ2, e1, F1, a5, a4, a6, aw, ae⟩ := p_word h1 hp h6
  obtain ⟨ν2, i1, G1, b15, b17, bf⟩ := p_fundW h2 ht hp hp2 h15 hw
  have hq := wq_in t hp
  have he := we_in t hp
  have hT := tkE_in t hq.2
  have zk : z_in (nI k) 8 := p_zn hk (by decide)
  have c2 : μ2.1 (o + 1) k = nI m := by
    rw [F1.1 (o + 1) k (by unfold W456; omega)]
    exact hc
  have r2 : ν2.1 105 k = nI m := by
    rw [G1.1 105 k (by unfold W15; omega)]
    exact hr
  have tx2 := h1.of F1
  have FF := F.tr (F1.mono (W456_r o k))
  have GG := G.tr (G1.mono (W15_r k))
  have C : g_X1_readRides_40 o (fu + 2) (nI k) 1 (nI (pc m)) μ1 = z_b2 (f_X1_readFund o (nI k) μ1) fun r14 μ15 => (if r14 = 0 then (g_X1_readRides_40 o (fu + 1) (nI k) 0 (nI (pc m + 1)) μ15) else (z_b2 (f_X1_isFundNext μ15) fun r21 μ22 => (if r21 = 0 then (g_X1_readRides_40 o (fu + 1) (nI k) 0 (nI (pc m + 1)) μ22) else (g_X1_readRides_40 o (fu + 1) (nI k) 1 (nI (pc m + 1)) μ22)))) := by
    rw [g_X1_readRides_40]
    rw [if_neg (show ¬ (4 : Int32) ≤ nI (pc m) from nI_ge (b := 4) (by omega) (by decide)), if_neg (show ¬ (1 : Int32) = 0 by decide), nI_1]
  have RF : f_X1_readFund o (nI k) μ1 = if ki (wcs 2) 0 (wv t N p1) = -1 then z_b2 (f_X1_refuse 1 μ2) (fun r31 μ32 => if r31 = 0 ∨ r31 = 1 then some (r31, μ32) else none) else z_b2 (f_X4_bit (nI m) (ki (wcs 2) 0 (wv t N p1)) μ2) fun r14 μ15 => if r14 = 1 then z_b2 (f_X1_refuse 3 μ15) (fun r24 μ25 => if r24 = 0 ∨ r24 = 1 then some (r24, μ25) else none) else some (1, z_si μ15 (o + 1) k (μ15.1 (o + 1) k ||| ((1 : Int32) <<< (ki (wcs 2) 0 (wv t N p1) &&& 31)))) := by
    unfold f_X1_readFund
    rw [e1, z_b1_s, aw 2 (by decide), z_b2_s]
    simp only [if_pos zk, nI_clamp (show k < 2 ^ 31 by omega), c2, z_st_s]
  have R : g_X5_takeRides_37 (fv + 2) (nI k) 1 ν1 = if ki (wcs 2) 0 (wv t N p1) < 0 then g_X5_takeRides_71 (ki (wcs 2) 0 (wv t N p1)) ν2 else if ((nI m >>> (ki (wcs 2) 0 (wv t N p1) &&& 31)) &&& 1) = 1 then g_X5_takeRides_71 (ki (wcs 2) 0 (wv t N p1)) ν2 else z_b2 (f_X5_here (z_si (z_si ν2 105 k (nI m ||| ((1 : Int32) <<< (ki (wcs 2) 0 (wv t N p1) &&& 31)))) 98 15 (nI (we t N p1)))) fun r36 μ37 => z_b2 (f_X5_in r36.toInt64 97 122 μ37) fun r43 μ44 => g_X5_takeRides_37 (fv + 1) (nI k) r43 μ44 := by
    rw [g_X5_takeRides_37]
    rw [if_neg (show ¬ (1 : Int32) = 0 by decide), i1, z_b1_s, bf, z_b2_s]
    simp only [if_pos zk, nI_clamp (show k < 2 ^ 31 by omega), r2, z_st_s, p_si_ne (show (98 : Nat) ≠ 105 by decide), b17]
  have fA : ∀ (f : Nat) (x : Int32), 1 ≤ f → f ≤ 3 → (if 0 ≤ x then (3 : Int32) else 1) = nI f → f_X1_readFund o (nI k) μ1 = z_b2 (f_X1_refuse (nI f) μ2) (fun r31 μ32 => if r31 = 0 ∨ r31 = 1 then some (r31, μ32) else none) → g_X5_takeRides_37 (fv + 2) (nI k) 1 ν1 = g_X5_takeRides_71 x ν2 → Ro t N o k μ ν p1 (g_X1_readRides_40 o (fu + 2) (nI k) 1 (nI (pc m)) μ1) (g_X5_takeRides_37 (fv + 2) (nI k) 1 ν1) := by
    intro f x hf1 hf3 hx hRF hR
    obtain ⟨μ3, s1, s2, s3⟩ := p_refuse (f := f) tx2 a5 hT.2 a6 ⟨hf1, hf3⟩
    have fl := s3 (z_si ν2 98 14 (nI (wq t N p1))) (p_si_at _ _ _ _)
    refine Or.inr (Or.inl ⟨μ3, z_si ν2 98 14 (nI (wq t N p1)), f, ?_, ?_, FF.tr (s2.mono (fun a j h => Or.inl h)), GG.si (Or.inl ⟨rfl, by decide, by decide⟩) _, fl⟩)
    · rw [C, hRF, s1, z_b2_s, if_pos (Or.inl rfl), z_b2_s, if_pos rfl, g40_0, if_neg]
      rw [fl.2.2.2.2.1]
      exact nI_ne0 (by omega) (by omega)
    · rw [hR]
      unfold g_X5_takeRides_71 f_X5_fails
      rw [z_st_s, z_b2_s, b15, hx]
  rcases ki_rg (wcs 2) 0 (wv t N p1) with z | ⟨f, hf, z⟩
  · left
    refine fA 1 (-1) (by decide) (by decide) (by decide) ?_ ?_
    · rw [RF, if_pos z]
      rfl
    · rw [R, z, if_pos (by decide)]
  · have hf3 : f < 3 := hf
    rw [Nat.zero_add] at z
    have zn : ¬ ki (wcs 2) 0 (wv t N p1) = -1 := by
      rw [z]
      exact nI_n1 f (by omega)
    obtain ⟨t1, t2⟩ := ae 2 (by decide) zn
    rw [if_neg zn, z, p_bitE, z_b2_s] at RF
    rw [z, if_neg (nI_pos (by omega)), show ((nI m >>> (nI f &&& 31)) &&& 1) = p_bit (nI m) f from rfl] at R
    by_cases b : p_bit (nI m) f = 1
    · left
      refine fA 3 (nI f) (by decide) (by decide) ?_ ?_ ?_
      · rw [if_pos (nI_pos' (by omega))]
        rfl
      · rw [RF, if_pos b]
        rfl
      · rw [R, if_pos b]
    · obtain ⟨m2, hm2, hm0, hmc, hme⟩ := rm m hm f hf3 b
      rw [if_neg b, c2, hme] at RF
      rw [if_neg b, hme] at R
      rw [RF, z_b2_s, if_neg (show ¬ (1 : Int32) = 0 by decide)] at C
      rw [t1] at a6
      have F3 : gF (Wr o k) μ (z_si μ2 (o + 1) k (nI m2)) := FF.si (Or.inr ⟨rfl, rfl⟩) _
      have d6 : (z_si μ2 (o + 1) k (nI m2)).1 2 6 = nI (we t N p1) := by
        rw [p_si_ne (by omega)]
        exact a6
      have dtx : tx (z_si μ2 (o + 1) k (nI m2)) t N := by
        obtain ⟨y1, y2, y3⟩ := tx2
        refine ⟨y1, ?_, fun j hj => ?_⟩
        · rw [p_si_ne (by omega)]
          exact y2
        · rw [p_si_ne (by omega)]
          exact y3 j hj
      have d22 : (z_si μ2 (o + 1) k (nI m2)).1 2 2 = 0 := by
        rw [p_si_ne (by omega), F1.1 2 2 (by unfold W456; omega)]
        exact h22
      have d23 : (z_si μ2 (o + 1) k (nI m2)).1 2 3 = -1 := by
        rw [p_si_ne (by omega), F1.1 2 3 (by unfold W456; omega)]
        exact h3
      have dk : (z_si μ2 (o + 1) k (nI m2)).1 (o + 1) k = nI m2 := p_si_at _ _ _ _
      generalize z_si μ2 (o + 1) k (nI m2) = μ3 at *
      obtain ⟨μ4, e4, F4, -, q4, -, w4, -⟩ := p_word dtx he.2 d6
      have NX : f_X1_isFundNext μ3 = some (if ki (wcs 2) 0 (wv t N (we t N p1)) = -1 then 0 else 1, z_si μ4 2 6 (nI (we t N p1))) := by
        unfold f_X1_isFundNext
        rw [z_lt_s, e4, z_b1_s, w4 2 (by decide), z_b2_s, z_lt_s, z_st_s, d6, if_pos]
        split
        · exact Or.inl rfl
        · exact Or.inr rfl
      rw [NX, z_b2_s] at C
      have F5 : gF (Wr o k) μ (z_si μ4 2 6 (nI (we t N p1))) := (F3.tr (F4.mono (W456_r o k))).si (Or.inl ⟨rfl, by decide, by decide⟩) _
      have f6 : (z_si μ4 2 6 (nI (we t N p1))).1 2 6 = nI (we t N p1) := p_si_at _ _ _ _
      have ftx : tx (z_si μ4 2 6 (nI (we t N p1))) t N := dtx.of (F4.si (a := 2) (k := 6) ⟨rfl, Or.inr (Or.inr rfl)⟩ _)
      have f22 : (z_si μ4 2 6 (nI (we t N p1))).1 2 2 = 0 := by
        rw [p_si_nk (by decide), F4.1 2 2 (by unfold W456; omega)]
        exact d22
      have f23 : (z_si μ4 2 6 (nI (we t N p1))).1 2 3 = -1 := by
        rw [p_si_nk (by decide), F4.1 2 3 (by unfold W456; omega)]
        exact d23
      have fk : (z_si μ4 2 6 (nI (we t N p1))).1 (o + 1) k = nI m2 := by
        rw [p_si_ne (by omega), F4.1 (o + 1) k (by unfold W456; omega)]
        exact dk
      generalize z_si μ4 2 6 (nI (we t N p1)) = μ5 at *
      have G3 : hF (Vr k) ν (z_si (z_si ν2 105 k (nI m2)) 98 15 (nI (we t N p1))) := (GG.si (Or.inr ⟨rfl, rfl⟩) _).si (Or.inl ⟨rfl, by decide, by decide⟩) _
      have j15 : (z_si (z_si ν2 105 k (nI m2)) 98 15 (nI (we t N p1))).1 98 15 = nI (we t N p1) := p_si_at _ _ _ _
      have j14 : (z_si (z_si ν2 105 k (nI m2)) 98 15 (nI (we t N p1))).1 98 14 = -1 := by
        rw [p_si_nk (by decide), p_si_ne (by decide), G1.1 98 14 (by unfold W15; omega)]
        exact h14
      have jk : (z_si (z_si ν2 105 k (nI m2)) 98 15 (nI (we t N p1))).1 105 k = nI m2 := by
        rw [p_si_ne (by decide), p_si_at]
      have jmy : my (z_si (z_si ν2 105 k (nI m2)) 98 15 (nI (we t N p1))) t N := by
        obtain ⟨y1, y2, y3⟩ := h2.of G1
        refine ⟨y1, ?_, fun j hj => ?_⟩
        · rw [p_si_nk (by decide), p_si_ne (by decide)]
          exact y2
        · rw [p_si_ne (by decide), p_si_ne (by decide)]
          exact y3 j hj
      generalize z_si (z_si ν2 105 k (nI m2)) 98 15 (nI (we t N p1)) = ν3 at *
      obtain ⟨ν4, g4, G4, l15, -⟩ := p_here jmy he.2 j15
      change f_X5_here ν3 = some (hV t N (wq t N (we t N p1)), ν4) at g4
      change ν4.1 98 15 = nI (wq t N (we t N p1)) at l15
      rw [g4, z_b2_s, p_in5, z_b2_s] at R
      have hE := wq_in t he.2
      have hI := wq_wq t he.2
      have G5 := G3.tr (G4.mono (W15_r k))
      have l14 : ν4.1 98 14 = -1 := by
        rw [G4.1 98 14 (by unfold W15; omega)]
        exact j14
      have lk : ν4.1 105 k = nI m2 := by
        rw [G4.1 105 k (by unfold W15; omega)]
        exact jk
      have RI : Ri t N o k μ ν μ5 ν4 m2 (we t N p1) := ⟨F5, G5, ⟨ftx, jmy.of G4, he.2, f6, ⟨_, hE.2, l15, hI⟩, f22⟩, f23, l14, hm2, fk, lk⟩
      by_cases zl : wq t N (we t N p1) < N ∧ cLe (t (wq t N (we t N p1))) = true
      · have hvL : hV t N (wq t N (we t N p1)) = t (wq t N (we t N p1)) := by
          unfold hV
          rw [if_neg (by omega)]
        have hb1 : p_b (p_in (hV t N (wq t N (we t N p1))) (Int64.toInt 97) (Int64.toInt 122)) = 1 := by
          rw [hvL]
          exact p_b_1.mpr (of_decide_eq_true zl.2)
        rw [hb1] at R
        by_cases y : ki (wcs 2) 0 (wv t N (we t N p1)) = -1
        · rw [if_pos y, if_pos rfl, g40_0, if_pos f22] at C
          obtain ⟨ν5, s1, s2, s3, s4, s5⟩ := p_fundW (jmy.of G4) ht he.2 hE.2 l15 hI
          have X : g_X5_takeRides_37 (fv + 1) (nI k) 1 ν4 = some (1, z_si ν5 98 14 (nI (wq t N (we t N p1)))) := by
            rw [g_X5_takeRides_37]
            rw [if_neg (show ¬ (1 : Int32) = 0 by decide), s1, z_b1_s, s5, z_b2_s, y, if_pos (by decide)]
            unfold g_X5_takeRides_71 f_X5_fails
            rw [if_neg (by decide), z_st_s, z_b2_s, s3]
          rw [X] at R
          left
          refine Or.inr (Or.inr ⟨μ5, _, we t N p1, C, R, F5, (G5.tr (s2.mono (W15_r k))).si (Or.inl ⟨rfl, by decide, by decide⟩) _, ftx, he.2, f6, ?_, p_si_at _ _ _ _⟩)
          unfold tkK
          rw [if_neg (by omega), if_pos zl.2]
        · rw [if_neg y, if_neg (show ¬ (1 : Int32) = 0 by decide), ← hmc] at C
          right
          exact ⟨μ5, ν4, m2, we t N p1, C, R, hmc, by omega, RI⟩
      · have hb0 : p_b (p_in (hV t N (wq t N (we t N p1))) (Int64.toInt 97) (Int64.toInt 122)) = 0 := by
          refine p_b_0.mpr (fun w => ?_)
          unfold hV at w
          by_cases y : N ≤ wq t N (we t N p1)
          · rw [if_pos y] at w
            exact absurd w (by decide)
          · rw [if_neg y] at w
            exact zl ⟨by omega, decide_eq_true w⟩
        have X : g_X5_takeRides_37 (fv + 1) (nI k) 0 ν4 = some (0, ν4) := by
          rw [g_X5_takeRides_37]
          rw [if_pos rfl]
        rw [hb0, X] at R
        have y : ki (wcs 2) 0 (wv t N (we t N p1)) = -1 := by
          rw [wv_n zl]
          exact ki_0 2 (by decide)
        rw [if_pos y, if_pos rfl, g40_0, if_pos f22] at C
        left
        exact Or.inl ⟨μ5, ν4, m2, we t N p1, C, R, hm0, by omega, RI⟩
theorem r_loop (ho : 51 ≤ o) (hk : k < 8) (ht : ∀ i, i < N → p_in (t i) 0 255) : ∀ d m p1 μ1 ν1 fu fv, pc m + d = 3 → d + 1 < fu → d + 1 < fv → Ri t N o k μ ν μ1 ν1 m p1 → Ro t N o k μ ν p1 (g_X1_readRides_40 o fu (nI k) 1 (nI (pc m)) μ1) (g_X5_takeRides_37 fv (nI k) 1 ν1) := by
  intro d
  induction d with
  | zero =>
    intro m p1 μ1 ν1 fu fv hd hf hv h
    obtain ⟨fu, rfl⟩ : ∃ q, fu = q + 2 := ⟨fu - 2, by omega⟩
    obtain ⟨fv, rfl⟩ : ∃ q, fv = q + 2 := ⟨fv - 2, by omega⟩
    rcases r_step ho hk ht h fu fv with a | ⟨μ', ν', m', p', -, -, h1, -, h2⟩
    · exact a
    · have := pc_b m' h2.2.2.2.2.2.1
      omega
  | succ d ih =>
    intro m p1 μ1 ν1 fu fv hd hf hv h
    obtain ⟨fu, rfl⟩ : ∃ q, fu = q + 2 := ⟨fu - 2, by omega⟩
    obtain ⟨fv, rfl⟩ : ∃ q, fv = q + 2 := ⟨fv - 2, by omega⟩
    rcases r_step ho hk ht h fu fv with a | ⟨μ', ν', m', p', e1, e2, h1, h3, h2⟩
    · exact a
    · rw [e1, e2]
      rcases ih m' p' μ' ν' (fu + 1) (fv + 1) (by omega) (by omega) (by omega) h2 with ⟨a1, a2, a3, a4, a5, a6, a7, a8, a9⟩ | b
      · exact Or.inl ⟨a1, a2, a3, a4, a5, a6, a7, by omega, a9⟩
      · exact Or.inr b
end
