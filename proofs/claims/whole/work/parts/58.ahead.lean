/-! PURE: ahead -/
def a_vo (f : Nat → Int32) (day : Int32) : Nat → Int32
  | 0 => -1
  | k + 1 => if day < f k then a_vo f day k else nI k
theorem a_vo_s (f : Nat → Int32) (day : Int32) (k : Nat) : a_vo f day (k + 1) = if day < f k then a_vo f day k else nI k := rfl
theorem a_vo_in (f : Nat → Int32) (day : Int32) : ∀ K, K ≤ 6 → p_in (a_vo f day K) (-1) 5
  | 0, _ => by
    show p_in (-1) (-1) 5
    decide
  | K + 1, h => by
    unfold a_vo
    split
    · exact a_vo_in f day K (by omega)
    · have := nI_toInt (show K < 2 ^ 31 by omega)
      exact ⟨by omega, by omega⟩
theorem a_vo_congr {f g : Nat → Int32} (day : Int32) : ∀ K, (∀ k, k < K → f k = g k) → a_vo f day K = a_vo g day K
  | 0, _ => rfl
  | K + 1, h => by
    unfold a_vo
    rw [a_vo_congr day K (fun k hk => h k (by omega)), h K (by omega)]
def a_vof (s : a_S) (c : Nat) : Int32 := a_vo (s.2.2 1) (s.2.2 5 c) s.1
theorem p_vof4_l {μ : z_M} {o c K : Nat} (hK : K ≤ 6) (hc : c < 14) (e : μ.1 o 0 = nI K) : ∀ m i n, i + m = K → m < n → g_X3_voyageOf_4 o n (nI c) (a_vo (μ.1 (o + 1)) (μ.1 (o + 5) c) i) (nI i) μ = some (a_vo (μ.1 (o + 1)) (μ.1 (o + 5) c) K, μ) := by
  intro m
  induction m with
  | zero =>
    intro i n hi hm
    obtain ⟨n, rfl⟩ : ∃ q, n = q + 1 := ⟨n - 1, by omega⟩
    have ei : i = K := by omega
    subst ei
    unfold g_X3_voyageOf_4
    rw [if_pos (by rw [e]; exact nI_le (by omega) (by omega))]
  | succ m ih =>
    intro i n hi hm
    obtain ⟨n, rfl⟩ : ∃ q, n = q + 1 := ⟨n - 1, by omega⟩
    unfold g_X3_voyageOf_4
    have q := ih (i + 1) n (by omega) (by omega)
    simp only [if_neg (show ¬ μ.1 o 0 ≤ nI i by rw [e]; exact p_nle (by omega) (by omega)), if_pos (p_zn (show i < 6 by omega) (by decide)), if_pos (p_zn hc (by decide)), nI_clamp (show i < 2 ^ 31 by omega), nI_clamp (show c < 2 ^ 31 by omega), nI_1]
    rw [a_vo_s] at q
    split
    · rename_i h
      rw [if_pos h] at q
      exact q
    · rename_i h
      rw [if_neg h] at q
      exact q
theorem p_vof4 {μ : z_M} {o : Nat} {s : a_S} {c : Nat} (hs : w_ship s) (cs : c_ship μ o s) (hc : c < s.2.1) : f_X3_voyageOf o (nI c) μ = some (a_vof s c, μ) := by
  have h14 : s.2.1 ≤ 14 := hs.2.1
  have h6 : s.1 ≤ 6 := hs.1
  have q := p_vof4_l (μ := μ) (o := o) (c := c) h6 (by omega) cs.1 s.1 0 z_N (by omega) (Nat.lt_of_le_of_lt h6 (by decide))
  have e : a_vo (μ.1 (o + 1)) (μ.1 (o + 5) c) s.1 = a_vof s c := by
    rw [(cs.2.2.2.1 c hc).2.2.1]
    exact a_vo_congr _ _ (fun k hk => (cs.2.2.1 k hk).1)
  rw [e] at q
  exact q
theorem p_vof5_l {μ : z_M} {c K : Nat} (hK : K ≤ 6) (hc : c < 14) (e : μ.1 98 24 = nI K) : ∀ m i n, i + m = K → m < n → g_X5_voyageOf_4 n (nI c) (a_vo (μ.1 114) (μ.1 118 c) i) (nI i) μ = some (a_vo (μ.1 114) (μ.1 118 c) K, μ) := by
  intro m
  induction m with
  | zero =>
    intro i n hi hm
    obtain ⟨n, rfl⟩ : ∃ q, n = q + 1 := ⟨n - 1, by omega⟩
    have ei : i = K := by omega
    subst ei
    unfold g_X5_voyageOf_4
    rw [if_pos (by rw [e]; exact nI_le (by omega) (by omega))]
  | succ m ih =>
    intro i n hi hm
    obtain ⟨n, rfl⟩ : ∃ q, n = q + 1 := ⟨n - 1, by omega⟩
    unfold g_X5_voyageOf_4
    have q := ih (i + 1) n (by omega) (by omega)
    simp only [if_neg (show ¬ μ.1 98 24 ≤ nI i by rw [e]; exact p_nle (by omega) (by omega)), if_pos (p_zn (show i < 7 by omega) (by decide)), if_pos (p_zn (show c < 15 by omega) (by decide)), nI_clamp (show i < 2 ^ 31 by omega), nI_clamp (show c < 2 ^ 31 by omega), nI_1, z_lt]
    rw [a_vo_s] at q
    exact q
theorem p_vof5 {μ : z_M} {s : a_S} {c : Nat} (hs : w_ship s) (ms : m_ship μ s) (hc : c < s.2.1) : f_X5_voyageOf (nI c) μ = some (a_vof s c, μ) := by
  have h14 : s.2.1 ≤ 14 := hs.2.1
  have h6 : s.1 ≤ 6 := hs.1
  have q := p_vof5_l (μ := μ) (c := c) h6 (by omega) ms.1 s.1 0 z_N (by omega) (Nat.lt_of_le_of_lt h6 (by decide))
  have e : a_vo (μ.1 114) (μ.1 118 c) s.1 = a_vof s c := by
    rw [(ms.2.2.2.1 c hc).2.2.1]
    exact a_vo_congr _ _ (fun k hk => (ms.2.2.1 k hk).1)
  rw [e] at q
  exact q
/-- where a claim stands in the line -/
def a_st (l : a_T) (s : a_S) (c : Nat) : Int32 := ((((1 - l 1 (a_k s c)) * 7 + (if l 6 0 = 0 then 0 else if 1 - l 1 (a_k s c) = 1 then 5 - a_vof s c else 0)) * 8 + l 4 (a_k s c)) * 1000 + (if l 6 1 = 1 then 999 - s.2.2 5 c else if l 6 1 = 2 then s.2.2 5 c else 0))
def a_stI (l : a_T) (s : a_S) (c : Nat) : Int := ((((1 - (l 1 (a_k s c)).toInt) * 7 + (if l 6 0 = 0 then 0 else if (l 1 (a_k s c)).toInt = 0 then 5 - (a_vof s c).toInt else 0)) * 8 + (l 4 (a_k s c)).toInt) * 1000 + (if l 6 1 = 1 then 999 - (s.2.2 5 c).toInt else if l 6 1 = 2 then (s.2.2 5 c).toInt else 0))
theorem p_bit_01 (x : Int32) {k : Nat} (hk : k < 32) : p_bit x k = 0 ∨ p_bit x k = 1 := by
  rw [p_bit_bt x hk]
  split
  · exact Or.inr rfl
  · exact Or.inl rfl
theorem p_side {a b : Int32} (ha : a = 0 ∨ a = 1) (hb : b = 0 ∨ b = 1) : 1 - a + b = 1 - (a - b) := by
  rcases ha with rfl | rfl <;> rcases hb with rfl | rfl <;> decide
theorem p_stand4 {μ : z_M} {o o1 : Nat} {s : a_S} {l : a_T} {c : Nat} (hs : w_ship s) (cs : c_ship μ o s) (cl : c_law μ o1 l) (hc : c < s.2.1) : f_X3_standing o o1 (nI c) μ = some (a_st l s c, μ) := by
  have h14 : s.2.1 ≤ 14 := hs.2.1
  obtain ⟨ek, hk⟩ := a_k_lt hs hc
  obtain ⟨m1, m2, m3, m4, m5, m6, m7⟩ := cs.2.2.2.1 c hc
  obtain ⟨l1, l2, l3, l4, l5⟩ := cl.1 (a_k s c) hk
  have h11 : μ.1 o1 11 = l 6 0 := cl.2.2.1
  have h9 : μ.1 o1 9 = l 6 1 := cl.2.2.2.1
  have hz : z_in (nI c) 14 := p_zn (by omega) (by decide)
  have hx : z_in (nI (a_k s c)) 8 := p_zn (by omega) (by decide)
  have eb : (1 : Int32) - p_bit (μ.1 o1 4) (a_k s c) + p_bit (μ.1 o1 5) (a_k s c) = 1 - l 1 (a_k s c) := by
    rw [p_side (p_bit_01 _ (by omega)) (p_bit_01 _ (by omega)), l2]
  unfold f_X3_standing
  simp only [if_pos hz, p_vof4 hs cs hc, z_b2_s, nI_clamp (show c < 2 ^ 31 by omega), m1, m3, ek]
  unfold f_X0_standingOf f_X4_bit
  simp only [z_b2_s, z_lt, if_pos hx, nI_clamp (show a_k s c < 2 ^ 31 by omega), l5, h11, h9]
  have eb' : (1 : Int32) - ((μ.1 o1 4 >>> (nI (a_k s c) &&& 31)) &&& 1) + ((μ.1 o1 5 >>> (nI (a_k s c) &&& 31)) &&& 1) = 1 - l 1 (a_k s c) := eb
  rw [eb']
  rfl
theorem a_st_I {s : a_S} {l : a_T} {c : Nat} (hs : w_ship s) (hl : w_law l) (hc : c < s.2.1) : (a_st l s c).toInt = a_stI l s c := by
  obtain ⟨ek, hk⟩ := a_k_lt hs hc
  have w5 := (hs.2.2.2.1 c hc).2.2.1
  obtain ⟨q0, q1, q2, q3, q4⟩ := hl.1 _ hk
  have hv : p_in (a_vof s c) (-1) 5 := a_vo_in _ _ _ hs.1
  have w51 := w5.1
  have w52 := w5.2
  have q11 := q1.1
  have q12 := q1.2
  have q41 := q4.1
  have q42 := q4.2
  have v1 := hv.1
  have v2 := hv.2
  have e7 : (7 : Int32).toInt = 7 := by decide
  have e8 : (8 : Int32).toInt = 8 := by decide
  have e5 : (5 : Int32).toInt = 5 := by decide
  have e1000 : (1000 : Int32).toInt = 1000 := by decide
  have es : (1 - l 1 (a_k s c)).toInt = 1 - (l 1 (a_k s c)).toInt := by rw [p_subI (by rw [p_z1]; omega) (by rw [p_z1]; omega), p_z1]
  have ev : (if l 6 0 = 0 then (0 : Int32) else if 1 - l 1 (a_k s c) = 1 then 5 - a_vof s c else 0).toInt = (if l 6 0 = 0 then 0 else if (l 1 (a_k s c)).toInt = 0 then 5 - (a_vof s c).toInt else 0) ∧ 0 ≤ (if l 6 0 = 0 then 0 else if (l 1 (a_k s c)).toInt = 0 then 5 - (a_vof s c).toInt else 0) ∧ (if l 6 0 = 0 then 0 else if (l 1 (a_k s c)).toInt = 0 then 5 - (a_vof s c).toInt else 0) ≤ 6 := by
    split
    · exact ⟨rfl, by decide, by decide⟩
    · by_cases h : (l 1 (a_k s c)).toInt = 0
      · rw [if_pos h, if_pos (by rw [p_eq, es, p_z1]; omega), p_subI (by rw [e5]; omega) (by rw [e5]; omega), e5]
        exact ⟨rfl, by omega, by omega⟩
      · rw [if_neg h, if_neg (by rw [p_eq, es, p_z1]; omega)]
        exact ⟨rfl, by decide, by decide⟩
  have ed : (if l 6 1 = 1 then 999 - s.2.2 5 c else if l 6 1 = 2 then s.2.2 5 c else 0).toInt = (if l 6 1 = 1 then 999 - (s.2.2 5 c).toInt else if l 6 1 = 2 then (s.2.2 5 c).toInt else 0) ∧ 0 ≤ (if l 6 1 = 1 then 999 - (s.2.2 5 c).toInt else if l 6 1 = 2 then (s.2.2 5 c).toInt else 0) ∧ (if l 6 1 = 1 then 999 - (s.2.2 5 c).toInt else if l 6 1 = 2 then (s.2.2 5 c).toInt else 0) ≤ 999 := by
    split
    · rw [p_subI (by rw [p_z999]; omega) (by rw [p_z999]; omega), p_z999]
      exact ⟨rfl, by omega, by omega⟩
    · split
      · exact ⟨rfl, by omega, by omega⟩
      · exact ⟨rfl, by decide, by decide⟩
  unfold a_st a_stI
  obtain ⟨ev, ev1, ev2⟩ := ev
  obtain ⟨ed, ed1, ed2⟩ := ed
  generalize (if l 6 0 = 0 then (0 : Int32) else if 1 - l 1 (a_k s c) = 1 then 5 - a_vof s c else 0) = V at *
  generalize (if l 6 0 = 0 then (0 : Int) else if (l 1 (a_k s c)).toInt = 0 then 5 - (a_vof s c).toInt else 0) = v at *
  generalize (if l 6 1 = 1 then 999 - s.2.2 5 c else if l 6 1 = 2 then s.2.2 5 c else 0) = D at *
  generalize (if l 6 1 = 1 then 999 - (s.2.2 5 c).toInt else if l 6 1 = 2 then (s.2.2 5 c).toInt else 0) = d at *
  have t1 : ((1 - l 1 (a_k s c)) * 7).toInt = (1 - (l 1 (a_k s c)).toInt) * 7 := by rw [p_mulI (by rw [es, e7]; omega) (by rw [es, e7]; omega), es, e7]
  have t2 : ((1 - l 1 (a_k s c)) * 7 + V).toInt = (1 - (l 1 (a_k s c)).toInt) * 7 + v := by rw [p_addI (by rw [t1, ev]; omega) (by rw [t1, ev]; omega), t1, ev]
  have t3 : (((1 - l 1 (a_k s c)) * 7 + V) * 8).toInt = ((1 - (l 1 (a_k s c)).toInt) * 7 + v) * 8 := by rw [p_mulI (by rw [t2, e8]; omega) (by rw [t2, e8]; omega), t2, e8]
  have t4 : (((1 - l 1 (a_k s c)) * 7 + V) * 8 + l 4 (a_k s c)).toInt = ((1 - (l 1 (a_k s c)).toInt) * 7 + v) * 8 + (l 4 (a_k s c)).toInt := by rw [p_addI (by rw [t3]; omega) (by rw [t3]; omega), t3]
  have t5 : ((((1 - l 1 (a_k s c)) * 7 + V) * 8 + l 4 (a_k s c)) * 1000).toInt = (((1 - (l 1 (a_k s c)).toInt) * 7 + v) * 8 + (l 4 (a_k s c)).toInt) * 1000 := by rw [p_mulI (by rw [t4, e1000]; omega) (by rw [t4, e1000]; omega), t4, e1000]
  rw [p_addI (by rw [t5, ed]; omega) (by rw [t5, ed]; omega), t5, ed]
def a_sg (z : Int) : Int32 := if 0 < z then 1 else if z = 0 then 0 else -1
theorem a_sg_p {z : Int} (h : 0 < z) : a_sg z = 1 := if_pos h
theorem a_sg_0 {z : Int} (h : z = 0) : a_sg z = 0 := by rw [h]; rfl
theorem a_sg_n {z : Int} (h : z < 0) : a_sg z = -1 := by
  unfold a_sg
  rw [if_neg (by omega), if_neg (by omega)]
def a_w (l : a_T) (s : a_S) (c : Nat) : Int := if l 6 1 = 1 then 999 - (s.2.2 5 c).toInt else if l 6 1 = 2 then (s.2.2 5 c).toInt else 0
theorem a_w_in {s : a_S} (hs : w_ship s) (l : a_T) {c : Nat} (hc : c < s.2.1) : 0 ≤ a_w l s c ∧ a_w l s c ≤ 999 := by
  have w5 := (hs.2.2.2.1 c hc).2.2.1
  have w51 := w5.1
  have w52 := w5.2
  unfold a_w
  repeat' split
  all_goals omega
theorem p_88 {ν : z_M} {s : a_S} {l : a_T} {n c d : Nat} (hs : w_ship s) (hl : w_law l) (ms : m_ship ν s) (ml : m_law ν n l) (hn : n < 4) (hc : c < s.2.1) (hd : d < s.2.1) (xs : Int32) : g_X5_order2_88 (nI n) (nI c) (nI d) xs ν = some (a_sg (xs.toInt * 8000 + ((l 4 (a_k s d)).toInt - (l 4 (a_k s c)).toInt) * 1000 + (a_w l s d - a_w l s c)), ν) := by
  have h14 : s.2.1 ≤ 14 := hs.2.1
  obtain ⟨ek, hk⟩ := a_k_lt hs hc
  obtain ⟨ek', hk'⟩ := a_k_lt hs hd
  obtain ⟨m1, m2, m3, m4, m5, m6, m7⟩ := ms.2.2.2.1 c hc
  obtain ⟨m1', m2', m3', m4', m5', m6', m7'⟩ := ms.2.2.2.1 d hd
  obtain ⟨l1, l2, l3, l4, l5⟩ := ml.1 (a_k s c) hk
  obtain ⟨l1', l2', l3', l4', l5'⟩ := ml.1 (a_k s d) hk'
  have l6 := ml.2.2 1 (by decide)
  have wc := a_w_in hs l hc
  have wd := a_w_in hs l hd
  have w5 := (hs.2.2.2.1 c hc).2.2.1
  have w5' := (hs.2.2.2.1 d hd).2.2.1
  have q4 := (hl.1 _ hk).2.2.2.2
  have q4' := (hl.1 _ hk').2.2.2.2
  have e61 := hl.2.2.2.1
  obtain ⟨w51, w52⟩ := w5
  obtain ⟨w51', w52'⟩ := w5'
  obtain ⟨q41, q42⟩ := q4
  obtain ⟨q41', q42'⟩ := q4'
  have hz : z_in (nI c) 15 := p_zn (by omega) (by decide)
  have hz' : z_in (nI d) 15 := p_zn (by omega) (by decide)
  have hx : z_in (nI (8 * n + a_k s c)) 32 := p_zn (by omega) (by decide)
  have hx' : z_in (nI (8 * n + a_k s d)) 32 := p_zn (by omega) (by decide)
  have h5 : z_in (nI (5 * n + 1)) 20 := p_zn (by omega) (by decide)
  have e8 : (8 : Int32) * nI n + nI (a_k s c) = nI (8 * n + a_k s c) := p_ix 8 n _
  have e8' : (8 : Int32) * nI n + nI (a_k s d) = nI (8 * n + a_k s d) := p_ix 8 n _
  have e5 : (5 : Int32) * nI n + 1 = nI (5 * n + 1) := p_ix 5 n 1
  have er : (l 4 (a_k s d) - l 4 (a_k s c)).toInt = (l 4 (a_k s d)).toInt - (l 4 (a_k s c)).toInt := p_subI (by omega) (by omega)
  have f1 : (s.2.2 5 c - s.2.2 5 d).toInt = (s.2.2 5 c).toInt - (s.2.2 5 d).toInt := p_subI (by omega) (by omega)
  have f2 : (s.2.2 5 d - s.2.2 5 c).toInt = (s.2.2 5 d).toInt - (s.2.2 5 c).toInt := p_subI (by omega) (by omega)
  unfold g_X5_order2_88
  simp only [if_pos hz, if_pos hz', nI_clamp (show c < 2 ^ 31 by omega), nI_clamp (show d < 2 ^ 31 by omega), m1, m1', ek, ek', e8, e8', e5, if_pos hx, if_pos hx', if_pos h5, nI_clamp (show 8 * n + a_k s c < 2 ^ 31 by omega), nI_clamp (show 8 * n + a_k s d < 2 ^ 31 by omega), nI_clamp (show 5 * n + 1 < 2 ^ 31 by omega), l5, l5', l6, z_lt, m3, m3']
  by_cases c0 : xs = 0
  · rw [if_pos c0]
    have c0' : xs.toInt = 0 := by rw [c0]; rfl
    by_cases c1 : l 4 (a_k s d) - l 4 (a_k s c) = 0
    · rw [if_pos c1, if_pos ⟨fun _ _ => hz', fun _ _ => hz, fun _ _ => hz, fun _ _ => hz'⟩]
      rw [p_eq, er, p_z0] at c1
      congr 2
      unfold a_w
      generalize hX : (if l 6 1 = 0 then (0 : Int32) else if l 6 1 = 1 then s.2.2 5 c - s.2.2 5 d else s.2.2 5 d - s.2.2 5 c) = X
      have eX : X.toInt = ((if l 6 1 = 1 then 999 - (s.2.2 5 d).toInt else if l 6 1 = 2 then (s.2.2 5 d).toInt else 0) - (if l 6 1 = 1 then 999 - (s.2.2 5 c).toInt else if l 6 1 = 2 then (s.2.2 5 c).toInt else 0)) := by
        rw [← hX]
        by_cases g0 : l 6 1 = 0
        · rw [if_pos g0, if_neg (by rw [g0]; decide), if_neg (by rw [g0]; decide), if_neg (by rw [g0]; decide), if_neg (by rw [g0]; decide)]
          rfl
        · rw [if_neg g0]
          by_cases g1 : l 6 1 = 1
          · rw [if_pos g1, if_pos g1, if_pos g1, f1]
            omega
          · have g2 : l 6 1 = 2 := by
              rw [p_eq, p_z0] at g0
              rw [p_eq, p_z1] at g1
              rw [p_eq, show (2 : Int32).toInt = 2 by decide]
              have := e61.1
              have := e61.2
              omega
            rw [if_neg g1, if_neg g1, if_neg g1, if_pos g2, if_pos g2, f2]
      rw [← eX]
      by_cases g : X ≤ 0
      · rw [if_pos g]
        rw [p_le, p_z0] at g
        by_cases g' : 0 ≤ X
        · rw [if_pos g']
          rw [p_le, p_z0] at g'
          rw [a_sg_0]
          omega
        · rw [if_neg g']
          rw [p_le, p_z0] at g'
          rw [a_sg_n]
          omega
      · rw [if_neg g]
        rw [p_le, p_z0] at g
        rw [a_sg_p]
        omega
    · rw [if_neg c1]
      rw [p_eq, er, p_z0] at c1
      congr 2
      by_cases g : l 4 (a_k s d) - l 4 (a_k s c) ≤ 0
      · rw [if_pos g]
        rw [p_le, er, p_z0] at g
        rw [a_sg_n]
        omega
      · rw [if_neg g]
        rw [p_le, er, p_z0] at g
        rw [a_sg_p]
        omega
  · rw [if_neg c0]
    rw [p_eq, p_z0] at c0
    congr 2
    by_cases g : xs ≤ 0
    · rw [if_pos g]
      rw [p_le, p_z0] at g
      rw [a_sg_n]
      omega
    · rw [if_neg g]
      rw [p_le, p_z0] at g
      rw [a_sg_p]
      omega
theorem p_ord5 {ν : z_M} {s : a_S} {l : a_T} {n c d : Nat} (hs : w_ship s) (hl : w_law l) (ms : m_ship ν s) (ml : m_law ν n l) (hn : n < 4) (hc : c < s.2.1) (hd : d < s.2.1) : f_X5_order2 (nI n) (nI c) (nI d) ν = some (a_sg (a_stI l s d - a_stI l s c), ν) := by
  have h14 : s.2.1 ≤ 14 := hs.2.1
  obtain ⟨ek, hk⟩ := a_k_lt hs hc
  obtain ⟨ek', hk'⟩ := a_k_lt hs hd
  have m1 := (ms.2.2.2.1 c hc).1
  have m1' := (ms.2.2.2.1 d hd).1
  have l2 := (ml.1 (a_k s c) hk).2.1
  have l2' := (ml.1 (a_k s d) hk').2.1
  have l6 : ν.1 104 (5 * n) = l 6 0 := ml.2.2 0 (by decide)
  have wc := a_w_in hs l hc
  have wd := a_w_in hs l hd
  obtain ⟨q11, q12⟩ := (hl.1 _ hk).2.1
  obtain ⟨q11', q12'⟩ := (hl.1 _ hk').2.1
  obtain ⟨q41, q42⟩ := (hl.1 _ hk).2.2.2.2
  obtain ⟨q41', q42'⟩ := (hl.1 _ hk').2.2.2.2
  obtain ⟨v1, v2⟩ : p_in (a_vof s c) (-1) 5 := a_vo_in _ _ _ hs.1
  obtain ⟨v1', v2'⟩ : p_in (a_vof s d) (-1) 5 := a_vo_in _ _ _ hs.1
  have e60 := hl.2.2.1
  have hz : z_in (nI c) 15 := p_zn (by omega) (by decide)
  have hz' : z_in (nI d) 15 := p_zn (by omega) (by decide)
  have hx : z_in (nI (8 * n + a_k s c)) 32 := p_zn (by omega) (by decide)
  have hx' : z_in (nI (8 * n + a_k s d)) 32 := p_zn (by omega) (by decide)
  have h5 : z_in (nI (5 * n)) 20 := p_zn (by omega) (by decide)
  have e8 : (8 : Int32) * nI n + nI (a_k s c) = nI (8 * n + a_k s c) := p_ix 8 n _
  have e8' : (8 : Int32) * nI n + nI (a_k s d) = nI (8 * n + a_k s d) := p_ix 8 n _
  have e5 : (5 : Int32) * nI n = nI (5 * n) := nI_mul 5 n
  have ev : (a_vof s c - a_vof s d).toInt = (a_vof s c).toInt - (a_vof s d).toInt := p_subI (by omega) (by omega)
  unfold f_X5_order2 g_X5_order2_87
  simp only [if_pos hz, if_pos hz', nI_clamp (show c < 2 ^ 31 by omega), nI_clamp (show d < 2 ^ 31 by omega), m1, m1', ek, ek', e8, e8', e5, if_pos hx, if_pos hx', if_pos h5, nI_clamp (show 8 * n + a_k s c < 2 ^ 31 by omega), nI_clamp (show 8 * n + a_k s d < 2 ^ 31 by omega), nI_clamp (show 5 * n < 2 ^ 31 by omega), l2, l2', l6, z_lt, p_vof5 hs ms hc, p_vof5 hs ms hd, z_b2_s, p_88 hs hl ms ml hn hc hd]
  have uc : a_stI l s c = ((((1 - (l 1 (a_k s c)).toInt) * 7 + (if l 6 0 = 0 then 0 else if (l 1 (a_k s c)).toInt = 0 then 5 - (a_vof s c).toInt else 0)) * 8 + (l 4 (a_k s c)).toInt) * 1000 + a_w l s c) := rfl
  have ud : a_stI l s d = ((((1 - (l 1 (a_k s d)).toInt) * 7 + (if l 6 0 = 0 then 0 else if (l 1 (a_k s d)).toInt = 0 then 5 - (a_vof s d).toInt else 0)) * 8 + (l 4 (a_k s d)).toInt) * 1000 + a_w l s d) := rfl
  rw [uc, ud]
  have tc : 0 ≤ (if l 6 0 = 0 then 0 else if (l 1 (a_k s c)).toInt = 0 then 5 - (a_vof s c).toInt else 0) ∧ (if l 6 0 = 0 then 0 else if (l 1 (a_k s c)).toInt = 0 then 5 - (a_vof s c).toInt else 0) ≤ 6 := by
    repeat' split
    all_goals omega
  have td : 0 ≤ (if l 6 0 = 0 then 0 else if (l 1 (a_k s d)).toInt = 0 then 5 - (a_vof s d).toInt else 0) ∧ (if l 6 0 = 0 then 0 else if (l 1 (a_k s d)).toInt = 0 then 5 - (a_vof s d).toInt else 0) ≤ 6 := by
    repeat' split
    all_goals omega
  by_cases c0 : l 1 (a_k s c) = l 1 (a_k s d)
  · rw [if_pos c0]
    have c0' : (l 1 (a_k s c)).toInt = (l 1 (a_k s d)).toInt := by rw [c0]
    rcases e60 with e | e
    · rw [if_neg (by rw [e]; decide), if_pos e, if_pos e, p_z0]
      congr 3
      omega
    · have e0 : ¬ l 6 0 = 0 := by rw [e]; decide
      rw [if_pos e, if_neg e0, if_neg e0]
      by_cases c1 : l 1 (a_k s c) = 0
      · rw [if_pos c1, ev]
        rw [p_eq, p_z0] at c1
        rw [if_pos c1, if_pos (by omega)]
        congr 3
        omega
      · rw [if_neg c1]
        rw [p_eq, p_z0] at c1
        rw [if_neg c1, if_neg (by omega), p_z0]
        congr 3
        omega
  · rw [if_neg c0]
    rw [p_eq] at c0
    congr 2
    by_cases g : l 1 (a_k s c) ≤ l 1 (a_k s d)
    · rw [if_pos g]
      rw [p_le] at g
      rw [a_sg_n]
      omega
    · rw [if_neg g]
      rw [p_le] at g
      rw [a_sg_p]
      omega
theorem p_cmp (x y : Int32) (μ : z_M) : f_J6_compare_7cf53 x y μ = some (a_sg (x.toInt - y.toInt), μ) := by
  unfold f_J6_compare_7cf53
  congr 2
  by_cases g : y ≤ x
  · rw [if_pos g]
    rw [p_le] at g
    by_cases g' : x = y
    · rw [if_pos g', a_sg_0]
      rw [g']
      omega
    · rw [if_neg g', a_sg_p]
      rw [p_eq] at g'
      omega
  · rw [if_neg g]
    rw [p_le] at g
    rw [a_sg_n]
    omega
theorem s_16 : zs_16 Inv0 := by
  rintro μ ⟨A, hw, hC, hM⟩ x c d
  have F4 : f_X4_ahead x c d μ = if p_in x 0 3 then (if p_in c 0 ((A.1.2.1 : Int) - 1) then (if p_in d 0 ((A.1.2.1 : Int) - 1) then (if z_in x 4 then ((μ.2.2 1 x.toNatClampNeg).bind fun r22 => (z_b2 (f_X3_standing (4) (r22) (d) μ) fun r25 μ26 => (if z_in x 4 then ((μ26.2.2 1 x.toNatClampNeg).bind fun r32 => (z_b2 (f_X3_standing (4) (r32) (c) μ26) fun r35 μ36 => (z_b2 (f_J6_compare_7cf53 (r25) (r35) μ36) fun r42 μ43 => (some (r42, μ43))))) else none))) else none) else some (-1001, μ)) else some (-1001, μ)) else some (-1001, μ) := by
    unfold f_X4_ahead
    rw [p_isLand4, z_b2_s, p_if0, p_isClaimC hw hC, z_b2_s, p_if0, p_isClaimC hw hC, z_b2_s, p_if0]
  have F5 : ∀ ν, InvM A ν → f_X5_ahead x c d ν = if p_in x 0 3 then (if p_in c 0 ((A.1.2.1 : Int) - 1) then (if p_in d 0 ((A.1.2.1 : Int) - 1) then (z_b2 (f_X5_order2 (x) (c) (d) ν) fun r22 μ23 => (some (r22, μ23))) else some (-1001, ν)) else some (-1001, ν)) else some (-1001, ν) := by
    intro ν hν
    unfold f_X5_ahead
    rw [p_isLand5, z_b2_s, p_if0, p_isClaimM hw hν, z_b2_s, p_if0, p_isClaimM hw hν, z_b2_s, p_if0]
  by_cases h1 : p_in x 0 3
  case neg => exact p_look hw hC hM (r := -1001) (by rw [F4, if_neg h1]) (fun ν hν => by rw [F5 ν hν, if_neg h1])
  by_cases h2 : p_in c 0 ((A.1.2.1 : Int) - 1)
  case neg => exact p_look hw hC hM (r := -1001) (by rw [F4, if_pos h1, if_neg h2]) (fun ν hν => by rw [F5 ν hν, if_pos h1, if_neg h2])
  by_cases h3 : p_in d 0 ((A.1.2.1 : Int) - 1)
  case neg => exact p_look hw hC hM (r := -1001) (by rw [F4, if_pos h1, if_pos h2, if_neg h3]) (fun ν hν => by rw [F5 ν hν, if_pos h1, if_pos h2, if_neg h3])
  obtain ⟨n, rfl, hn, hn'⟩ := p_nat h1
  obtain ⟨j, rfl, hj, hj'⟩ := p_nat h2
  obtain ⟨k, rfl, hk, hk'⟩ := p_nat h3
  have hn4 : n < 4 := by omega
  have hjc : j < A.1.2.1 := by omega
  have hkc : k < A.1.2.1 := by omega
  obtain ⟨o1, e1, cl⟩ := p_land hC hn4
  have wl := hw.2.2.2.2 n hn4
  refine p_look hw hC hM (r := a_sg (a_stI (A.2.2.2.2.2 n) A.1 k - a_stI (A.2.2.2.2.2 n) A.1 j)) ?_ (fun ν hν => ?_)
  · rw [F4, if_pos h1, if_pos h2, if_pos h3]
    simp only [if_pos (p_zn (n := n) (N := 4) hn4 (by decide)), nI_clamp hn', e1, Option.bind_some, p_stand4 hw.1 hC.1 cl hkc, z_b2_s, p_stand4 hw.1 hC.1 cl hjc, p_cmp, a_st_I hw.1 wl hkc, a_st_I hw.1 wl hjc]
  · rw [F5 ν hν, if_pos h1, if_pos h2, if_pos h3, p_ord5 hw.1 wl hν.1 (hν.2.2.2.2.2.2 n hn4) hn4 hjc hkc, z_b2_s]
