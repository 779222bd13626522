/-! PURE: keep, goBack -/
def q_w (μ0 : z_M) (T : Nat → Nat → Int32) (W : Nat → Nat → Prop) (μ' : z_M) : Prop := (∀ a k, W a k → μ'.1 a k = T a k) ∧ (∀ a k, ¬ W a k → μ'.1 a k = μ0.1 a k) ∧ μ'.2 = μ0.2
theorem q_w.step {μ0 μ' : z_M} {T : Nat → Nat → Int32} {W W' : Nat → Nat → Prop} {a k : Nat} {x : Int32} (h : q_w μ0 T W μ') (hx : x = T a k) (hW : ∀ b j, W' b j ↔ (W b j ∨ (b = a ∧ j = k))) : q_w μ0 T W' (z_si μ' a k x) := by
  obtain ⟨h1, h2, h3⟩ := h
  refine ⟨fun b j w => ?_, fun b j w => ?_, h3⟩
  · rw [p_si]
    by_cases e : b = a ∧ j = k
    · rw [if_pos e, hx, e.1, e.2]
    · rw [if_neg e]
      exact h1 b j (((hW b j).mp w).resolve_right e)
  · rw [p_si, if_neg (fun e => w ((hW b j).mpr (Or.inr e)))]
    exact h2 b j (fun q => w ((hW b j).mpr (Or.inl q)))
theorem q_w.refl (μ : z_M) (T : Nat → Nat → Int32) : q_w μ T (fun _ _ => False) μ := ⟨fun _ _ h => h.elim, fun _ _ _ => rfl, rfl⟩
theorem q_w.mono {μ0 μ' : z_M} {T : Nat → Nat → Int32} {W W' : Nat → Nat → Prop} (h : q_w μ0 T W μ') (hW : ∀ b j, W' b j ↔ W b j) : q_w μ0 T W' μ' := ⟨fun b j w => h.1 b j ((hW b j).mp w), fun b j w => h.2.1 b j (fun q => w ((hW b j).mpr q)), h.2.2⟩
/-- the class's copy of a row -/
theorem p_sw_at (μ : z_M) (i : Nat) (f : Nat → Int32) : (z_sw μ i f).1 i = f := if_pos rfl
theorem p_sw_ne {μ : z_M} {i a : Nat} {f : Nat → Int32} (h : a ≠ i) : (z_sw μ i f).1 a = μ.1 a := if_neg h
theorem p_copy (a0 a1 n : Nat) (hn : n < 2 ^ 31) (μ : z_M) : f_X4_copyRow a0 n a1 n μ = some (z_sw μ a1 (fun k => if k < n then μ.1 a0 k else μ.1 a1 k)) := by
  unfold f_X4_copyRow
  have e1 : (if Int32.ofNat n < Int32.ofNat n then Int32.ofNat n else Int32.ofNat n) = nI n := by
    split <;> rfl
  have e0 : (0 : Int32).toNatClampNeg = 0 := rfl
  rw [e1, e0, nI_clamp hn, if_pos ⟨by decide, by decide, nI_pos hn, by omega, by omega⟩]
  show some (z_sw μ a1 (va_cpy (μ.1 a0) (μ.1 a1) 0 0 n)) = _
  congr 2
  funext k
  unfold va_cpy
  by_cases h : k < n
  · rw [if_pos ⟨by omega, by omega⟩, if_pos h, Nat.zero_add, Nat.sub_zero]
  · rw [if_neg (fun c => h (by omega)), if_neg h]
def q_len (i : Nat) : Nat := if i < 3 then 6 else if i < 9 then 14 else if i = 9 then 5 else 3
def q_bec (μ : z_M) (o o1 j : Nat) (μ' : z_M) : Prop := (∀ k, k < 3 → μ'.1 o k = μ.1 o1 k) ∧ (∀ i, 1 ≤ i → i ≤ j → ∀ k, k < q_len i → μ'.1 (o + i) k = μ.1 (o1 + i) k) ∧ (∀ a, (a < o ∨ o + 10 < a) → μ'.1 a = μ.1 a) ∧ μ'.2 = μ.2
theorem q_bec.step {μ μ' : z_M} {o o1 j n : Nat} (h : q_bec μ o o1 j μ') (hj : j < 10) (hd : o + 10 < o1 ∨ o1 + 10 < o) (hn : q_len (j + 1) = n) : ∃ μ'', f_X4_copyRow (o1 + (j + 1)) n (o + (j + 1)) n μ' = some μ'' ∧ q_bec μ o o1 (j + 1) μ'' := by
  have hn' : n < 2 ^ 31 := by
    rw [← hn]
    unfold q_len
    repeat' split
    all_goals omega
  refine ⟨_, p_copy _ _ n hn' μ', ?_⟩
  obtain ⟨h1, h2, h3, h4⟩ := h
  refine ⟨fun k hk => ?_, fun i h0 hi k hk => ?_, fun a ha => ?_, h4⟩
  · rw [p_sw_ne (by omega)]
    exact h1 k hk
  · by_cases e : i = j + 1
    · subst e
      rw [p_sw_at]
      show (if k < n then _ else _) = _
      rw [if_pos (by omega), h3 _ (by omega)]
    · rw [p_sw_ne (by omega)]
      exact h2 i h0 (by omega) k hk
  · rw [p_sw_ne (by omega)]
    exact h3 a ha
theorem p_become {μ : z_M} {o o1 : Nat} (hd : o + 10 < o1 ∨ o1 + 10 < o) : ∃ μ', f_X3_become o o1 μ = some μ' ∧ q_bec μ o o1 10 μ' := by
  have b0 : q_bec μ o o1 0 (z_si (z_si (z_si μ o 0 (μ.1 o1 0)) o 1 (μ.1 o1 1)) o 2 (μ.1 o1 2)) := by
    refine ⟨fun k hk => ?_, fun i h0 hi => by omega, fun a ha => ?_, rfl⟩
    · have : k = 0 ∨ k = 1 ∨ k = 2 := by omega
      rcases this with rfl | rfl | rfl <;> simp [p_si]
    · rw [p_si_ne (by omega), p_si_ne (by omega), p_si_ne (by omega)]
  obtain ⟨μ1, e1, b1⟩ := b0.step (n := 6) (by omega) hd rfl
  obtain ⟨μ2, e2, b2⟩ := b1.step (n := 6) (by omega) hd rfl
  obtain ⟨μ3, e3, b3⟩ := b2.step (n := 14) (by omega) hd rfl
  obtain ⟨μ4, e4, b4⟩ := b3.step (n := 14) (by omega) hd rfl
  obtain ⟨μ5, e5, b5⟩ := b4.step (n := 14) (by omega) hd rfl
  obtain ⟨μ6, e6, b6⟩ := b5.step (n := 14) (by omega) hd rfl
  obtain ⟨μ7, e7, b7⟩ := b6.step (n := 14) (by omega) hd rfl
  obtain ⟨μ8, e8, b8⟩ := b7.step (n := 14) (by omega) hd rfl
  obtain ⟨μ9, e9, b9⟩ := b8.step (n := 5) (by omega) hd rfl
  obtain ⟨μ10, e10, b10⟩ := b9.step (n := 3) (by omega) hd rfl
  refine ⟨μ10, ?_, b10⟩
  unfold f_X3_become
  rw [p_wr1, p_wr1, p_wr1]
  rw [p_si_ne (by omega), p_si_ne (by omega), p_si_ne (by omega)]
  rw [e1, z_b1_s, e2, z_b1_s, e3, z_b1_s, e4, z_b1_s, e5, z_b1_s, e6, z_b1_s, e7, z_b1_s, e8, z_b1_s, e9, z_b1_s, e10, z_b1_s]
theorem q_bec.ship {μ μ' : z_M} {o o1 : Nat} {s : a_S} (h : q_bec μ o o1 10 μ') (hs : w_ship s) (c : c_ship μ o1 s) : c_ship μ' o s := by
  have h14 : s.2.1 ≤ 14 := hs.2.1
  have h6 : s.1 ≤ 6 := hs.1
  obtain ⟨h1, h2, h3, h4⟩ := h
  obtain ⟨c1, c2, c3, c4, c5, c6⟩ := c
  have r6 : ∀ i, 1 ≤ i → i < 3 → ∀ k, k < 6 → μ'.1 (o + i) k = μ.1 (o1 + i) k := fun i a b k hk => h2 i a (by omega) k (by unfold q_len; rw [if_pos b]; exact hk)
  have r14 : ∀ i, 3 ≤ i → i < 9 → ∀ k, k < 14 → μ'.1 (o + i) k = μ.1 (o1 + i) k := fun i a b k hk => h2 i (by omega) (by omega) k (by unfold q_len; rw [if_neg (by omega), if_pos b]; exact hk)
  refine ⟨(h1 0 (by decide)).trans c1, (h1 1 (by decide)).trans c2, fun k hk => ?_, fun k hk => ?_, fun k hk => (h2 9 (by decide) (by decide) k hk).trans (c5 k hk), fun k hk => (h2 10 (by decide) (by decide) k hk).trans (c6 k hk)⟩
  · rw [r6 1 (by decide) (by decide) k (by omega), r6 2 (by decide) (by decide) k (by omega)]
    exact c3 k hk
  · rw [r14 3 (by decide) (by decide) k (by omega), r14 4 (by decide) (by decide) k (by omega), r14 5 (by decide) (by decide) k (by omega), r14 6 (by decide) (by decide) k (by omega), r14 7 (by decide) (by decide) k (by omega), r14 8 (by decide) (by decide) k (by omega), h1 2 (by decide)]
    exact c4 k hk
/-- what an image holds -/
def q_lay (μ : z_M) (b : Nat) (_ k : Nat) : Int32 :=
  if k < b + 1 then μ.1 98 24 else if k < b + 2 then μ.1 98 27 else if k < b + 8 then μ.1 114 (k - (b + 2)) else if k < b + 14 then μ.1 115 (k - (b + 8)) else if k < b + 28 then μ.1 116 (k - (b + 14)) else if k < b + 42 then μ.1 117 (k - (b + 28)) else if k < b + 56 then μ.1 118 (k - (b + 42)) else if k < b + 70 then μ.1 119 (k - (b + 56)) else if k < b + 84 then (if μ.1 120 (k - (b + 70)) = 0 then 0 else 1) else if k < b + 98 then μ.1 121 (k - (b + 84)) else if k < b + 112 then μ.1 122 (k - (b + 98)) else if k < b + 117 then μ.1 124 (k - (b + 112)) else μ.1 125 (k - (b + 117))
theorem q_lay_2 (μ : z_M) (b a i : Nat) (h : i < 6) : q_lay μ b a (b + 2 + i) = μ.1 114 i := by
  unfold q_lay
  rw [if_neg (by omega), if_neg (by omega), if_pos (by omega), show b + 2 + i - (b + 2) = i by omega]
theorem q_lay_8 (μ : z_M) (b a i : Nat) (h : i < 6) : q_lay μ b a (b + 8 + i) = μ.1 115 i := by
  unfold q_lay
  rw [if_neg (by omega), if_neg (by omega), if_neg (by omega), if_pos (by omega), show b + 8 + i - (b + 8) = i by omega]
theorem q_lay_14 (μ : z_M) (b a i : Nat) (h : i < 14) : q_lay μ b a (b + 14 + i) = μ.1 116 i := by
  unfold q_lay
  rw [if_neg (by omega), if_neg (by omega), if_neg (by omega), if_neg (by omega), if_pos (by omega), show b + 14 + i - (b + 14) = i by omega]
theorem q_lay_28 (μ : z_M) (b a i : Nat) (h : i < 14) : q_lay μ b a (b + 28 + i) = μ.1 117 i := by
  unfold q_lay
  rw [if_neg (by omega), if_neg (by omega), if_neg (by omega), if_neg (by omega), if_neg (by omega), if_pos (by omega), show b + 28 + i - (b + 28) = i by omega]
theorem q_lay_42 (μ : z_M) (b a i : Nat) (h : i < 14) : q_lay μ b a (b + 42 + i) = μ.1 118 i := by
  unfold q_lay
  rw [if_neg (by omega), if_neg (by omega), if_neg (by omega), if_neg (by omega), if_neg (by omega), if_neg (by omega), if_pos (by omega), show b + 42 + i - (b + 42) = i by omega]
theorem q_lay_56 (μ : z_M) (b a i : Nat) (h : i < 14) : q_lay μ b a (b + 56 + i) = μ.1 119 i := by
  unfold q_lay
  rw [if_neg (by omega), if_neg (by omega), if_neg (by omega), if_neg (by omega), if_neg (by omega), if_neg (by omega), if_neg (by omega), if_pos (by omega), show b + 56 + i - (b + 56) = i by omega]
theorem q_lay_70 (μ : z_M) (b a i : Nat) (h : i < 14) : q_lay μ b a (b + 70 + i) = (if μ.1 120 i = 0 then 0 else 1) := by
  unfold q_lay
  rw [if_neg (by omega), if_neg (by omega), if_neg (by omega), if_neg (by omega), if_neg (by omega), if_neg (by omega), if_neg (by omega), if_neg (by omega), if_pos (by omega), show b + 70 + i - (b + 70) = i by omega]
theorem q_lay_84 (μ : z_M) (b a i : Nat) (h : i < 14) : q_lay μ b a (b + 84 + i) = μ.1 121 i := by
  unfold q_lay
  rw [if_neg (by omega), if_neg (by omega), if_neg (by omega), if_neg (by omega), if_neg (by omega), if_neg (by omega), if_neg (by omega), if_neg (by omega), if_neg (by omega), if_pos (by omega), show b + 84 + i - (b + 84) = i by omega]
theorem q_lay_98 (μ : z_M) (b a i : Nat) (h : i < 14) : q_lay μ b a (b + 98 + i) = μ.1 122 i := by
  unfold q_lay
  rw [if_neg (by omega), if_neg (by omega), if_neg (by omega), if_neg (by omega), if_neg (by omega), if_neg (by omega), if_neg (by omega), if_neg (by omega), if_neg (by omega), if_neg (by omega), if_pos (by omega), show b + 98 + i - (b + 98) = i by omega]
theorem q_lay_112 (μ : z_M) (b a i : Nat) (h : i < 5) : q_lay μ b a (b + 112 + i) = μ.1 124 i := by
  unfold q_lay
  rw [if_neg (by omega), if_neg (by omega), if_neg (by omega), if_neg (by omega), if_neg (by omega), if_neg (by omega), if_neg (by omega), if_neg (by omega), if_neg (by omega), if_neg (by omega), if_neg (by omega), if_pos (by omega), show b + 112 + i - (b + 112) = i by omega]
theorem q_lay_117 (μ : z_M) (b a i : Nat) (h : i < 3) : q_lay μ b a (b + 117 + i) = μ.1 125 i := by
  unfold q_lay
  rw [if_neg (by omega), if_neg (by omega), if_neg (by omega), if_neg (by omega), if_neg (by omega), if_neg (by omega), if_neg (by omega), if_neg (by omega), if_neg (by omega), if_neg (by omega), if_neg (by omega), if_neg (by omega), show b + 117 + i - (b + 117) = i by omega]
theorem p_wrk {α : Type} {μ : z_M} {N c n : Nat} {x y : Int32} {f : z_M → Option α} (e : x = nI n) (h : n < N) (hN : N < 2 ^ 31) : (if z_in x N then z_st (z_si μ c x.toNatClampNeg y) f else none) = f (z_si μ c n y) := by
  rw [e, if_pos (p_zn h hN), nI_clamp (by omega)]
  rfl
theorem p_off (b i : Nat) (c : Int32) (d : Nat) (h : c = nI d) : nI b + c + nI i = nI (b + d + i) := by rw [h, nI_add, nI_add]
theorem q_w.st {μ0 μ' : z_M} {T : Nat → Nat → Int32} {W : Nat → Nat → Prop} (h : q_w μ0 T W μ') (a k : Nat) {x : Int32} (hx : x = T a k) : q_w μ0 T (fun b j => W b j ∨ (b = a ∧ j = k)) (z_si μ' a k x) := h.step hx (fun _ _ => Iff.rfl)
theorem q_w.ne {μ0 μ' : z_M} {T : Nat → Nat → Int32} {W : Nat → Nat → Prop} (h : q_w μ0 T W μ') {a : Nat} (hW : ∀ k, ¬ W a k) : μ'.1 a = μ0.1 a := funext (fun k => h.2.1 a k (hW k))
def q_W1 (b i : Nat) : Nat → Nat → Prop := fun a k => a = 134 ∧ (b ≤ k ∧ k < b + 2 + i ∨ b + 8 ≤ k ∧ k < b + 8 + i)
def q_W2 (b i : Nat) : Nat → Nat → Prop := fun a k => a = 134 ∧ (b ≤ k ∧ k < b + 14 + i ∨ b + 28 ≤ k ∧ k < b + 28 + i ∨ b + 42 ≤ k ∧ k < b + 42 + i ∨ b + 56 ≤ k ∧ k < b + 56 + i ∨ b + 70 ≤ k ∧ k < b + 70 + i ∨ b + 84 ≤ k ∧ k < b + 84 + i ∨ b + 98 ≤ k ∧ k < b + 98 + i)
def q_W3 (b n : Nat) : Nat → Nat → Prop := fun a k => a = 134 ∧ b ≤ k ∧ k < b + n
theorem p_keep259 {μ : z_M} {b j : Nat} (hb : b ≤ 150) (hj : j < 2) : ∀ m i n μ', i + m = 3 → m < n → q_w μ (q_lay μ b) (q_W3 b (117 + i)) μ' → ∃ μ'', q_w μ (q_lay μ b) (q_W3 b 120) μ'' ∧ g_X5_keep_259 n (nI j) (nI b) (nI i) μ' = some (1, z_si μ'' 135 j 1) := by
  intro m
  induction m with
  | zero =>
    intro i n μ' hi hm h
    obtain ⟨n, rfl⟩ : ∃ q, n = q + 1 := ⟨n - 1, by omega⟩
    have ei : i = 3 := by omega
    subst ei
    refine ⟨μ', h, ?_⟩
    unfold g_X5_keep_259
    rw [if_pos (by decide), p_wrk (n := j) rfl hj (by decide)]
    rfl
  | succ m ih =>
    intro i n μ' hi hm h
    obtain ⟨n, rfl⟩ : ∃ q, n = q + 1 := ⟨n - 1, by omega⟩
    have r : ∀ a, a ≠ 134 → μ'.1 a = μ.1 a := fun a ha => h.ne (fun k w => ha w.1)
    have q := (h.st 134 (b + 117 + i) (q_lay_117 μ b 134 i (by omega)).symm).mono (W' := q_W3 b (117 + (i + 1))) (fun a k => by unfold q_W3; omega)
    obtain ⟨μ'', h1, h2⟩ := ih (i + 1) n _ (by omega) (by omega) q
    refine ⟨μ'', h1, ?_⟩
    unfold g_X5_keep_259
    rw [if_neg (show ¬ (3 : Int32) ≤ nI i from p_nle (a := 3) (by omega) (by decide))]
    simp only [if_pos (p_zn (n := i) (N := 3) (by omega) (by decide)), nI_clamp (show i < 2 ^ 31 by omega), p_off b i 117 117 rfl, if_pos (p_zn (n := b + 117 + i) (N := 300) (by omega) (by decide)), nI_clamp (show b + 117 + i < 2 ^ 31 by omega), z_st, r 125 (by decide), nI_1]
    exact h2
theorem p_keep229 {μ : z_M} {b j : Nat} (hb : b ≤ 150) (hj : j < 2) : ∀ m i n μ', i + m = 5 → m < n → q_w μ (q_lay μ b) (q_W3 b (112 + i)) μ' → ∃ μ'', q_w μ (q_lay μ b) (q_W3 b 120) μ'' ∧ g_X5_keep_229 n (nI j) (nI b) (nI i) μ' = some (1, z_si μ'' 135 j 1) := by
  intro m
  induction m with
  | zero =>
    intro i n μ' hi hm h
    obtain ⟨n, rfl⟩ : ∃ q, n = q + 1 := ⟨n - 1, by omega⟩
    have ei : i = 5 := by omega
    subst ei
    obtain ⟨μ'', h1, h2⟩ := p_keep259 hb hj 3 0 z_N μ' (by omega) (by decide) h
    refine ⟨μ'', h1, ?_⟩
    unfold g_X5_keep_229
    rw [if_pos (by decide)]
    exact h2
  | succ m ih =>
    intro i n μ' hi hm h
    obtain ⟨n, rfl⟩ : ∃ q, n = q + 1 := ⟨n - 1, by omega⟩
    have r : ∀ a, a ≠ 134 → μ'.1 a = μ.1 a := fun a ha => h.ne (fun k w => ha w.1)
    have q := (h.st 134 (b + 112 + i) (q_lay_112 μ b 134 i (by omega)).symm).mono (W' := q_W3 b (112 + (i + 1))) (fun a k => by unfold q_W3; omega)
    obtain ⟨μ'', h1, h2⟩ := ih (i + 1) n _ (by omega) (by omega) q
    refine ⟨μ'', h1, ?_⟩
    unfold g_X5_keep_229
    rw [if_neg (show ¬ (5 : Int32) ≤ nI i from p_nle (a := 5) (by omega) (by decide))]
    simp only [if_pos (p_zn (n := i) (N := 5) (by omega) (by decide)), nI_clamp (show i < 2 ^ 31 by omega), p_off b i 112 112 rfl, if_pos (p_zn (n := b + 112 + i) (N := 300) (by omega) (by decide)), nI_clamp (show b + 112 + i < 2 ^ 31 by omega), z_st, r 124 (by decide), nI_1]
    exact h2
theorem p_keep88 {μ : z_M} {b j : Nat} (hb : b ≤ 150) (hj : j < 2) : ∀ m i n μ', i + m = 14 → m < n → q_w μ (q_lay μ b) (q_W2 b i) μ' → ∃ μ'', q_w μ (q_lay μ b) (q_W3 b 120) μ'' ∧ g_X5_keep_88 n (nI j) (nI b) (nI i) μ' = some (1, z_si μ'' 135 j 1) := by
  intro m
  induction m with
  | zero =>
    intro i n μ' hi hm h
    obtain ⟨n, rfl⟩ : ∃ q, n = q + 1 := ⟨n - 1, by omega⟩
    have ei : i = 14 := by omega
    subst ei
    obtain ⟨μ'', h1, h2⟩ := p_keep229 hb hj 5 0 z_N μ' (by omega) (by decide) (h.mono (fun a k => by unfold q_W3 q_W2; omega))
    refine ⟨μ'', h1, ?_⟩
    unfold g_X5_keep_88
    rw [if_pos (by decide)]
    exact h2
  | succ m ih =>
    intro i n μ' hi hm h
    obtain ⟨n, rfl⟩ : ∃ q, n = q + 1 := ⟨n - 1, by omega⟩
    have r : ∀ a, a ≠ 134 → μ'.1 a = μ.1 a := fun a ha => h.ne (fun k w => ha w.1)
    have q := (((((((h.st 134 (b + 14 + i) (q_lay_14 μ b 134 i (by omega)).symm).st 134 (b + 28 + i) (q_lay_28 μ b 134 i (by omega)).symm).st 134 (b + 42 + i) (q_lay_42 μ b 134 i (by omega)).symm).st 134 (b + 56 + i) (q_lay_56 μ b 134 i (by omega)).symm).st 134 (b + 70 + i) (q_lay_70 μ b 134 i (by omega)).symm).st 134 (b + 84 + i) (q_lay_84 μ b 134 i (by omega)).symm).st 134 (b + 98 + i) (q_lay_98 μ b 134 i (by omega)).symm).mono (W' := q_W2 b (i + 1)) (fun a k => by unfold q_W2; omega)
    obtain ⟨μ'', h1, h2⟩ := ih (i + 1) n _ (by omega) (by omega) q
    refine ⟨μ'', h1, ?_⟩
    unfold g_X5_keep_88
    rw [if_neg (show ¬ (14 : Int32) ≤ nI i from p_nle (a := 14) (by omega) (by decide))]
    simp only [if_pos (p_zn (n := i) (N := 15) (by omega) (by decide)), nI_clamp (show i < 2 ^ 31 by omega), p_off b i 14 14 rfl, if_pos (p_zn (n := b + 14 + i) (N := 300) (by omega) (by decide)), nI_clamp (show b + 14 + i < 2 ^ 31 by omega), p_off b i 28 28 rfl, if_pos (p_zn (n := b + 28 + i) (N := 300) (by omega) (by decide)), nI_clamp (show b + 28 + i < 2 ^ 31 by omega), p_off b i 42 42 rfl, if_pos (p_zn (n := b + 42 + i) (N := 300) (by omega) (by decide)), nI_clamp (show b + 42 + i < 2 ^ 31 by omega), p_off b i 56 56 rfl, if_pos (p_zn (n := b + 56 + i) (N := 300) (by omega) (by decide)), nI_clamp (show b + 56 + i < 2 ^ 31 by omega), p_off b i 70 70 rfl, if_pos (p_zn (n := b + 70 + i) (N := 300) (by omega) (by decide)), nI_clamp (show b + 70 + i < 2 ^ 31 by omega), p_off b i 84 84 rfl, if_pos (p_zn (n := b + 84 + i) (N := 300) (by omega) (by decide)), nI_clamp (show b + 84 + i < 2 ^ 31 by omega), p_off b i 98 98 rfl, if_pos (p_zn (n := b + 98 + i) (N := 300) (by omega) (by decide)), nI_clamp (show b + 98 + i < 2 ^ 31 by omega), z_st, p_si_ne (show (117 : Nat) ≠ 134 by decide), p_si_ne (show (118 : Nat) ≠ 134 by decide), p_si_ne (show (119 : Nat) ≠ 134 by decide), p_si_ne (show (120 : Nat) ≠ 134 by decide), p_si_ne (show (121 : Nat) ≠ 134 by decide), p_si_ne (show (122 : Nat) ≠ 134 by decide), r 116 (by decide), r 117 (by decide), r 118 (by decide), r 119 (by decide), r 120 (by decide), r 121 (by decide), r 122 (by decide), nI_1]
    exact h2
theorem p_keep41 {μ : z_M} {b j : Nat} (hb : b ≤ 150) (hj : j < 2) : ∀ m i n μ', i + m = 6 → m < n → q_w μ (q_lay μ b) (q_W1 b i) μ' → ∃ μ'', q_w μ (q_lay μ b) (q_W3 b 120) μ'' ∧ g_X5_keep_41 n (nI j) (nI b) (nI i) μ' = some (1, z_si μ'' 135 j 1) := by
  intro m
  induction m with
  | zero =>
    intro i n μ' hi hm h
    obtain ⟨n, rfl⟩ : ∃ q, n = q + 1 := ⟨n - 1, by omega⟩
    have ei : i = 6 := by omega
    subst ei
    obtain ⟨μ'', h1, h2⟩ := p_keep88 hb hj 14 0 z_N μ' (by omega) (by decide) (h.mono (fun a k => by unfold q_W2 q_W1; omega))
    refine ⟨μ'', h1, ?_⟩
    unfold g_X5_keep_41
    rw [if_pos (by decide)]
    exact h2
  | succ m ih =>
    intro i n μ' hi hm h
    obtain ⟨n, rfl⟩ : ∃ q, n = q + 1 := ⟨n - 1, by omega⟩
    have r : ∀ a, a ≠ 134 → μ'.1 a = μ.1 a := fun a ha => h.ne (fun k w => ha w.1)
    have q := ((h.st 134 (b + 2 + i) (q_lay_2 μ b 134 i (by omega)).symm).st 134 (b + 8 + i) (q_lay_8 μ b 134 i (by omega)).symm).mono (W' := q_W1 b (i + 1)) (fun a k => by unfold q_W1; omega)
    obtain ⟨μ'', h1, h2⟩ := ih (i + 1) n _ (by omega) (by omega) q
    refine ⟨μ'', h1, ?_⟩
    unfold g_X5_keep_41
    rw [if_neg (show ¬ (6 : Int32) ≤ nI i from p_nle (a := 6) (by omega) (by decide))]
    simp only [if_pos (p_zn (n := i) (N := 7) (by omega) (by decide)), nI_clamp (show i < 2 ^ 31 by omega), p_off b i 2 2 rfl, if_pos (p_zn (n := b + 2 + i) (N := 300) (by omega) (by decide)), nI_clamp (show b + 2 + i < 2 ^ 31 by omega), p_off b i 8 8 rfl, if_pos (p_zn (n := b + 8 + i) (N := 300) (by omega) (by decide)), nI_clamp (show b + 8 + i < 2 ^ 31 by omega), z_st, p_si_ne (show (115 : Nat) ≠ 134 by decide), r 114 (by decide), r 115 (by decide), nI_1]
    exact h2
def a_keep (A : a_A) (j : Nat) (s : a_S) : a_A := (A.1, fun i => if i = j then 1 else A.2.1 i, fun i => if i = j then s else A.2.2.1 i, A.2.2.2)
theorem w_keep {A : a_A} (hw : w_A A) {s : a_S} (hs : w_ship s) (j : Nat) : w_A (a_keep A j s) := by
  obtain ⟨w1, w2, w3⟩ := hw
  refine ⟨w1, fun i hi => ?_, w3⟩
  by_cases e : i = j
  · show ((if i = j then (1 : Int32) else A.2.1 i) = 0 ∨ (if i = j then (1 : Int32) else A.2.1 i) = 1) ∧ w_ship (if i = j then s else A.2.2.1 i)
    rw [if_pos e, if_pos e]
    exact ⟨Or.inr rfl, hs⟩
  · show ((if i = j then (1 : Int32) else A.2.1 i) = 0 ∨ (if i = j then (1 : Int32) else A.2.1 i) = 1) ∧ w_ship (if i = j then s else A.2.2.1 i)
    rw [if_neg e, if_neg e]
    exact w2 i hi
theorem InvM.img {A : a_A} {μ μ' : z_M} {s : a_S} {j : Nat} (h : InvM A μ) (hw : w_A A) (hj : j < 2) (hi : m_img μ' (150 * j) s) (hk : μ'.1 135 j = 1) (ho : ∀ a, a ≠ 134 → a ≠ 135 → μ'.1 a = μ.1 a) (h134 : ∀ k, (k < 150 * j ∨ 150 * j + 120 ≤ k) → μ'.1 134 k = μ.1 134 k) (h135 : ∀ k, k ≠ j → μ'.1 135 k = μ.1 135 k) : InvM (a_keep A j s) μ' := by
  obtain ⟨g1, g2, g3, g4, g5, g6, g7⟩ := h
  refine ⟨?_, by rw [ho 123 (by decide) (by decide)]; exact g2, fun i hi2 => ?_, by rw [ho 98 (by decide) (by decide)]; exact g4, by rw [ho 111 (by decide) (by decide)]; exact g5, by rw [ho 98 (by decide) (by decide)]; exact g6, ?_⟩
  · unfold m_ship at g1 ⊢
    simp only [ho 98 (by decide) (by decide), ho 114 (by decide) (by decide), ho 115 (by decide) (by decide), ho 116 (by decide) (by decide), ho 117 (by decide) (by decide), ho 118 (by decide) (by decide), ho 119 (by decide) (by decide), ho 120 (by decide) (by decide), ho 121 (by decide) (by decide), ho 122 (by decide) (by decide), ho 124 (by decide) (by decide), ho 125 (by decide) (by decide)]
    exact g1
  · show μ'.1 135 i = (if i = j then (1 : Int32) else A.2.1 i) ∧ ((if i = j then (1 : Int32) else A.2.1 i) = 1 → m_img μ' (150 * i) (if i = j then s else A.2.2.1 i))
    by_cases e : i = j
    · rw [if_pos e, if_pos e, e]
      exact ⟨hk, fun _ => hi⟩
    · rw [if_neg e, if_neg e, h135 i e]
      refine ⟨(g3 i hi2).1, fun q => ?_⟩
      obtain ⟨f1, f2, f3, f4, f5, f6⟩ := (g3 i hi2).2 q
      have ws := (hw.2.1 i hi2).2
      have w6 := ws.1
      have w14 := ws.2.1
      refine ⟨by rw [h134 _ (by omega)]; exact f1, by rw [h134 _ (by omega)]; exact f2, fun k hk => ?_, fun k hk => ?_, fun k hk => ?_, fun k hk => ?_⟩
      · rw [h134 _ (by omega), h134 _ (by omega)]
        exact f3 k hk
      · rw [h134 _ (by omega), h134 _ (by omega), h134 _ (by omega), h134 _ (by omega), h134 _ (by omega), h134 _ (by omega), h134 _ (by omega)]
        exact f4 k hk
      · rw [h134 _ (by omega)]
        exact f5 k hk
      · rw [h134 _ (by omega)]
        exact f6 k hk
  · unfold m_law at g7 ⊢
    simp only [ho 99 (by decide) (by decide), ho 100 (by decide) (by decide), ho 101 (by decide) (by decide), ho 102 (by decide) (by decide), ho 103 (by decide) (by decide), ho 104 (by decide) (by decide), ho 113 (by decide) (by decide)]
    exact g7
theorem InvC.img {A : a_A} {μ μ' : z_M} {s : a_S} {j : Nat} (h : InvC A μ) (hj : j < 2) (hi : c_ship μ' (76 + 11 * j) s) (hk : μ'.1 27 j = 1) (ho : ∀ a, a < 76 + 11 * j ∨ 76 + 11 * j + 10 < a → a ≠ 27 → μ'.1 a = μ.1 a) (h27 : ∀ k, k ≠ j → μ'.1 27 k = μ.1 27 k) (h2 : μ'.2.2 = μ.2.2) : InvC (a_keep A j s) μ' := by
  obtain ⟨g1, g2, g3, g4, g5, ⟨lp, l1, l2, l3, l4⟩, ⟨r1, r2, r3, r4, r5⟩⟩ := h
  have hL : ∀ o ∈ z_LAWS, 28 ≤ o ∧ o + 4 < 76 := by decide
  refine ⟨?_, fun i hi2 => ?_, by rw [ho 2 (by omega) (by decide)]; exact g3, by rw [ho 3 (by omega) (by decide)]; exact g4, by rw [ho 2 (by omega) (by decide)]; exact g5, ⟨lp, l1, l2, fun n hn => ⟨by rw [h2]; exact (l3 n hn).1, ?_⟩, by rw [h2]; exact l4⟩, by rw [h2]; exact r1, by rw [h2]; exact r2, by rw [h2]; exact r3, by rw [ho 40 (by omega) (by decide)]; exact r4, by rw [ho 46 (by omega) (by decide)]; exact r5⟩
  · have g1 : c_ship μ 4 A.1 := g1
    show c_ship μ' 4 A.1
    unfold c_ship at g1 ⊢
    simp only [ho 4 (by omega) (by omega), ho (4 + 1) (by omega) (by omega), ho (4 + 2) (by omega) (by omega), ho (4 + 3) (by omega) (by omega), ho (4 + 4) (by omega) (by omega), ho (4 + 5) (by omega) (by omega), ho (4 + 6) (by omega) (by omega), ho (4 + 7) (by omega) (by omega), ho (4 + 8) (by omega) (by omega), ho (4 + 9) (by omega) (by omega), ho (4 + 10) (by omega) (by omega)]
    exact g1
  · show μ'.1 27 i = (if i = j then (1 : Int32) else A.2.1 i) ∧ ((if i = j then (1 : Int32) else A.2.1 i) = 1 → c_ship μ' (76 + 11 * i) (if i = j then s else A.2.2.1 i))
    by_cases e : i = j
    · rw [if_pos e, if_pos e, e]
      exact ⟨hk, fun _ => hi⟩
    · rw [if_neg e, if_neg e, h27 i e]
      refine ⟨(g2 i hi2).1, fun q => ?_⟩
      have q2 := (g2 i hi2).2 q
      unfold c_ship at q2 ⊢
      simp only [ho (76 + 11 * i) (by omega) (by omega), ho (76 + 11 * i + 1) (by omega) (by omega), ho (76 + 11 * i + 2) (by omega) (by omega), ho (76 + 11 * i + 3) (by omega) (by omega), ho (76 + 11 * i + 4) (by omega) (by omega), ho (76 + 11 * i + 5) (by omega) (by omega), ho (76 + 11 * i + 6) (by omega) (by omega), ho (76 + 11 * i + 7) (by omega) (by omega), ho (76 + 11 * i + 8) (by omega) (by omega), ho (76 + 11 * i + 9) (by omega) (by omega), ho (76 + 11 * i + 10) (by omega) (by omega)]
      exact q2
  · have q2 := (l3 n hn).2
    have q3 := hL _ (l1 n (by omega))
    unfold c_law at q2 ⊢
    simp only [ho (lp n) (by omega) (by omega), ho (lp n + 1) (by omega) (by omega), ho (lp n + 2) (by omega) (by omega), ho (lp n + 3) (by omega) (by omega), ho (lp n + 4) (by omega) (by omega)]
    exact q2
theorem q_W3.img {ν μ'' : z_M} {s : a_S} {b : Nat} (hs : w_ship s) (ms : m_ship ν s) (h : q_w ν (q_lay ν b) (q_W3 b 120) μ'') : m_img μ'' b s := by
  have h14 : s.2.1 ≤ 14 := hs.2.1
  have h6 : s.1 ≤ 6 := hs.1
  obtain ⟨m1, m2, m3, m4, m5, m6⟩ := ms
  have T : ∀ k, b ≤ k → k < b + 120 → μ''.1 134 k = q_lay ν b 134 k := fun k a c => h.1 134 k ⟨rfl, a, c⟩
  refine ⟨?_, ?_, fun k hk => ?_, fun k hk => ?_, fun k hk => ?_, fun k hk => ?_⟩
  · rw [T _ (by omega) (by omega)]
    unfold q_lay
    rw [if_pos (by omega)]
    exact m1
  · rw [T _ (by omega) (by omega)]
    unfold q_lay
    rw [if_neg (by omega), if_pos (by omega)]
    exact m2
  · rw [T _ (by omega) (by omega), T _ (by omega) (by omega), q_lay_2 _ _ _ _ (by omega), q_lay_8 _ _ _ _ (by omega)]
    exact m3 k hk
  · obtain ⟨n1, n2, n3, n4, n5, n6, n7⟩ := m4 k hk
    have w7 := (hs.2.2.2.1 k hk).2.2.2.2.1
    have e7 : (if ν.1 120 k = 0 then (0 : Int32) else 1) = s.2.2 7 k := by
      rw [n5]
      rcases w7 with e | e <;> rw [e] <;> rfl
    rw [T _ (by omega) (by omega), T _ (by omega) (by omega), T _ (by omega) (by omega), T _ (by omega) (by omega), T _ (by omega) (by omega), T _ (by omega) (by omega), T _ (by omega) (by omega), q_lay_14 _ _ _ _ (by omega), q_lay_28 _ _ _ _ (by omega), q_lay_42 _ _ _ _ (by omega), q_lay_56 _ _ _ _ (by omega), q_lay_70 _ _ _ _ (by omega), q_lay_84 _ _ _ _ (by omega), q_lay_98 _ _ _ _ (by omega)]
    exact ⟨n1, n2, n3, n4, e7, n6, n7⟩
  · rw [T _ (by omega) (by omega), q_lay_112 _ _ _ _ (by omega)]
    exact m5 k hk
  · rw [T _ (by omega) (by omega), q_lay_117 _ _ _ _ (by omega)]
    exact m6 k hk
theorem s_29 : zs_29 Inv0 := by
  rintro μ ⟨A, hw, hC, hM⟩ x
  by_cases h1 : p_in x 0 1
  case neg => exact p_look hw hC hM (r := -1001) (by unfold f_X4_keep; rw [p_isImage4, z_b2_s, p_if0, if_neg h1]) (fun ν hν => by unfold f_X5_keep; rw [p_isImage5, z_b2_s, p_if0, if_neg h1])
  obtain ⟨j, rfl, hj, hj'⟩ := p_nat h1
  have hj2 : j < 2 := by omega
  obtain ⟨μ1, e1, b1⟩ := p_become (μ := μ) (o := 76 + 11 * j) (o1 := 4) (by omega)
  have hbk : ∀ a, (a < 76 + 11 * j ∨ 76 + 11 * j + 10 < a) → μ1.1 a = μ.1 a := b1.2.2.1
  refine p_step (A' := a_keep A j A.1) (r := 1) hC hM (w_keep hw hw.1 j) ⟨z_si μ1 27 j 1, ?_, hC.img hj2 ?_ (p_si_at _ _ _ _) (fun a ha ha' => ?_) (fun k hk => ?_) ?_, fun i hi => ?_⟩ (fun ν hν => ?_)
  · unfold f_X4_keep
    rw [p_isImage4, z_b2_s, p_if0, if_pos h1]
    simp only [if_pos (p_zn (n := j) (N := 2) hj2 (by decide)), nI_clamp hj', hC.2.2.2.2.2.2.2.1 j hj2, Option.bind_some, e1, z_b1_s, z_st]
    rfl
  · have q := b1.ship hw.1 hC.1
    have hn : ∀ i, i ≤ 10 → (z_si μ1 27 j 1).1 (76 + 11 * j + i) = μ1.1 (76 + 11 * j + i) := fun i hi => p_si_ne (by omega)
    have hn0 : (z_si μ1 27 j 1).1 (76 + 11 * j) = μ1.1 (76 + 11 * j) := p_si_ne (by omega)
    unfold c_ship at q ⊢
    simp only [hn0, hn 1 (by decide), hn 2 (by decide), hn 3 (by decide), hn 4 (by decide), hn 5 (by decide), hn 6 (by decide), hn 7 (by decide), hn 8 (by decide), hn 9 (by decide), hn 10 (by decide)]
    exact q
  · rw [p_si_ne ha', hbk a ha]
  · rw [p_si_nk hk, hbk 27 (by omega)]
  · show μ1.2.2 = μ.2.2
    rw [b1.2.2.2]
  · rw [p_si_ne (by omega), hbk i (by omega)]
  · have q0 := ((q_w.refl ν (q_lay ν (150 * j))).st 134 (150 * j) (x := ν.1 98 24) (by unfold q_lay; rw [if_pos (by omega)])).st 134 (150 * j + 1) (x := ν.1 98 27) (by unfold q_lay; rw [if_neg (by omega), if_pos (by omega)])
    have q1 := q0.mono (W' := q_W1 (150 * j) 0) (fun a k => by
      show q_W1 (150 * j) 0 a k ↔ ((False ∨ (a = 134 ∧ k = 150 * j)) ∨ (a = 134 ∧ k = 150 * j + 1))
      rw [false_or]
      unfold q_W1
      omega)
    obtain ⟨μ'', k1, k2⟩ := p_keep41 (b := 150 * j) (by omega) hj2 6 0 z_N _ (by omega) (by decide) q1
    have kn : ∀ a, a ≠ 134 → μ''.1 a = ν.1 a := fun a ha => k1.ne (fun k w => ha w.1)
    refine ⟨z_si μ'' 135 j 1, ?_, hν.img hw hj2 ?_ (p_si_at _ _ _ _) (fun a ha ha' => ?_) (fun k hk => ?_) (fun k hk => ?_), fun i hi => ?_, ?_⟩
    · unfold f_X5_keep
      rw [p_isImage5, z_b2_s, p_if0, if_pos h1]
      have e150 : (150 : Int32) * nI j = nI (150 * j) := nI_mul 150 j
      have e151 : nI (150 * j) + 1 = nI (150 * j + 1) := nI_1 _
      simp only [z_lt, e150, e151, if_pos (p_zn (n := 150 * j) (N := 300) (by omega) (by decide)), if_pos (p_zn (n := 150 * j + 1) (N := 300) (by omega) (by decide)), nI_clamp (show 150 * j < 2 ^ 31 by omega), nI_clamp (show 150 * j + 1 < 2 ^ 31 by omega), z_st, p_si_ne (show (98 : Nat) ≠ 134 by decide)]
      exact k2
    · have q := q_W3.img hw.1 hν.1 k1
      have hn : (z_si μ'' 135 j 1).1 134 = μ''.1 134 := p_si_ne (by decide)
      unfold m_img at q ⊢
      rw [hn]
      exact q
    · rw [p_si_ne ha', kn a ha]
    · rw [p_si_ne (by decide)]
      exact k1.2.1 134 k (fun w => by have := w.2; omega)
    · rw [p_si_nk hk, kn 135 (by decide)]
    · rw [p_si_ne (by omega), kn i (by omega)]
    · show μ''.2.2 = ν.2.2
      rw [k1.2.2]
