/-! PURE: kind, rule, goes -/
theorem p_bitE (x : Int32) (k : Nat) (μ : z_M) : f_X4_bit x (nI k) μ = some (p_bit x k, μ) := rfl
theorem p_g {α : Type} {n N : Nat} (h : n < N) (hN : N < 2 ^ 31) (a b : α) : (if z_in (nI n) N then a else b) = a := if_pos (p_zn h hN)
theorem p_ix3 (n a b : Nat) : (64 : Int32) * nI n + (8 : Int32) * nI a + nI b = nI (64 * n + (8 * a + b)) := by
  rw [show (64 : Int32) = nI 64 from rfl, show (8 : Int32) = nI 8 from rfl, nI_mul, nI_mul, nI_add, nI_add, Nat.add_assoc]
theorem p_01 {x : Int32} (h : x = 0 ∨ x = 1) : (if x = 0 then (0 : Int32) else 1) = x := by
  rcases h with e | e <;> rw [e] <;> decide
theorem s_5 : zs_5 Inv0 := by
  rintro μ ⟨A, hw, hC, hM⟩ x a b
  have F4 : f_X4_goes x a b μ = if p_in x 0 3 then (if p_in a 0 7 then (if p_in b 0 7 then (if z_in x 4 then ((μ.2.2 1 x.toNatClampNeg).bind fun r22 => (if z_in a 8 then (z_b2 (f_X4_bit ((μ.1 (r22 + 3) a.toNatClampNeg)) (b) μ) fun r25 μ26 => (some (r25, μ26))) else none)) else none) else some (-1001, μ)) else some (-1001, μ)) else some (-1001, μ) := by
    unfold f_X4_goes
    rw [p_isLand4, z_b2_s, p_if0, p_isKind4, z_b2_s, p_if0, p_isKind4, z_b2_s, p_if0]
  have F5 : ∀ ν, f_X5_goes x a b ν = if p_in x 0 3 then (if p_in a 0 7 then (if p_in b 0 7 then (if z_in ((((64 : Int32) * x) + ((8 : Int32) * a)) + b) 256 then (some ((if (ν.1 103 ((((64 : Int32) * x) + ((8 : Int32) * a)) + b).toNatClampNeg) = 0 then (0 : Int32) else (1 : Int32)), ν)) else none) else some (-1001, ν)) else some (-1001, ν)) else some (-1001, ν) := by
    intro ν
    unfold f_X5_goes
    rw [p_isLand5, z_b2_s, p_if0, p_isKind5, z_b2_s, p_if0, p_isKind5, z_b2_s, p_if0]
  by_cases h1 : p_in x 0 3
  case neg => exact p_look hw hC hM (r := -1001) (by rw [F4, if_neg h1]) (fun ν hν => by rw [F5 ν, if_neg h1])
  by_cases h2 : p_in a 0 7
  case neg => exact p_look hw hC hM (r := -1001) (by rw [F4, if_pos h1, if_neg h2]) (fun ν hν => by rw [F5 ν, if_pos h1, if_neg h2])
  by_cases h3 : p_in b 0 7
  case neg => exact p_look hw hC hM (r := -1001) (by rw [F4, if_pos h1, if_pos h2, if_neg h3]) (fun ν hν => by rw [F5 ν, if_pos h1, if_pos h2, if_neg h3])
  obtain ⟨n, rfl, hn, hn'⟩ := p_nat h1
  obtain ⟨i, rfl, hi, hi'⟩ := p_nat h2
  obtain ⟨j, rfl, hj, hj'⟩ := p_nat h3
  have hn4 : n < 4 := by omega
  obtain ⟨o1, e1, cl⟩ := p_land hC hn4
  have wl := hw.2.2.2.2 n hn4
  refine p_look hw hC hM (r := A.2.2.2.2.2 n 5 (8 * i + j)) ?_ (fun ν hν => ?_)
  · rw [F4, if_pos h1, if_pos h2, if_pos h3, p_g hn4 (by decide), nI_clamp hn', e1, Option.bind_some, p_g (show i < 8 by omega) (by decide), nI_clamp hi', p_bitE, z_b2_s, cl.2.1 i j (by omega) (by omega)]
  · rw [F5 ν, if_pos h1, if_pos h2, if_pos h3, p_ix3, p_g (show 64 * n + (8 * i + j) < 256 by omega) (by decide), nI_clamp (by omega), (hν.2.2.2.2.2.2 n hn4).2.1 (8 * i + j) (by omega), p_01 (wl.2.1 (8 * i + j) (by omega))]
/-- the ring of the reference -/
def a_ri (g : Nat → Int32) (a : Nat) (s : Int32) (m : Nat) : Int32 := (List.range m).foldl (fun s b => s ||| (if a ≠ b ∧ g (8 * a + b) = 1 ∧ g (8 * b + a) = 1 then nI (2 ^ a) else 0)) s
def a_ro (g : Nat → Int32) (m : Nat) : Int32 := (List.range m).foldl (fun s a => a_ri g a s 8) 0
theorem a_ri_s (g : Nat → Int32) (a : Nat) (s : Int32) (m : Nat) : a_ri g a s (m + 1) = a_ri g a s m ||| (if a ≠ m ∧ g (8 * a + m) = 1 ∧ g (8 * m + a) = 1 then nI (2 ^ a) else 0) := by
  unfold a_ri
  rw [List.range_succ, List.foldl_append]
  rfl
theorem a_ro_s (g : Nat → Int32) (m : Nat) : a_ro g (m + 1) = a_ri g m (a_ro g m) 8 := by
  unfold a_ro
  rw [List.range_succ, List.foldl_append]
  rfl
theorem p_sh1 : ∀ a, a < 8 → (1 : Int32) <<< (nI a &&& 31) = nI (2 ^ a) := by decide +kernel
theorem p_alike {ν : z_M} {n : Nat} {l : a_T} (wl : w_law l) (ml : m_law ν n l) (hn : n < 4) {a b : Nat} (ha : a < 8) (hb : b < 8) : f_X5_areAlike (nI n) (nI a) (nI b) ν = some (if a = b ∨ (l 5 (8 * a + b) = 1 ∧ l 5 (8 * b + a) = 1) then 1 else 0, ν) := by
  have e1 := ml.2.1 (8 * a + b) (by omega)
  have e2 := ml.2.1 (8 * b + a) (by omega)
  unfold f_X5_areAlike
  simp only [p_ix3, nI_clamp (show 64 * n + (8 * a + b) < 2 ^ 31 by omega), nI_clamp (show 64 * n + (8 * b + a) < 2 ^ 31 by omega), e1, e2]
  rw [if_pos ⟨fun _ => p_zn (by omega) (by decide), fun _ _ => p_zn (by omega) (by decide)⟩]
  congr 2
  by_cases h : a = b
  · rw [if_pos (by rw [h]), if_pos (Or.inl h)]
  · rw [if_neg (fun q => h ((nI_eq (by omega) (by omega)).mp q))]
    rcases wl.2.1 (8 * a + b) (by omega) with g1 | g1
    · rw [g1, if_pos rfl, if_neg (by rintro (q | q); exact h q; exact absurd q.1 (by decide))]
    · rcases wl.2.1 (8 * b + a) (by omega) with g2 | g2
      · rw [g1, g2, if_neg (by decide), if_pos rfl, if_neg (by rintro (q | q); exact h q; exact absurd q.2 (by decide))]
      · rw [g1, g2, if_neg (by decide), if_neg (by decide), if_pos (Or.inr ⟨rfl, rfl⟩)]
theorem p_ring13 {ν : z_M} {n : Nat} {l : a_T} (wl : w_law l) (ml : m_law ν n l) (hn : n < 4) {a : Nat} (ha : a < 8) (s : Int32) (k : Int32 → Int32 → Int32 → z_M → Option (Int32 × z_M)) : ∀ m b fu, b + m = 8 → m < fu → g_X5_ring_13 k fu (nI n) (a_ri (l 5) a s b) (nI a) (nI b) ν = k (nI n) (a_ri (l 5) a s 8) (nI (a + 1)) ν := by
  intro m
  induction m with
  | zero =>
    intro b fu hb hf
    obtain ⟨fu, rfl⟩ : ∃ q, fu = q + 1 := ⟨fu - 1, by omega⟩
    have eb : b = 8 := by omega
    subst eb
    unfold g_X5_ring_13
    rw [if_pos (by decide), nI_1]
  | succ m ih =>
    intro b fu hb hf
    obtain ⟨fu, rfl⟩ : ∃ q, fu = q + 1 := ⟨fu - 1, by omega⟩
    have h := ih (b + 1) fu (by omega) (by omega)
    rw [a_ri_s] at h
    unfold g_X5_ring_13 g_X5_ring_44
    rw [if_neg (show ¬ (8 : Int32) ≤ nI b from p_nle (a := 8) (by omega) (by decide)), p_alike wl ml hn ha (by omega), z_b2_s]
    simp only [nI_1, p_sh1 a ha, z_lt]
    by_cases h1 : a = b
    · rw [if_pos (by rw [h1])]
      rw [if_neg (by rintro ⟨q, _⟩; exact q h1)] at h
      exact h
    · rw [if_neg (fun q => h1 ((nI_eq (by omega) (by omega)).mp q))]
      by_cases h2 : l 5 (8 * a + b) = 1 ∧ l 5 (8 * b + a) = 1
      · rw [if_pos (Or.inr h2), if_neg (by decide)]
        rw [if_pos ⟨h1, h2⟩] at h
        exact h
      · rw [if_neg (show ¬ (a = b ∨ (l 5 (8 * a + b) = 1 ∧ l 5 (8 * b + a) = 1)) from fun q => q.elim h1 h2), if_pos rfl]
        rw [if_neg (by rintro ⟨_, q⟩; exact h2 q)] at h
        exact h
theorem p_ring4 {ν : z_M} {n : Nat} {l : a_T} (wl : w_law l) (ml : m_law ν n l) (hn : n < 4) : ∀ m a fu, a + m = 8 → m < fu → g_X5_ring_4 fu (nI n) (a_ro (l 5) a) (nI a) ν = some (a_ro (l 5) 8, ν) := by
  intro m
  induction m with
  | zero =>
    intro b fu hb hf
    obtain ⟨fu, rfl⟩ : ∃ q, fu = q + 1 := ⟨fu - 1, by omega⟩
    have eb : b = 8 := by omega
    subst eb
    unfold g_X5_ring_4
    rw [if_pos (by decide)]
  | succ m ih =>
    intro a fu hb hf
    obtain ⟨fu, rfl⟩ : ∃ q, fu = q + 1 := ⟨fu - 1, by omega⟩
    have h := ih (a + 1) fu (by omega) (by omega)
    rw [a_ro_s] at h
    unfold g_X5_ring_4
    rw [if_neg (show ¬ (8 : Int32) ≤ nI a from p_nle (a := 8) (by omega) (by decide))]
    have q := p_ring13 wl ml hn (a := a) (by omega) (a_ro (l 5) a) (fun (y26 : Int32) (y27 : Int32) (y28 : Int32) (μ24 : z_M) => (g_X5_ring_4 fu (y26) (y27) (y28) μ24)) 8 0 z_N (by omega) (by decide)
    exact q.trans h
theorem p_ring {ν : z_M} {n : Nat} {l : a_T} (wl : w_law l) (ml : m_law ν n l) (hn : n < 4) : f_X5_ring (nI n) ν = some (l 7 0, ν) := by
  rw [wl.2.2.2.2.2.2.2]
  exact p_ring4 wl ml hn 8 0 z_N (by omega) (by decide)
theorem p_ix2 (c : Nat) (n a : Nat) : nI c * nI n + nI a = nI (c * n + a) := p_ix c n a
theorem s_3 : zs_3 Inv0 := by
  rintro μ ⟨A, hw, hC, hM⟩ x a b
  by_cases h1 : p_in x 0 3
  case neg => exact p_look hw hC hM (r := -1001) (by unfold f_X4_kind; rw [p_isLand4, z_b2_s, p_if0, if_neg h1]) (fun ν hν => by unfold f_X5_kind; rw [p_isLand5, z_b2_s, p_if0, if_neg h1])
  by_cases h2 : p_in a 0 7
  case neg => exact p_look hw hC hM (r := -1001) (by unfold f_X4_kind; rw [p_isLand4, z_b2_s, p_if0, if_pos h1, p_isKind4, z_b2_s, p_if0, if_neg h2]) (fun ν hν => by unfold f_X5_kind; rw [p_isLand5, z_b2_s, p_if0, if_pos h1, p_isKind5, z_b2_s, p_if0, if_neg h2])
  obtain ⟨n, rfl, hn, hn'⟩ := p_nat h1
  obtain ⟨i, rfl, hi, hi'⟩ := p_nat h2
  have hn4 : n < 4 := by omega
  have hi8 : i < 8 := by omega
  obtain ⟨o1, e1, cl⟩ := p_land hC hn4
  have wl := hw.2.2.2.2 n hn4
  obtain ⟨c1, c2, c3, c4, c5⟩ := cl.1 i hi8
  have c6 : μ.1 o1 7 = A.2.2.2.2.2 n 7 0 := cl.2.2.2.2.2.2.2
  have w3 := (wl.1 i hi8).2.2.2.1
  have e8 : (8 : Int32) * nI n + nI i = nI (8 * n + i) := p_ix 8 n i
  have F4 : f_X4_kind (nI n) (nI i) b μ = some (if b = 0 then A.2.2.2.2.2 n 4 i else if b = 1 then A.2.2.2.2.2 n 0 i else if b = 2 then A.2.2.2.2.2 n 1 i else if b = 3 then A.2.2.2.2.2 n 2 i else if b = 4 then A.2.2.2.2.2 n 3 i else if b = 5 then p_bit (A.2.2.2.2.2 n 7 0) i else -1002, μ) := by
    unfold f_X4_kind
    rw [p_isLand4, z_b2_s, p_if0, if_pos h1, p_isKind4, z_b2_s, p_if0, if_pos h2, p_g hn4 (by decide), nI_clamp hn', e1, Option.bind_some]
    simp only [p_g hi8 (show 8 < 2 ^ 31 by decide), nI_clamp hi', p_bitE, z_b2_s, c1, c2, c3, c4, c5, c6]
    repeat' split
    all_goals rfl
  have F5 : ∀ ν, InvM A ν → f_X5_kind (nI n) (nI i) b ν = some (if b = 0 then A.2.2.2.2.2 n 4 i else if b = 1 then A.2.2.2.2.2 n 0 i else if b = 2 then A.2.2.2.2.2 n 1 i else if b = 3 then A.2.2.2.2.2 n 2 i else if b = 4 then A.2.2.2.2.2 n 3 i else if b = 5 then p_bit (A.2.2.2.2.2 n 7 0) i else -1002, ν) := by
    intro ν hν
    have ml := hν.2.2.2.2.2.2 n hn4
    obtain ⟨d1, d2, d3, d4, d5⟩ := ml.1 i hi8
    unfold f_X5_kind
    rw [p_isLand5, z_b2_s, p_if0, if_pos h1, p_isKind5, z_b2_s, p_if0, if_pos h2]
    simp only [z_lt, e8, p_g (show 8 * n + i < 32 by omega) (show 32 < 2 ^ 31 by decide), nI_clamp (show 8 * n + i < 2 ^ 31 by omega), d1, d2, d3, d4, d5, p_ring wl ml hn4, z_b2_s, p_01 w3]
    repeat' split
    all_goals rfl
  exact p_look hw hC hM F4 F5
theorem s_4 : zs_4 Inv0 := by
  rintro μ ⟨A, hw, hC, hM⟩ x b
  by_cases h1 : p_in x 0 3
  case neg => exact p_look hw hC hM (r := -1001) (by unfold f_X4_rule; rw [p_isLand4, z_b2_s, p_if0, if_neg h1]) (fun ν hν => by unfold f_X5_rule; rw [p_isLand5, z_b2_s, p_if0, if_neg h1])
  obtain ⟨n, rfl, hn, hn'⟩ := p_nat h1
  have hn4 : n < 4 := by omega
  obtain ⟨o1, e1, cl⟩ := p_land hC hn4
  have wl := hw.2.2.2.2 n hn4
  obtain ⟨-, -, c1, c2, c3, c4, c5, c6⟩ := cl
  obtain ⟨-, -, w1, w2, w3, w4, w5, w6⟩ := wl
  have F4 : f_X4_rule (nI n) b μ = some (if b = 0 then A.2.2.2.2.2 n 6 0 else if b = 1 then A.2.2.2.2.2 n 6 1 else if b = 2 then A.2.2.2.2.2 n 6 2 else if b = 3 then A.2.2.2.2.2 n 6 3 else if b = 4 then A.2.2.2.2.2 n 6 4 else if b = 5 then A.2.2.2.2.2 n 7 0 else -1002, μ) := by
    unfold f_X4_rule
    rw [p_isLand4, z_b2_s, p_if0, if_pos h1, p_g hn4 (by decide), nI_clamp hn', e1, Option.bind_some]
    simp only [c1, c2, c3, c4, c5, c6, p_01 w1, p_01 w3]
    repeat' split
    all_goals rfl
  refine p_look hw hC hM F4 (fun ν hν => ?_)
  have ml := hν.2.2.2.2.2.2 n hn4
  unfold f_X5_rule
  rw [p_isLand5, z_b2_s, p_if0, if_pos h1, p_ring (hw.2.2.2.2 n hn4) ml hn4, z_b2_s, p_in5k 0 4 (by decide) (by decide), z_b2_s, p_if0]
  by_cases h5 : b = 5
  · rw [if_pos h5, h5]
    rfl
  · rw [if_neg h5]
    by_cases h4 : p_in b 0 4
    · obtain ⟨j, rfl, hj, hj'⟩ := p_nat h4
      have e5 : (5 : Int32) * nI n + nI j = nI (5 * n + j) := p_ix 5 n j
      rw [if_pos h4, e5, p_g (show 5 * n + j < 20 by omega) (by decide), nI_clamp (by omega), ml.2.2 j (by omega)]
      have hj5 : j = 0 ∨ j = 1 ∨ j = 2 ∨ j = 3 ∨ j = 4 := by omega
      rcases hj5 with rfl | rfl | rfl | rfl | rfl <;> rfl
    · rw [if_neg h4]
      have g : ∀ j : Nat, j < 5 → b ≠ nI j := by
        intro j hj e
        apply h4
        rw [e]
        unfold p_in
        rw [nI_toInt (by omega)]
        omega
      rw [if_neg (show ¬ b = 0 from g 0 (by decide)), if_neg (show ¬ b = 1 from g 1 (by decide)), if_neg (show ¬ b = 2 from g 2 (by decide)), if_neg (show ¬ b = 3 from g 3 (by decide)), if_neg (show ¬ b = 4 from g 4 (by decide)), if_neg h5]
