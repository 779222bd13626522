/-! PURE, over Nat alone: the steps closed, who is alike, heights -/
def cl_st (m : Nat) (g : Nat → Nat → Bool) (a b : Nat) : Bool := g a b || (g a m && g m b)
def cl (s : Nat → Nat → Bool) : Nat → Nat → Nat → Bool
  | 0 => s
  | m + 1 => cl_st m (cl s m)
theorem cl_st_iff {m : Nat} {g : Nat → Nat → Bool} {a b : Nat} : cl_st m g a b = true ↔ g a b = true ∨ (g a m = true ∧ g m b = true) := by
  unfold cl_st
  rw [Bool.or_eq_true, Bool.and_eq_true]
theorem cl_s {s : Nat → Nat → Bool} {m a b : Nat} : cl s (m + 1) a b = true ↔ cl s m a b = true ∨ (cl s m a m = true ∧ cl s m m b = true) := cl_st_iff
theorem cl_up {s : Nat → Nat → Bool} {m a b : Nat} : ∀ d, cl s m a b = true → cl s (m + d) a b = true
  | 0, h => h
  | d + 1, h => cl_s.mpr (Or.inl (cl_up d h))
theorem cl_up8 {s : Nat → Nat → Bool} {m a b : Nat} (hm : m ≤ 8) (h : cl s m a b = true) : cl s 8 a b = true := by
  have := cl_up (8 - m) h
  rw [show m + (8 - m) = 8 by omega] at this
  exact this
theorem cl_tr {s : Nat → Nat → Bool} : ∀ m i a b, i < m → cl s m a i = true → cl s m i b = true → cl s m a b = true
  | 0, i, _, _, h, _, _ => by omega
  | m + 1, i, a, b, h, h1, h2 => by
    rw [cl_s] at h1 h2 ⊢
    by_cases e : i = m
    · subst e
      right
      refine ⟨?_, ?_⟩
      · rcases h1 with q | q
        · exact q
        · exact q.1
      · rcases h2 with q | q
        · exact q
        · exact q.2
    · have ih := fun a b => cl_tr (s := s) m i a b (by omega)
      rcases h1 with p | p <;> rcases h2 with q | q
      · exact Or.inl (ih a b p q)
      · exact Or.inr ⟨ih a m p q.1, q.2⟩
      · exact Or.inr ⟨p.1, ih m b p.2 q⟩
      · exact Or.inr ⟨p.1, q.2⟩
theorem cl_min {s : Nat → Nat → Bool} (X : Nat → Prop) (h : ∀ a b, s a b = true → X a → X b) : ∀ m a b, cl s m a b = true → X a → X b
  | 0, a, b, h1, h2 => h a b h1 h2
  | m + 1, a, b, h1, h2 => by
    rcases cl_s.mp h1 with q | q
    · exact cl_min X h m a b q h2
    · exact cl_min X h m m b q.2 (cl_min X h m a m q.1 h2)
theorem cl_lt {s : Nat → Nat → Bool} (h : ∀ a b, s a b = true → a < 8 ∧ b < 8) : ∀ m a b, cl s m a b = true → a < 8 ∧ b < 8
  | 0, a, b, h1 => h a b h1
  | m + 1, a, b, h1 => by
    rcases cl_s.mp h1 with q | q
    · exact cl_lt h m a b q
    · exact ⟨(cl_lt h m a m q.1).1, (cl_lt h m m b q.2).2⟩
theorem cl_fst {s : Nat → Nat → Bool} : ∀ m a b, m ≤ 8 → cl s m a b = true → s a b = true ∨ ∃ v, s a v = true ∧ cl s 8 v b = true
  | 0, a, b, _, h => Or.inl h
  | m + 1, a, b, hm, h => by
    rcases cl_s.mp h with q | q
    · exact cl_fst m a b (by omega) q
    · right
      have hmb := cl_up8 (by omega) q.2
      rcases cl_fst m a m (by omega) q.1 with p | ⟨v, p1, p2⟩
      · exact ⟨m, p, hmb⟩
      · exact ⟨v, p1, cl_tr 8 m v b (by omega) p2 hmb⟩
section
variable {s : Nat → Nat → Bool}
abbrev k_al (C : Nat → Nat → Bool) (a b : Nat) : Prop := a = b ∨ (C a b = true ∧ C b a = true)
abbrev k_D (C : Nat → Nat → Bool) (j k : Nat) : Prop := C j k = true ∧ ¬ C k j = true
theorem k_tr (hs : ∀ a b, s a b = true → a < 8 ∧ b < 8) {a b c : Nat} (h1 : cl s 8 a b = true) (h2 : cl s 8 b c = true) : cl s 8 a c = true := cl_tr 8 b a c (cl_lt hs 8 a b h1).2 h1 h2
/-- who comes round to itself has another in its ring -/
theorem k_ring (hs : ∀ a b, s a b = true → a < 8 ∧ b < 8) (hn : ∀ a, ¬ s a a = true) {k : Nat} : cl s 8 k k = true ↔ ∃ b, b < 8 ∧ k ≠ b ∧ cl s 8 k b = true ∧ cl s 8 b k = true := by
  constructor
  · intro h
    rcases cl_fst 8 k k (Nat.le_refl _) h with q | ⟨v, q1, q2⟩
    · exact absurd q (hn k)
    · refine ⟨v, (hs k v q1).2, fun e => ?_, cl_up8 (m := 0) (by omega) q1, q2⟩
      rw [← e] at q1
      exact hn k q1
  · rintro ⟨b, _, _, h1, h2⟩
    exact k_tr hs h1 h2
/-- a step into the ring of k, on the way from j -/
theorem k_cross (hs : ∀ a b, s a b = true → a < 8 ∧ b < 8) {j k : Nat} (h : k_D (cl s 8) j k) : ∃ x y, s x y = true ∧ (x = j ∨ cl s 8 j x = true) ∧ ¬ k_al (cl s 8) x k ∧ k_al (cl s 8) y k := by
  rcases Classical.em (∃ x y, s x y = true ∧ (x = j ∨ cl s 8 j x = true) ∧ ¬ k_al (cl s 8) x k ∧ k_al (cl s 8) y k) with q | q
  · exact q
  · exfalso
    have hX := cl_min (s := s) (fun v => (v = j ∨ cl s 8 j v = true) ∧ ¬ k_al (cl s 8) v k) (fun a b hab hX => by
      refine ⟨Or.inr ?_, fun z => q ⟨a, b, hab, hX.1, hX.2, z⟩⟩
      have h1 := cl_up8 (s := s) (m := 0) (by omega) hab
      rcases hX.1 with e | e
      · rw [← e]
        exact h1
      · exact k_tr hs e h1) 8 j k h.1 ⟨Or.inl rfl, fun z => by
        rcases z with e | e
        · rw [e] at h
          exact h.2 h.1
        · exact h.2 e.2⟩
    exact hX.2 (Or.inl rfl)
end
/-! heights -/
def mx (f : Nat → Nat) : Nat → Nat
  | 0 => 0
  | n + 1 => max (mx f n) (f n)
theorem mx_ge {f : Nat → Nat} : ∀ {n i : Nat}, i < n → f i ≤ mx f n
  | 0, _, h => by omega
  | n + 1, i, h => by
    rw [mx]
    by_cases e : i = n
    · rw [e]
      omega
    · have := mx_ge (f := f) (n := n) (i := i) (by omega)
      omega
theorem mx_is (f : Nat → Nat) : ∀ n, mx f n = 0 ∨ ∃ i, i < n ∧ mx f n = f i
  | 0 => Or.inl rfl
  | n + 1 => by
    rw [mx]
    rcases Nat.le_total (mx f n) (f n) with q | q
    · right
      exact ⟨n, by omega, by omega⟩
    · rcases mx_is f n with e | ⟨i, hi, e⟩
      · left
        omega
      · right
        exact ⟨i, by omega, by omega⟩
theorem mx_cg {f g : Nat → Nat} : ∀ {n : Nat}, (∀ i, i < n → f i = g i) → mx f n = mx g n
  | 0, _ => rfl
  | n + 1, h => by rw [mx, mx, mx_cg (n := n) (fun i hi => h i (by omega)), h n (by omega)]
def hR (C : Nat → Nat → Bool) : Nat → Nat → Nat
  | 0, _ => 0
  | t + 1, k => mx (fun j => if (C j k && !(C k j)) = true then hR C t j + 1 else 0) 8
def hH (C : Nat → Nat → Bool) (k : Nat) : Nat := hR C 8 k
theorem k_D_b {C : Nat → Nat → Bool} {j k : Nat} : (C j k && !(C k j)) = true ↔ k_D C j k := by
  rw [Bool.and_eq_true, Bool.not_eq_true']
  unfold k_D
  rw [Bool.not_eq_true]
def hC (C : Nat → Nat → Bool) (k : Nat) : Nat := sm 8 (fun j => if (C j k && !(C k j)) = true then 1 else 0)
section
variable {C : Nat → Nat → Bool}
theorem h_C_lt (tr : ∀ a b c, C a b = true → C b c = true → C a c = true) {j k : Nat} (hj : j < 8) (h : k_D C j k) : hC C j < hC C k := by
  refine sm_lt hj (fun i hi => ?_) ?_
  · show (if (C i j && !(C j i)) = true then 1 else 0) ≤ (if (C i k && !(C k i)) = true then 1 else 0)
    by_cases q : (C i j && !(C j i)) = true
    · have q' := k_D_b.mp q
      rw [if_pos q, if_pos (k_D_b.mpr ⟨tr _ _ _ q'.1 h.1, fun z => h.2 (tr _ _ _ z q'.1)⟩)]
      exact Nat.le_refl _
    · rw [if_neg q]
      exact Nat.zero_le _
  · show (if (C j j && !(C j j)) = true then 1 else 0) < (if (C j k && !(C k j)) = true then 1 else 0)
    rw [if_pos (k_D_b.mpr h), if_neg (by cases C j j <;> decide)]
    exact Nat.zero_lt_one
theorem h_C_le (k : Nat) (hk : k < 8) : hC C k ≤ 7 := by
  unfold hC
  rw [sm_up hk]
  have h1 : sm 8 (fun e => if e = k then 0 else (if (C e k && !(C k e)) = true then 1 else 0)) ≤ sm 8 (fun e => if e = k then 0 else 1) := sm_le (fun e _ => by
    show (if e = k then 0 else (if (C e k && !(C k e)) = true then 1 else 0)) ≤ (if e = k then 0 else 1)
    split
    · exact Nat.le_refl _
    · split <;> omega)
  have h2 : sm 8 (fun e => if e = k then 0 else 1) + 1 = 8 := by
    have := sm_up (f := fun _ => 1) (n := 8) hk
    rw [show sm 8 (fun _ => 1) = 8 from rfl] at this
    exact this.symm
  have h3 : (if (C k k && !(C k k)) = true then 1 else 0) = 0 := by
    rw [if_neg (by cases C k k <;> decide)]
  rw [h3]
  omega
theorem h_st (tr : ∀ a b c, C a b = true → C b c = true → C a c = true) : ∀ c k t t', k < 8 → hC C k ≤ c → hC C k ≤ t → hC C k ≤ t' → hR C t k = hR C t' k := by
  intro c
  induction c with
  | zero =>
    intro k t t' hk hc h1 h2
    have z : ∀ t, hR C t k = 0 := by
      intro t
      cases t with
      | zero => rfl
      | succ t =>
        rw [hR]
        rcases mx_is (fun j => if (C j k && !(C k j)) = true then hR C t j + 1 else 0) 8 with q | ⟨i, hi, q⟩
        · exact q
        · rw [q]
          by_cases z : (C i k && !(C k i)) = true
          · have := h_C_lt tr hi (k_D_b.mp z)
            omega
          · exact if_neg z
    rw [z t, z t']
  | succ c ih =>
    intro k t t' hk hc h1 h2
    by_cases q0 : hC C k = 0
    · exact ih k t t' hk (by omega) h1 h2
    · obtain ⟨t, rfl⟩ : ∃ q, t = q + 1 := ⟨t - 1, by omega⟩
      obtain ⟨t', rfl⟩ : ∃ q, t' = q + 1 := ⟨t' - 1, by omega⟩
      rw [hR, hR]
      apply mx_cg
      intro j hj
      show (if (C j k && !(C k j)) = true then hR C t j + 1 else 0) = (if (C j k && !(C k j)) = true then hR C t' j + 1 else 0)
      by_cases z : (C j k && !(C k j)) = true
      · have := h_C_lt tr hj (k_D_b.mp z)
        rw [if_pos z, if_pos z, ih j t t' hj (by omega) (by omega) (by omega)]
      · rw [if_neg z, if_neg z]
theorem h_eq (tr : ∀ a b c, C a b = true → C b c = true → C a c = true) {k : Nat} (hk : k < 8) : hH C k = mx (fun j => if (C j k && !(C k j)) = true then hH C j + 1 else 0) 8 := by
  have h7 := h_C_le (C := C) k hk
  have : hH C k = hR C 9 k := h_st tr 7 k 8 9 hk h7 (by omega) (by omega)
  rw [this, hR]
  rfl
theorem h_1 (tr : ∀ a b c, C a b = true → C b c = true → C a c = true) {j k : Nat} (hj : j < 8) (hk : k < 8) (h : k_D C j k) : hH C j + 1 ≤ hH C k := by
  rw [h_eq tr hk]
  have := mx_ge (f := fun j => if (C j k && !(C k j)) = true then hH C j + 1 else 0) (n := 8) hj
  rw [if_pos (k_D_b.mpr h)] at this
  exact this
theorem h_2 (tr : ∀ a b c, C a b = true → C b c = true → C a c = true) {k : Nat} (hk : k < 8) : hH C k = 0 ∨ ∃ j, j < 8 ∧ k_D C j k ∧ hH C k = hH C j + 1 := by
  rw [h_eq tr hk]
  rcases mx_is (fun j => if (C j k && !(C k j)) = true then hH C j + 1 else 0) 8 with q | ⟨i, hi, q⟩
  · exact Or.inl q
  · by_cases z : (C i k && !(C k i)) = true
    · right
      exact ⟨i, hi, k_D_b.mp z, q.trans (if_pos z)⟩
    · exact Or.inl (q.trans (if_neg z))
theorem h_le (tr : ∀ a b c, C a b = true → C b c = true → C a c = true) : ∀ c k, k < 8 → hC C k ≤ c → hH C k ≤ c := by
  intro c
  induction c with
  | zero =>
    intro k hk hc
    rcases h_2 tr hk with q | ⟨j, hj, q1, q2⟩
    · omega
    · have := h_C_lt tr hj q1
      omega
  | succ c ih =>
    intro k hk hc
    rcases h_2 tr hk with q | ⟨j, hj, q1, q2⟩
    · omega
    · have := h_C_lt tr hj q1
      have := ih j hj (by omega)
      omega
theorem h_7 (tr : ∀ a b c, C a b = true → C b c = true → C a c = true) {k : Nat} (hk : k < 8) : hH C k ≤ 7 := h_le tr 7 k hk (h_C_le k hk)
theorem h_al (tr : ∀ a b c, C a b = true → C b c = true → C a c = true) {a b : Nat} (ha : a < 8) (hb : b < 8) (h : k_al C a b) : hH C a ≤ hH C b := by
  rcases h with e | ⟨e1, e2⟩
  · rw [e]
    exact Nat.le_refl _
  · rcases h_2 tr ha with q | ⟨j, hj, q1, q2⟩
    · omega
    · have := h_1 tr hj hb ⟨tr _ _ _ q1.1 e1, fun z => q1.2 (tr _ _ _ e1 z)⟩
      omega
end
