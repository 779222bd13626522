/-! PURE: the draft on both sides -/
def d0 (r : Nat → Int32) (x : Int32) (s : Nat → Int32) : Prop := ∀ k, k < 8 → p_in (s k) 0 7 ∧ r k = (if s k = 0 then 1 else s k) ∧ p_bit x k = (if s k = 0 then 0 else 1)
def d1 (f b : Int32) (s : Nat → Int32) : Prop := ∀ k, k < 8 → p_bit f k = (if s k = 1 then 1 else 0) ∧ p_bit b k = (if s k = -1 then 1 else 0) ∧ (s k = 0 ∨ s k = 1 ∨ s k = -1)
def d2 (r s : Nat → Int32) : Prop := ∀ k, k < 8 → r k = s k ∧ p_in (s k) 0 999
def d3 (x : Int32) (s : Nat → Int32) : Prop := ∀ k, k < 8 → p_bit x k = s k ∧ (s k = 0 ∨ s k = 1)
def d4 (r s : Nat → Int32) : Prop := (∀ a b, a < 8 → b < 8 → p_bit (r a) b = s (8 * a + b) ∧ (s (8 * a + b) = 0 ∨ s (8 * a + b) = 1)) ∧ ∀ a, a < 8 → s (8 * a + a) = 0
def d5 (l w e c n : Int32) (s : Nat → Int32) : Prop := s 0 = l ∧ s 1 = w ∧ s 2 = e ∧ s 3 = c ∧ s 4 = n ∧ (l = 0 ∨ l = 1) ∧ p_in w 0 2 ∧ (e = 0 ∨ e = 1) ∧ p_in c 0 999 ∧ p_in n 0 12
def d6 (x y : Int32) : Prop := ∀ c, (c = 4 ∨ c = 5 ∨ c = 8 ∨ c = 9) → p_bit x c = p_bit y c
def dr (μ ν : z_M) (o : Nat) : Prop := d0 (μ.1 (o + 1)) (μ.1 2 8) (ν.1 105) ∧ d1 (μ.1 o 4) (μ.1 o 5) (ν.1 106) ∧ d2 (μ.1 (o + 2)) (ν.1 107) ∧ d3 (μ.1 o 6) (ν.1 108) ∧ d4 (μ.1 (o + 3)) (ν.1 109) ∧ d5 (μ.1 o 11) (μ.1 o 9) (μ.1 o 12) (μ.1 o 10) (μ.1 o 8) (ν.1 110) ∧ d6 (μ.1 2 7) (ν.1 98 21)
/-- the draft's cells -/
def dC (o a k : Nat) : Prop := a = o ∨ a = o + 1 ∨ a = o + 2 ∨ a = o + 3 ∨ (a = 2 ∧ 7 ≤ k)
def dM (a k : Nat) : Prop := (105 ≤ a ∧ a ≤ 110) ∨ (a = 98 ∧ k = 21)
theorem dr.u0 {μ ν μ' ν' : z_M} {o : Nat} (ho : 51 ≤ o) (h : dr μ ν o) (hμ : ∀ a k, dC o a k → ¬ (a = o + 1 ∨ (a = 2 ∧ k = 8)) → μ'.1 a k = μ.1 a k) (hν : ∀ a k, dM a k → ¬ (a = 105) → ν'.1 a k = ν.1 a k) (hd : d0 (μ'.1 (o + 1)) (μ'.1 2 8) (ν'.1 105)) : dr μ' ν' o := by
  obtain ⟨h0, h1, h2, h3, h4, h5, h6⟩ := h
  unfold dC at hμ
  unfold dM at hν
  refine ⟨hd, ?_, ?_, ?_, ?_, ?_, ?_⟩
  · rw [hμ o 4 (by omega) (by omega), hμ o 5 (by omega) (by omega), show ν'.1 106 = ν.1 106 from funext fun k => hν _ k (by omega) (by omega)]
    exact h1
  · rw [show μ'.1 (o + 2) = μ.1 (o + 2) from funext fun k => hμ _ k (by omega) (by omega), show ν'.1 107 = ν.1 107 from funext fun k => hν _ k (by omega) (by omega)]
    exact h2
  · rw [hμ o 6 (by omega) (by omega), show ν'.1 108 = ν.1 108 from funext fun k => hν _ k (by omega) (by omega)]
    exact h3
  · rw [show μ'.1 (o + 3) = μ.1 (o + 3) from funext fun k => hμ _ k (by omega) (by omega), show ν'.1 109 = ν.1 109 from funext fun k => hν _ k (by omega) (by omega)]
    exact h4
  · rw [hμ o 11 (by omega) (by omega), hμ o 9 (by omega) (by omega), hμ o 12 (by omega) (by omega), hμ o 10 (by omega) (by omega), hμ o 8 (by omega) (by omega), show ν'.1 110 = ν.1 110 from funext fun k => hν _ k (by omega) (by omega)]
    exact h5
  · rw [hμ 2 7 (by omega) (by omega), hν 98 21 (by omega) (by omega)]
    exact h6
theorem dr.u1 {μ ν μ' ν' : z_M} {o : Nat} (ho : 51 ≤ o) (h : dr μ ν o) (hμ : ∀ a k, dC o a k → ¬ (a = o ∧ (k = 4 ∨ k = 5)) → μ'.1 a k = μ.1 a k) (hν : ∀ a k, dM a k → ¬ (a = 106) → ν'.1 a k = ν.1 a k) (hd : d1 (μ'.1 o 4) (μ'.1 o 5) (ν'.1 106)) : dr μ' ν' o := by
  obtain ⟨h0, h1, h2, h3, h4, h5, h6⟩ := h
  unfold dC at hμ
  unfold dM at hν
  refine ⟨?_, hd, ?_, ?_, ?_, ?_, ?_⟩
  · rw [show μ'.1 (o + 1) = μ.1 (o + 1) from funext fun k => hμ _ k (by omega) (by omega), hμ 2 8 (by omega) (by omega), show ν'.1 105 = ν.1 105 from funext fun k => hν _ k (by omega) (by omega)]
    exact h0
  · rw [show μ'.1 (o + 2) = μ.1 (o + 2) from funext fun k => hμ _ k (by omega) (by omega), show ν'.1 107 = ν.1 107 from funext fun k => hν _ k (by omega) (by omega)]
    exact h2
  · rw [hμ o 6 (by omega) (by omega), show ν'.1 108 = ν.1 108 from funext fun k => hν _ k (by omega) (by omega)]
    exact h3
  · rw [show μ'.1 (o + 3) = μ.1 (o + 3) from funext fun k => hμ _ k (by omega) (by omega), show ν'.1 109 = ν.1 109 from funext fun k => hν _ k (by omega) (by omega)]
    exact h4
  · rw [hμ o 11 (by omega) (by omega), hμ o 9 (by omega) (by omega), hμ o 12 (by omega) (by omega), hμ o 10 (by omega) (by omega), hμ o 8 (by omega) (by omega), show ν'.1 110 = ν.1 110 from funext fun k => hν _ k (by omega) (by omega)]
    exact h5
  · rw [hμ 2 7 (by omega) (by omega), hν 98 21 (by omega) (by omega)]
    exact h6
theorem dr.u2 {μ ν μ' ν' : z_M} {o : Nat} (ho : 51 ≤ o) (h : dr μ ν o) (hμ : ∀ a k, dC o a k → ¬ (a = o + 2) → μ'.1 a k = μ.1 a k) (hν : ∀ a k, dM a k → ¬ (a = 107) → ν'.1 a k = ν.1 a k) (hd : d2 (μ'.1 (o + 2)) (ν'.1 107)) : dr μ' ν' o := by
  obtain ⟨h0, h1, h2, h3, h4, h5, h6⟩ := h
  unfold dC at hμ
  unfold dM at hν
  refine ⟨?_, ?_, hd, ?_, ?_, ?_, ?_⟩
  · rw [show μ'.1 (o + 1) = μ.1 (o + 1) from funext fun k => hμ _ k (by omega) (by omega), hμ 2 8 (by omega) (by omega), show ν'.1 105 = ν.1 105 from funext fun k => hν _ k (by omega) (by omega)]
    exact h0
  · rw [hμ o 4 (by omega) (by omega), hμ o 5 (by omega) (by omega), show ν'.1 106 = ν.1 106 from funext fun k => hν _ k (by omega) (by omega)]
    exact h1
  · rw [hμ o 6 (by omega) (by omega), show ν'.1 108 = ν.1 108 from funext fun k => hν _ k (by omega) (by omega)]
    exact h3
  · rw [show μ'.1 (o + 3) = μ.1 (o + 3) from funext fun k => hμ _ k (by omega) (by omega), show ν'.1 109 = ν.1 109 from funext fun k => hν _ k (by omega) (by omega)]
    exact h4
  · rw [hμ o 11 (by omega) (by omega), hμ o 9 (by omega) (by omega), hμ o 12 (by omega) (by omega), hμ o 10 (by omega) (by omega), hμ o 8 (by omega) (by omega), show ν'.1 110 = ν.1 110 from funext fun k => hν _ k (by omega) (by omega)]
    exact h5
  · rw [hμ 2 7 (by omega) (by omega), hν 98 21 (by omega) (by omega)]
    exact h6
theorem dr.u3 {μ ν μ' ν' : z_M} {o : Nat} (ho : 51 ≤ o) (h : dr μ ν o) (hμ : ∀ a k, dC o a k → ¬ (a = o ∧ k = 6) → μ'.1 a k = μ.1 a k) (hν : ∀ a k, dM a k → ¬ (a = 108) → ν'.1 a k = ν.1 a k) (hd : d3 (μ'.1 o 6) (ν'.1 108)) : dr μ' ν' o := by
  obtain ⟨h0, h1, h2, h3, h4, h5, h6⟩ := h
  unfold dC at hμ
  unfold dM at hν
  refine ⟨?_, ?_, ?_, hd, ?_, ?_, ?_⟩
  · rw [show μ'.1 (o + 1) = μ.1 (o + 1) from funext fun k => hμ _ k (by omega) (by omega), hμ 2 8 (by omega) (by omega), show ν'.1 105 = ν.1 105 from funext fun k => hν _ k (by omega) (by omega)]
    exact h0
  · rw [hμ o 4 (by omega) (by omega), hμ o 5 (by omega) (by omega), show ν'.1 106 = ν.1 106 from funext fun k => hν _ k (by omega) (by omega)]
    exact h1
  · rw [show μ'.1 (o + 2) = μ.1 (o + 2) from funext fun k => hμ _ k (by omega) (by omega), show ν'.1 107 = ν.1 107 from funext fun k => hν _ k (by omega) (by omega)]
    exact h2
  · rw [show μ'.1 (o + 3) = μ.1 (o + 3) from funext fun k => hμ _ k (by omega) (by omega), show ν'.1 109 = ν.1 109 from funext fun k => hν _ k (by omega) (by omega)]
    exact h4
  · rw [hμ o 11 (by omega) (by omega), hμ o 9 (by omega) (by omega), hμ o 12 (by omega) (by omega), hμ o 10 (by omega) (by omega), hμ o 8 (by omega) (by omega), show ν'.1 110 = ν.1 110 from funext fun k => hν _ k (by omega) (by omega)]
    exact h5
  · rw [hμ 2 7 (by omega) (by omega), hν 98 21 (by omega) (by omega)]
    exact h6
theorem dr.u4 {μ ν μ' ν' : z_M} {o : Nat} (ho : 51 ≤ o) (h : dr μ ν o) (hμ : ∀ a k, dC o a k → ¬ (a = o + 3) → μ'.1 a k = μ.1 a k) (hν : ∀ a k, dM a k → ¬ (a = 109) → ν'.1 a k = ν.1 a k) (hd : d4 (μ'.1 (o + 3)) (ν'.1 109)) : dr μ' ν' o := by
  obtain ⟨h0, h1, h2, h3, h4, h5, h6⟩ := h
  unfold dC at hμ
  unfold dM at hν
  refine ⟨?_, ?_, ?_, ?_, hd, ?_, ?_⟩
  · rw [show μ'.1 (o + 1) = μ.1 (o + 1) from funext fun k => hμ _ k (by omega) (by omega), hμ 2 8 (by omega) (by omega), show ν'.1 105 = ν.1 105 from funext fun k => hν _ k (by omega) (by omega)]
    exact h0
  · rw [hμ o 4 (by omega) (by omega), hμ o 5 (by omega) (by omega), show ν'.1 106 = ν.1 106 from funext fun k => hν _ k (by omega) (by omega)]
    exact h1
  · rw [show μ'.1 (o + 2) = μ.1 (o + 2) from funext fun k => hμ _ k (by omega) (by omega), show ν'.1 107 = ν.1 107 from funext fun k => hν _ k (by omega) (by omega)]
    exact h2
  · rw [hμ o 6 (by omega) (by omega), show ν'.1 108 = ν.1 108 from funext fun k => hν _ k (by omega) (by omega)]
    exact h3
  · rw [hμ o 11 (by omega) (by omega), hμ o 9 (by omega) (by omega), hμ o 12 (by omega) (by omega), hμ o 10 (by omega) (by omega), hμ o 8 (by omega) (by omega), show ν'.1 110 = ν.1 110 from funext fun k => hν _ k (by omega) (by omega)]
    exact h5
  · rw [hμ 2 7 (by omega) (by omega), hν 98 21 (by omega) (by omega)]
    exact h6
theorem dr.u5 {μ ν μ' ν' : z_M} {o : Nat} (ho : 51 ≤ o) (h : dr μ ν o) (hμ : ∀ a k, dC o a k → ¬ (a = o ∧ 8 ≤ k) → μ'.1 a k = μ.1 a k) (hν : ∀ a k, dM a k → ¬ (a = 110) → ν'.1 a k = ν.1 a k) (hd : d5 (μ'.1 o 11) (μ'.1 o 9) (μ'.1 o 12) (μ'.1 o 10) (μ'.1 o 8) (ν'.1 110)) : dr μ' ν' o := by
  obtain ⟨h0, h1, h2, h3, h4, h5, h6⟩ := h
  unfold dC at hμ
  unfold dM at hν
  refine ⟨?_, ?_, ?_, ?_, ?_, hd, ?_⟩
  · rw [show μ'.1 (o + 1) = μ.1 (o + 1) from funext fun k => hμ _ k (by omega) (by omega), hμ 2 8 (by omega) (by omega), show ν'.1 105 = ν.1 105 from funext fun k => hν _ k (by omega) (by omega)]
    exact h0
  · rw [hμ o 4 (by omega) (by omega), hμ o 5 (by omega) (by omega), show ν'.1 106 = ν.1 106 from funext fun k => hν _ k (by omega) (by omega)]
    exact h1
  · rw [show μ'.1 (o + 2) = μ.1 (o + 2) from funext fun k => hμ _ k (by omega) (by omega), show ν'.1 107 = ν.1 107 from funext fun k => hν _ k (by omega) (by omega)]
    exact h2
  · rw [hμ o 6 (by omega) (by omega), show ν'.1 108 = ν.1 108 from funext fun k => hν _ k (by omega) (by omega)]
    exact h3
  · rw [show μ'.1 (o + 3) = μ.1 (o + 3) from funext fun k => hμ _ k (by omega) (by omega), show ν'.1 109 = ν.1 109 from funext fun k => hν _ k (by omega) (by omega)]
    exact h4
  · rw [hμ 2 7 (by omega) (by omega), hν 98 21 (by omega) (by omega)]
    exact h6
theorem dr.u6 {μ ν μ' ν' : z_M} {o : Nat} (ho : 51 ≤ o) (h : dr μ ν o) (hμ : ∀ a k, dC o a k → ¬ (a = 2 ∧ k = 7) → μ'.1 a k = μ.1 a k) (hν : ∀ a k, dM a k → ¬ (a = 98) → ν'.1 a k = ν.1 a k) (hd : d6 (μ'.1 2 7) (ν'.1 98 21)) : dr μ' ν' o := by
  obtain ⟨h0, h1, h2, h3, h4, h5, h6⟩ := h
  unfold dC at hμ
  unfold dM at hν
  refine ⟨?_, ?_, ?_, ?_, ?_, ?_, hd⟩
  · rw [show μ'.1 (o + 1) = μ.1 (o + 1) from funext fun k => hμ _ k (by omega) (by omega), hμ 2 8 (by omega) (by omega), show ν'.1 105 = ν.1 105 from funext fun k => hν _ k (by omega) (by omega)]
    exact h0
  · rw [hμ o 4 (by omega) (by omega), hμ o 5 (by omega) (by omega), show ν'.1 106 = ν.1 106 from funext fun k => hν _ k (by omega) (by omega)]
    exact h1
  · rw [show μ'.1 (o + 2) = μ.1 (o + 2) from funext fun k => hμ _ k (by omega) (by omega), show ν'.1 107 = ν.1 107 from funext fun k => hν _ k (by omega) (by omega)]
    exact h2
  · rw [hμ o 6 (by omega) (by omega), show ν'.1 108 = ν.1 108 from funext fun k => hν _ k (by omega) (by omega)]
    exact h3
  · rw [show μ'.1 (o + 3) = μ.1 (o + 3) from funext fun k => hμ _ k (by omega) (by omega), show ν'.1 109 = ν.1 109 from funext fun k => hν _ k (by omega) (by omega)]
    exact h4
  · rw [hμ o 11 (by omega) (by omega), hμ o 9 (by omega) (by omega), hμ o 12 (by omega) (by omega), hμ o 10 (by omega) (by omega), hμ o 8 (by omega) (by omega), show ν'.1 110 = ν.1 110 from funext fun k => hν _ k (by omega) (by omega)]
    exact h5
theorem dr.u7 {μ ν μ' ν' : z_M} {o : Nat} (ho : 51 ≤ o) (h : dr μ ν o) (hμ : ∀ a k, dC o a k → ¬ (a = 0) → μ'.1 a k = μ.1 a k) (hν : ∀ a k, dM a k → ¬ (a = 0) → ν'.1 a k = ν.1 a k) : dr μ' ν' o := by
  obtain ⟨h0, h1, h2, h3, h4, h5, h6⟩ := h
  unfold dC at hμ
  unfold dM at hν
  refine ⟨?_, ?_, ?_, ?_, ?_, ?_, ?_⟩
  · rw [show μ'.1 (o + 1) = μ.1 (o + 1) from funext fun k => hμ _ k (by omega) (by omega), hμ 2 8 (by omega) (by omega), show ν'.1 105 = ν.1 105 from funext fun k => hν _ k (by omega) (by omega)]
    exact h0
  · rw [hμ o 4 (by omega) (by omega), hμ o 5 (by omega) (by omega), show ν'.1 106 = ν.1 106 from funext fun k => hν _ k (by omega) (by omega)]
    exact h1
  · rw [show μ'.1 (o + 2) = μ.1 (o + 2) from funext fun k => hμ _ k (by omega) (by omega), show ν'.1 107 = ν.1 107 from funext fun k => hν _ k (by omega) (by omega)]
    exact h2
  · rw [hμ o 6 (by omega) (by omega), show ν'.1 108 = ν.1 108 from funext fun k => hν _ k (by omega) (by omega)]
    exact h3
  · rw [show μ'.1 (o + 3) = μ.1 (o + 3) from funext fun k => hμ _ k (by omega) (by omega), show ν'.1 109 = ν.1 109 from funext fun k => hν _ k (by omega) (by omega)]
    exact h4
  · rw [hμ o 11 (by omega) (by omega), hμ o 9 (by omega) (by omega), hμ o 12 (by omega) (by omega), hμ o 10 (by omega) (by omega), hμ o 8 (by omega) (by omega), show ν'.1 110 = ν.1 110 from funext fun k => hν _ k (by omega) (by omega)]
    exact h5
  · rw [hμ 2 7 (by omega) (by omega), hν 98 21 (by omega) (by omega)]
    exact h6
section
variable {t : Nat → Int32} {N : Nat} {μ ν : z_M} {o p : Nat}
def Rl (t : Nat → Int32) (N o : Nat) (μ ν : z_M) (p : Nat) : Prop := Tl t N μ ν p ∧ dr μ ν o ∧ μ.1 2 3 = -1 ∧ ν.1 98 14 = -1
def Wc (o : Nat) : Nat → Nat → Prop := fun a k => (a = 2 ∧ 2 ≤ k ∧ k ≤ 8) ∨ (a = o ∧ k ≠ 7) ∨ a = o + 1 ∨ a = o + 2 ∨ a = o + 3
def Vm : Nat → Nat → Prop := fun a k => (a = 98 ∧ 14 ≤ k ∧ k ≤ 21) ∨ (105 ≤ a ∧ a ≤ 110)
theorem W2_c (o : Nat) : ∀ a k, W2 a k → Wc o a k := fun a k h => Or.inl ⟨h.1, h.2.1, by have := h.2.2; omega⟩
theorem W456_c (o : Nat) : ∀ a k, W456 a k → Wc o a k := fun a k h => W2_c o a k (W456_2 a k h)
theorem V1_m : ∀ a k, V1 a k → Vm a k := fun a k h => Or.inl ⟨h.1, h.2.1, by have := h.2.2; omega⟩
theorem Tl.c (h : Tl t N μ ν p) {a k : Nat} {x : Int32} (ha : 51 ≤ a ∨ (a = 2 ∧ 7 ≤ k)) : Tl t N (z_si μ a k x) ν p := by
  obtain ⟨⟨h0, h1, h2⟩, h3, h4, h5, h6, h7⟩ := h
  refine ⟨⟨h0, ?_, fun j hj => ?_⟩, h3, h4, ?_, h6, ?_⟩
  · rw [p_si, if_neg (by omega)]
    exact h1
  · rw [p_si, if_neg (by omega)]
    exact h2 j hj
  · rw [p_si, if_neg (by omega)]
    exact h5
  · rw [p_si, if_neg (by omega)]
    exact h7
theorem Tl.m (h : Tl t N μ ν p) {a k : Nat} {x : Int32} (ha : (105 ≤ a ∧ a ≤ 110) ∨ (a = 98 ∧ k = 21)) : Tl t N μ (z_si ν a k x) p := by
  obtain ⟨h3, ⟨h0, h1, h2⟩, h4, h5, ⟨p2, hp2, h6, hw⟩, h7⟩ := h
  refine ⟨h3, ⟨h0, ?_, fun j hj => ?_⟩, h4, h5, ⟨p2, hp2, ?_, hw⟩, h7⟩
  · rw [p_si, if_neg (by omega)]
    exact h1
  · rw [p_si, if_neg (by omega)]
    exact h2 j hj
  · rw [p_si, if_neg (by omega)]
    exact h6
/-- what a clause's body does on both sides -/
def Bo (t : Nat → Int32) (N o : Nat) (μ ν : z_M) (p : Nat) (c m : Option (Int32 × z_M)) : Prop := ∃ μ' ν' f, m = some (nI f, ν') ∧ gF (Wc o) μ μ' ∧ hF Vm ν ν' ∧ ((f = 0 ∧ c = some (1, μ') ∧ ∃ p', p ≤ p' ∧ Rl t N o μ' ν' p') ∨ (c = some (0, μ') ∧ Fl t N f μ' ν'))
theorem pb_oo (x y : Int32) {k : Nat} (hk : k < 32) : p_bit (x ||| y) k = if p_bit x k = 1 ∨ p_bit y k = 1 then 1 else 0 := by
  rw [p_bit_bt _ hk, p_bit_bt _ hk, p_bit_bt _ hk, b_or]
  cases bt x k <;> cases bt y k <;> decide
end
