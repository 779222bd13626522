/-! PURE, over Nat alone: what is paid out (N, amounts, standings, there (fund, claim), sums, rides on the ship) -/
abbrev y_P : Type := Nat × (Nat → Nat) × (Nat → Nat) × (Nat → Nat → Bool) × (Nat → Nat) × (Nat → Bool)
abbrev y_S : Type := (Nat → Nat) × Nat
def y_w (P : y_P) (f v : Nat) (p : Nat → Nat) (c : Nat) : Nat := if c < P.1 ∧ P.2.2.2.1 f c = true ∧ P.2.2.1 c = v then P.2.1 c - p c else 0
def y_l (P : y_P) (f v : Nat) (st : y_S) : y_S := (fun c => st.1 c + sh st.2 P.1 (y_w P f v st.1) c, sh_r st.2 P.1 (y_w P f v st.1))
def y_r (P : y_P) (f : Nat) : Nat → Nat → y_S → y_S
  | 0, _, st => st
  | n + 1, v, st => y_r P f n (v + 1) (y_l P f v st)
theorem y_M_ex : ∃ m : Nat, m = 168000 := ⟨168000, rfl⟩
/-- the number of levels; it must not be reckoned with -/
noncomputable def y_M : Nat := Classical.choose y_M_ex
theorem y_M_is : y_M = 168000 := Classical.choose_spec y_M_ex
noncomputable def y_f (P : y_P) (f v : Nat) (st : y_S) : y_S := y_r P f (y_M - v) v st
theorem y_l_0 {P : y_P} {f v : Nat} {st : y_S} (h : ∀ c, c < P.1 → P.2.2.2.1 f c = true → P.2.2.1 c = v → P.2.1 c ≤ st.1 c) : y_l P f v st = st := by
  have hw : ∀ c, y_w P f v st.1 c = 0 := by
    intro c
    unfold y_w
    split
    · next q => have := h c q.1 q.2.1 q.2.2; omega
    · rfl
  unfold y_l
  rw [sh_W0 (sm_0 (fun c _ => hw c))]
  refine Prod.ext (funext fun c => ?_) rfl
  show st.1 c + _ = st.1 c
  rw [sh_z _ _ _ (hw c)]
  rfl
theorem y_l_r0 {P : y_P} {f v : Nat} {st : y_S} (h : st.2 = 0) : y_l P f v st = st := by
  unfold y_l
  refine Prod.ext (funext fun c => ?_) ?_
  · show st.1 c + _ = st.1 c
    by_cases hc : c < P.1
    · rw [h, sh_0 hc]
      rfl
    · rw [sh_z]
      · rfl
      · exact if_neg (fun q => hc q.1)
  · show sh_r _ _ _ = st.2
    rw [h]
    exact sh_r0
theorem y_r_r0 {P : y_P} {f : Nat} : ∀ (n v : Nat) {st : y_S}, st.2 = 0 → y_r P f n v st = st
  | 0, _, _, _ => rfl
  | n + 1, v, st, h => by rw [y_r, y_l_r0 h, y_r_r0 n (v + 1) h]
theorem y_f_r0 {P : y_P} {f v : Nat} {st : y_S} (h : st.2 = 0) : y_f P f v st = st := y_r_r0 _ _ h
theorem y_skip {P : y_P} {f m : Nat} {st : y_S} : ∀ (n v : Nat), (∀ c, c < P.1 → P.2.2.2.1 f c = true → st.1 c < P.2.1 c → P.2.2.1 c < v ∨ v + n ≤ P.2.2.1 c) → y_r P f (n + m) v st = y_r P f m (v + n) st
  | 0, v, _ => by rw [Nat.zero_add, Nat.add_zero]
  | n + 1, v, h => by
    rw [show n + 1 + m = (n + m) + 1 by omega, y_r, y_l_0 (fun c h1 h2 h3 => ?_), y_skip n (v + 1) (fun c h1 h2 h3 => ?_), show v + 1 + n = v + (n + 1) by omega]
    · have := h c h1 h2 h3
      by_cases e : P.2.2.1 c < v + 1
      · exact Or.inl e
      · right
        omega
    · rcases Nat.lt_or_ge (st.1 c) (P.2.1 c) with q | q
      · have := h c h1 h2 q
        omega
      · exact q
theorem y_f_skip {P : y_P} {f v u : Nat} {st : y_S} (h1 : v ≤ u) (h2 : u ≤ y_M) (h : ∀ c, c < P.1 → P.2.2.2.1 f c = true → st.1 c < P.2.1 c → P.2.2.1 c < v ∨ u ≤ P.2.2.1 c) : y_f P f v st = y_f P f u st := by
  unfold y_f
  have := y_skip (P := P) (f := f) (m := y_M - u) (st := st) (u - v) v (fun c q1 q2 q3 => by have := h c q1 q2 q3; omega)
  rw [show u - v + (y_M - u) = y_M - v by omega, show v + (u - v) = u by omega] at this
  exact this
theorem y_f_end {P : y_P} {f v : Nat} {st : y_S} (h2 : v ≤ y_M) (h : ∀ c, c < P.1 → P.2.2.2.1 f c = true → st.1 c < P.2.1 c → P.2.2.1 c < v) : y_f P f v st = st := by
  rw [y_f_skip h2 (Nat.le_refl _) (fun c q1 q2 q3 => Or.inl (h c q1 q2 q3))]
  unfold y_f
  rw [Nat.sub_self]
  rfl
theorem y_f_step {P : y_P} {f v : Nat} {st : y_S} (h : v < y_M) : y_f P f v st = y_f P f (v + 1) (y_l P f v st) := by
  unfold y_f
  rw [show y_M - v = (y_M - (v + 1)) + 1 by omega, y_r]
theorem y_l_full {P : y_P} {f v : Nat} {st : y_S} (h : 0 < (y_l P f v st).2) : ∀ c, c < P.1 → P.2.2.2.1 f c = true → P.2.2.1 c = v → P.2.1 c ≤ (y_l P f v st).1 c := by
  intro c h1 h2 h3
  unfold y_l at h ⊢
  show _ ≤ st.1 c + sh st.2 P.1 (y_w P f v st.1) c
  have hW : sm P.1 (y_w P f v st.1) ≤ st.2 := by
    rcases Nat.lt_or_ge st.2 (sm P.1 (y_w P f v st.1)) with q | q
    · unfold sh_r at h
      rw [if_neg (by omega)] at h
      omega
    · exact q
  unfold sh
  rw [if_pos hW]
  unfold y_w
  rw [if_pos ⟨h1, h2, h3⟩]
  omega
