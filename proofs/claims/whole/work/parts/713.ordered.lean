/-! an order of the funds -/
noncomputable def y_pf (P : y_P) (f : Nat) (p : Nat → Nat) : y_S := y_f P f 0 (p, P.2.2.2.2.1 f)
noncomputable def y_pa (P : y_P) (o : Nat → Nat) : Nat → Nat → Nat
  | 0 => fun _ => 0
  | i + 1 => (y_pf P (o i) (y_pa P o i)).1
noncomputable def y_re (P : y_P) (o : Nat → Nat) (i : Nat) : Nat := (y_pf P (o i) (y_pa P o i)).2
noncomputable def y_rs (P : y_P) (o : Nat → Nat) : Nat → Nat → Nat
  | 0, f => P.2.2.2.2.1 f
  | i + 1, f => if o i = f then y_re P o i else y_rs P o i f
noncomputable def y_T (P : y_P) (o : Nat → Nat) : Nat := sm P.1 (y_pa P o 5)
theorem y_pa_cg {P : y_P} {o o' : Nat → Nat} : ∀ i, (∀ j, j < i → o j = o' j) → y_pa P o i = y_pa P o' i
  | 0, _ => rfl
  | i + 1, h => by rw [y_pa, y_pa, y_pa_cg i (fun j hj => h j (by omega)), h i (by omega)]
theorem y_re_cg {P : y_P} {o o' : Nat → Nat} (i : Nat) (h : ∀ j, j < i + 1 → o j = o' j) : y_re P o i = y_re P o' i := by
  unfold y_re
  rw [y_pa_cg i (fun j hj => h j (by omega)), h i (by omega)]
theorem y_rs_cg {P : y_P} {o o' : Nat → Nat} (f : Nat) : ∀ i, (∀ j, j < i → o j = o' j) → y_rs P o i f = y_rs P o' i f
  | 0, _ => rfl
  | i + 1, h => by rw [y_rs, y_rs, y_rs_cg f i (fun j hj => h j (by omega)), y_re_cg i h, h i (by omega)]
theorem y_pa_R (P : y_P) (o : Nat → Nat) (i : Nat) : y_R P (o i) (y_pa P o i, P.2.2.2.2.1 (o i)) (y_pa P o (i + 1), y_re P o i) := by
  have h := y_f_R P (o i) 0 (y_pa P o i, P.2.2.2.2.1 (o i))
  have e1 : y_pa P o (i + 1) = (y_pf P (o i) (y_pa P o i)).1 := by rw [y_pa]
  have e2 : y_re P o i = (y_pf P (o i) (y_pa P o i)).2 := by unfold y_re; rfl
  have e3 : y_pf P (o i) (y_pa P o i) = y_f P (o i) 0 (y_pa P o i, P.2.2.2.2.1 (o i)) := by unfold y_pf; rfl
  rw [e1, e2, e3]
  generalize y_f P (o i) 0 (y_pa P o i, P.2.2.2.2.1 (o i)) = q at h ⊢
  exact h
theorem y_pa_le (P : y_P) (o : Nat → Nat) : ∀ i c, y_pa P o i c ≤ P.2.1 c
  | 0, c => Nat.zero_le _
  | i + 1, c => (y_pa_R P o i).2.1 c (y_pa_le P o i c)
theorem y_pa_sum (P : y_P) (o : Nat → Nat) (i : Nat) : sm P.1 (y_pa P o (i + 1)) + y_re P o i = sm P.1 (y_pa P o i) + P.2.2.2.2.1 (o i) := (y_pa_R P o i).2.2.2.2
theorem y_re_le (P : y_P) (o : Nat → Nat) (i : Nat) : y_re P o i ≤ P.2.2.2.2.1 (o i) := by
  have h := y_pa_sum P o i
  have := sm_le (f := y_pa P o i) (g := y_pa P o (i + 1)) (n := P.1) (fun c _ => (y_pa_R P o i).1 c)
  omega
theorem y_pa_N (P : y_P) (o : Nat → Nat) : ∀ i c, P.1 ≤ c → y_pa P o i c = 0
  | 0, _, _ => rfl
  | i + 1, c, h => ((y_pa_R P o i).2.2.2.1 c h).trans (y_pa_N P o i c h)
theorem y_rs_le (P : y_P) (o : Nat → Nat) (f : Nat) : ∀ i, y_rs P o i f ≤ P.2.2.2.2.1 f
  | 0 => Nat.le_refl _
  | i + 1 => by
    rw [y_rs]
    split
    · next h =>
      rw [← h]
      exact y_re_le P o i
    · exact y_rs_le P o f i
/-- whatever set of funds is emptied -/
theorem y_bound (P : y_P) (o : Nat → Nat) (E : Nat → Bool) (a : Nat → Bool) (ho : ∀ j, j < 5 → o j < 5) (hi : ∀ i j, i < 5 → j < 5 → o i = o j → i = j) (hs : ∀ f, f < 5 → ∃ j, j < 5 ∧ o j = f) (ha : ∀ c, c < P.1 → ∀ f, f < 5 → E f = false → P.2.2.2.1 f c = true → a c = true) : y_T P o ≤ sm P.1 (fun c => if a c = true then P.2.1 c else 0) + sm 5 (fun f => if E f = true then P.2.2.2.2.1 f else 0) := by
  have key : ∀ i, i ≤ 5 → sm P.1 (fun c => if a c = true then 0 else y_pa P o i c) ≤ sm i (fun j => if E (o j) = true then P.2.2.2.2.1 (o j) else 0) := by
    intro i
    induction i with
    | zero =>
      intro _
      rw [sm_0]
      · exact Nat.zero_le _
      · intro c _
        split <;> rfl
    | succ i ih =>
      intro h5
      have h1 := ih (by omega)
      have hR := y_pa_R P o i
      rw [sm]
      by_cases e : E (o i) = true
      · rw [if_pos e]
        have hsum := y_pa_sum P o i
        have s1 : sm P.1 (y_pa P o (i + 1)) = sm P.1 (fun c => (if a c = true then 0 else y_pa P o (i + 1) c) + (if a c = true then y_pa P o (i + 1) c else 0)) := sm_cg (fun c _ => by split <;> omega)
        have s2 : sm P.1 (y_pa P o i) = sm P.1 (fun c => (if a c = true then 0 else y_pa P o i c) + (if a c = true then y_pa P o i c else 0)) := sm_cg (fun c _ => by split <;> omega)
        rw [sm_add] at s1 s2
        have s3 : sm P.1 (fun c => if a c = true then y_pa P o i c else 0) ≤ sm P.1 (fun c => if a c = true then y_pa P o (i + 1) c else 0) := sm_le (fun c _ => by
          have := hR.1 c
          split
          · exact this
          · exact Nat.le_refl _)
        omega
      · rw [if_neg e, Nat.add_zero]
        refine Nat.le_trans (Nat.le_of_eq (sm_cg (fun c hc => ?_))) h1
        by_cases q : a c = true
        · rw [if_pos q, if_pos q]
        · rw [if_neg q, if_neg q]
          apply hR.2.2.1 c
          cases hth : P.2.2.2.1 (o i) c with
          | false => rfl
          | true => exact absurd (ha c hc (o i) (ho i (by omega)) (by simpa using e) hth) q
  have h5 := key 5 (Nat.le_refl _)
  rw [sm_perm (N := 5) o (n := 5) (h := fun f => if E f = true then P.2.2.2.2.1 f else 0) ho hi (fun c hc _ => hs c hc)] at h5
  have s1 : y_T P o = sm P.1 (fun c => (if a c = true then 0 else y_pa P o 5 c) + (if a c = true then y_pa P o 5 c else 0)) := sm_cg (fun c _ => by split <;> omega)
  rw [sm_add] at s1
  have s2 : sm P.1 (fun c => if a c = true then y_pa P o 5 c else 0) ≤ sm P.1 (fun c => if a c = true then P.2.1 c else 0) := sm_le (fun c _ => by
    have := y_pa_le P o 5 c
    split
    · exact this
    · exact Nat.le_refl _)
  omega
