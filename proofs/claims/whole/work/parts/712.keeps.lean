/-- what paying a fund keeps -/
def y_R (P : y_P) (f : Nat) (st st' : y_S) : Prop := (∀ c, st.1 c ≤ st'.1 c) ∧ (∀ c, st.1 c ≤ P.2.1 c → st'.1 c ≤ P.2.1 c) ∧ (∀ c, P.2.2.2.1 f c = false → st'.1 c = st.1 c) ∧ (∀ c, P.1 ≤ c → st'.1 c = st.1 c) ∧ sm P.1 st'.1 + st'.2 = sm P.1 st.1 + st.2
theorem y_R.rf (P : y_P) (f : Nat) (st : y_S) : y_R P f st st := ⟨fun _ => Nat.le_refl _, fun _ h => h, fun _ _ => rfl, fun _ _ => rfl, rfl⟩
theorem y_R.tr {P : y_P} {f : Nat} {a b c : y_S} (h : y_R P f a b) (g : y_R P f b c) : y_R P f a c := ⟨fun i => Nat.le_trans (h.1 i) (g.1 i), fun i q => g.2.1 i (h.2.1 i q), fun i q => (g.2.2.1 i q).trans (h.2.2.1 i q), fun i q => (g.2.2.2.1 i q).trans (h.2.2.2.1 i q), g.2.2.2.2.trans h.2.2.2.2⟩
theorem y_l_R (P : y_P) (f v : Nat) (st : y_S) : y_R P f st (y_l P f v st) := by
  refine ⟨fun c => Nat.le_add_right _ _, fun c h => ?_, fun c h => ?_, fun c h => ?_, ?_⟩
  · show st.1 c + sh st.2 P.1 (y_w P f v st.1) c ≤ _
    have h1 := sh_le st.2 P.1 (y_w P f v st.1) c
    have h2 : y_w P f v st.1 c ≤ P.2.1 c - st.1 c := by
      unfold y_w
      split <;> omega
    omega
  · show st.1 c + sh st.2 P.1 (y_w P f v st.1) c = _
    rw [sh_z]
    · rfl
    · exact if_neg (fun q => by rw [h] at q; exact absurd q.2.1 (by decide))
  · show st.1 c + sh st.2 P.1 (y_w P f v st.1) c = _
    rw [sh_z]
    · rfl
    · exact if_neg (fun q => by omega)
  · show sm P.1 (fun c => st.1 c + sh st.2 P.1 (y_w P f v st.1) c) + sh_r st.2 P.1 (y_w P f v st.1) = _
    rw [sm_add]
    have := sh_sum st.2 P.1 (y_w P f v st.1)
    omega
theorem y_r_R (P : y_P) (f : Nat) : ∀ (n v : Nat) (st : y_S), y_R P f st (y_r P f n v st)
  | 0, _, st => y_R.rf P f st
  | n + 1, v, st => (y_l_R P f v st).tr (y_r_R P f n (v + 1) _)
theorem y_f_R (P : y_P) (f v : Nat) (st : y_S) : y_R P f st (y_f P f v st) := y_r_R P f _ v st
