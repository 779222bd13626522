/-! PURE: step -/
def t_fs (P : y_P) (f e m : Nat) : Bool := (List.range m).all (fun k => !(P.2.2.2.1 f k && decide (P.2.2.1 k = P.2.2.1 e)))
theorem t_fs_s (P : y_P) (f e m : Nat) : t_fs P f e (m + 1) = (t_fs P f e m && !(P.2.2.2.1 f m && decide (P.2.2.1 m = P.2.2.1 e))) := by
  unfold t_fs
  rw [List.range_succ, List.all_append]
  simp
theorem t_fs_iff {P : y_P} {f e m : Nat} : t_fs P f e m = true ↔ ∀ k, k < m → P.2.2.2.1 f k = true → P.2.2.1 k ≠ P.2.2.1 e := by
  unfold t_fs
  rw [List.all_eq_true]
  constructor
  · intro h k hk h1 h2
    have := h k (List.mem_range.mpr hk)
    rw [h1, decide_eq_true h2] at this
    cases this
  · intro h k hk
    have := h k (List.mem_range.mp hk)
    cases h1 : P.2.2.2.1 f k with
    | false => rfl
    | true =>
      rw [decide_eq_false (this h1)]
      rfl
/-- the first of its standing, below v -/
def t_g (P : y_P) (f v e : Nat) : Nat := if (P.2.2.2.1 f e && decide (P.2.2.1 e < v) && t_fs P f e e) = true then 1 else 0
def t_G (P : y_P) (f v : Nat) : Nat := sm P.1 (t_g P f v)
theorem t_one {P : y_P} {f b c : Nat} (hc : c < P.1) (h1 : P.2.2.2.1 f c = true) (h2 : P.2.2.1 c = b) : sm P.1 (fun e => if (P.2.2.2.1 f e && decide (P.2.2.1 e = b) && t_fs P f e e) = true then 1 else 0) = 1 := by
  have least : ∀ m, m ≤ P.1 → (∃ e, e < m ∧ P.2.2.2.1 f e = true ∧ P.2.2.1 e = b) → ∃ e, e < m ∧ P.2.2.2.1 f e = true ∧ P.2.2.1 e = b ∧ ∀ k, k < e → P.2.2.2.1 f k = true → P.2.2.1 k ≠ b := by
    intro m
    induction m with
    | zero => rintro _ ⟨e, he, _⟩; omega
    | succ m ih =>
      rintro hm ⟨e, he, e1, e2⟩
      by_cases q : ∃ e, e < m ∧ P.2.2.2.1 f e = true ∧ P.2.2.1 e = b
      · obtain ⟨k, k1, k2⟩ := ih (by omega) q
        exact ⟨k, by omega, k2⟩
      · exact ⟨e, he, e1, e2, fun k hk k1 k2 => q ⟨k, by omega, k1, k2⟩⟩
  obtain ⟨e0, q1, q2, q3, q4⟩ := least P.1 (Nat.le_refl _) ⟨c, hc, h1, h2⟩
  rw [sm_up q1, sm_0]
  · rw [if_pos]
    rw [Bool.and_eq_true, Bool.and_eq_true]
    exact ⟨⟨q2, decide_eq_true q3⟩, t_fs_iff.mpr (fun k hk k1 => by rw [q3]; exact q4 k hk k1)⟩
  · intro e he
    show (if e = e0 then 0 else (if (P.2.2.2.1 f e && decide (P.2.2.1 e = b) && t_fs P f e e) = true then 1 else 0)) = 0
    by_cases z : e = e0
    · rw [if_pos z]
    · rw [if_neg z, if_neg]
      intro y
      rw [Bool.and_eq_true, Bool.and_eq_true] at y
      obtain ⟨⟨y1, y2⟩, y3⟩ := y
      have y2 := of_decide_eq_true y2
      rcases Nat.lt_trichotomy e e0 with z1 | z1 | z1
      · exact q4 e z1 y1 y2
      · exact z z1
      · exact t_fs_iff.mp y3 e0 z1 q2 (by rw [q3, y2])
theorem t_G_next {P : y_P} {f b v c : Nat} (hc : c < P.1) (h1 : P.2.2.2.1 f c = true) (h2 : P.2.2.1 c = b) (hbv : b < v) (hno : ∀ e, e < P.1 → P.2.2.2.1 f e = true → P.2.2.1 e < v → P.2.2.1 e ≤ b) : t_G P f v = t_G P f b + 1 := by
  unfold t_G
  rw [← t_one hc h1 h2, ← sm_add]
  apply sm_cg
  intro e he
  unfold t_g
  show (if (P.2.2.2.1 f e && decide (P.2.2.1 e < v) && t_fs P f e e) = true then 1 else 0) = (if (P.2.2.2.1 f e && decide (P.2.2.1 e < b) && t_fs P f e e) = true then 1 else 0) + (if (P.2.2.2.1 f e && decide (P.2.2.1 e = b) && t_fs P f e e) = true then 1 else 0)
  cases ht : P.2.2.2.1 f e with
  | false => rfl
  | true =>
    cases hf : t_fs P f e e with
    | false => simp
    | true =>
      simp only [Bool.true_and, Bool.and_true, decide_eq_true_eq]
      have := hno e he ht
      by_cases z1 : P.2.2.1 e < b
      · rw [if_pos (by omega), if_pos z1, if_neg (by omega)]
      · by_cases z2 : P.2.2.1 e = b
        · rw [if_pos (by omega), if_neg z1, if_pos z2]
        · rw [if_neg (by omega), if_neg z1, if_neg z2]
theorem t_G_0 {P : y_P} {f v : Nat} (hno : ∀ e, e < P.1 → P.2.2.2.1 f e = true → ¬ P.2.2.1 e < v) : t_G P f v = 0 := by
  refine sm_0 (fun e he => ?_)
  unfold t_g
  rw [if_neg]
  intro y
  rw [Bool.and_eq_true, Bool.and_eq_true] at y
  exact hno e he y.1.1 (of_decide_eq_true y.1.2)
theorem t_G_le (P : y_P) (f v : Nat) : t_G P f v ≤ P.1 := by
  have h : t_G P f v ≤ P.1 * 1 := sm_bd (fun e _ => by unfold t_g; split <;> omega)
  omega
/-- what the class has counted so far -/
def t_st (P : y_P) (f : Nat) (o : Option Nat) : Int32 × Int32 := match o with
  | none => (-1, -1)
  | some b => (nI (t_G P f b), nI b)
theorem p_stepOf {μ : z_M} {Q : y_Q} {L : Nat → Nat} {ln f c : Nat} (hw : w_Q Q) (hp : c_pay μ Q Q.1 L ln) (hf : f < 5) (hc : c < Q.1) : f_X2_stepOf (nI f) (nI c) μ = some (if (y_p Q).2.2.2.1 f c = true then nI (t_G (y_p Q) f (Q.2.2.1 c)) else -1, μ) := by
  have hN : z_N = 5000 := rfl
  have h14 := hw.1
  obtain ⟨p1, p2, p3, p4, q1, q2, q3, q4⟩ := hp
  have hth : ∀ i, i < ln → (y_p Q).2.2.2.1 f (L i) = Q.2.2.2.2.1 f (L i) := fun i hi => by
    show (Q.2.2.2.1 (L i) && Q.2.2.2.2.1 f (L i)) = _
    rw [(q2 i hi).2]
    rfl
  have inj : ∀ i j, i < ln → j < ln → L i = L j → i = j := by
    intro i j hi hj e
    rcases Nat.lt_trichotomy i j with q | q | q
    · have := q4 i j q hj
      rw [e] at this
      omega
    · exact q
    · have := q4 j i q hi
      rw [e] at this
      omega
  have key : ∀ m i fu o, i + m = ln → m < fu → (∀ j, j < i → (y_p Q).2.2.2.1 f (L j) = true → L j ≠ c) → (match o with
      | none => ∀ j, j < i → ¬ (y_p Q).2.2.2.1 f (L j) = true
      | some b => (∃ j, j < i ∧ (y_p Q).2.2.2.1 f (L j) = true ∧ Q.2.2.1 (L j) = b) ∧ ∀ j, j < i → (y_p Q).2.2.2.1 f (L j) = true → Q.2.2.1 (L j) ≤ b) → g_X2_stepOf_8 fu (nI f) (nI c) (t_st (y_p Q) f o).1 (t_st (y_p Q) f o).2 (nI i) μ = some (if (y_p Q).2.2.2.1 f c = true then nI (t_G (y_p Q) f (Q.2.2.1 c)) else -1, μ) := by
    intro m
    induction m with
    | zero =>
      intro i fu o hi hfu hnot ho
      obtain ⟨fu, rfl⟩ : ∃ q, fu = q + 1 := ⟨fu - 1, by omega⟩
      have ei : i = ln := by omega
      subst ei
      rw [g_X2_stepOf_8]
      rw [p1, if_pos (nI_le (Nat.le_refl _) (by omega)), if_neg]
      intro z
      have hal : Q.2.2.2.1 c = true := by
        have : (Q.2.2.2.1 c && Q.2.2.2.2.1 f c) = true := z
        rw [Bool.and_eq_true] at this
        exact this.1
      obtain ⟨j, hj, ej⟩ := q3 c hc hal
      exact hnot j hj (by rw [ej]; exact z) ej
    | succ m ih =>
      intro i fu o hi hfu hnot ho
      obtain ⟨fu, rfl⟩ : ∃ q, fu = q + 1 := ⟨fu - 1, by omega⟩
      have hil : i < ln := by omega
      obtain ⟨hL, hal⟩ := q2 i hil
      obtain ⟨M, hM, eM, bM⟩ := (p4 _ hL).2.1
      have SL := (hw.2.1 _ hL).2
      have eb : (if M.testBit f = true then (1 : Int32) else 0) = if (y_p Q).2.2.2.1 f (L i) = true then 1 else 0 := by rw [bM f hf, hth i hil]
      rw [g_X2_stepOf_8]
      rw [p1, if_neg (nI_ge (by omega) (by omega))]
      unfold g_X2_stepOf_65
      simp only [if_pos (p_zn (n := i) (N := 14) (by omega) (by decide)), nI_clamp (show i < 2 ^ 31 by omega), p3 i hil, if_pos (p_zn (n := L i) (N := 14) (by omega) (by decide)), nI_clamp (show L i < 2 ^ 31 by omega), eM, p_bitE, p_bitN M hM f hf, eb, z_b2_s, z_lt_s, (p4 _ hL).1, nI_1]
      by_cases hr : (y_p Q).2.2.2.1 f (L i) = true
      case neg =>
        rw [if_neg hr, if_neg (show ¬ (0 : Int32) = 1 by decide)]
        refine ih (i + 1) fu o (by omega) (by omega) (fun j hj hjr => ?_) ?_
        · by_cases e : j = i
          · rw [e] at hjr
            exact absurd hjr hr
          · exact hnot j (by omega) hjr
        · cases o with
          | none =>
            intro j hj
            by_cases e : j = i
            · rw [e]
              exact hr
            · exact ho j (by omega)
          | some b =>
            obtain ⟨⟨j, j1, j2, j3⟩, ho2⟩ := ho
            refine ⟨⟨j, by omega, j2, j3⟩, fun k hk hkr => ?_⟩
            by_cases e : k = i
            · rw [e] at hkr
              exact absurd hkr hr
            · exact ho2 k (by omega) hkr
      case pos =>
        rw [if_pos hr, if_pos (show (1 : Int32) = 1 from rfl)]
        have hcq : nI (L i) = nI c ↔ L i = c := nI_eq (by omega) (by omega)
        -- the new state
        have new : (if nI (Q.2.2.1 (L i)) = (t_st (y_p Q) f o).2 then (t_st (y_p Q) f o).1 else (t_st (y_p Q) f o).1 + 1) = nI (t_G (y_p Q) f (Q.2.2.1 (L i))) := by
          have ge : ∀ e, e < Q.1 → (y_p Q).2.2.2.1 f e = true → Q.2.2.1 e < Q.2.2.1 (L i) → ∃ j, j < i ∧ (y_p Q).2.2.2.1 f (L j) = true ∧ L j = e := by
            intro e he h1 h2
            have hal : Q.2.2.2.1 e = true := by
              have : (Q.2.2.2.1 e && Q.2.2.2.2.1 f e) = true := h1
              rw [Bool.and_eq_true] at this
              exact this.1
            obtain ⟨j, hj, ej⟩ := q3 e he hal
            refine ⟨j, ?_, by rw [ej]; exact h1, ej⟩
            rcases Nat.lt_or_ge j i with z | z
            · exact z
            · exfalso
              by_cases e2 : j = i
              · rw [← e2, ej] at h2
                omega
              · have := q4 i j (by omega) hj
                rw [ej] at this
                omega
          cases o with
          | none =>
            rw [show t_st (y_p Q) f none = (-1, -1) from rfl]
            rw [if_neg (show ¬ nI (Q.2.2.1 (L i)) = -1 from fun z => by
              have := congrArg Int32.toInt z
              rw [nI_toInt (by omega), p_zm1] at this
              omega), t_G_0 (fun e he h1 h2 => by
              obtain ⟨j, j1, j2, j3⟩ := ge e he h1 h2
              exact ho j j1 j2)]
            decide
          | some b =>
            obtain ⟨⟨j, j1, j2, j3⟩, ho2⟩ := ho
            have hjl := (q2 j (by omega)).1
            have Sb := (hw.2.1 _ hjl).2
            rw [show t_st (y_p Q) f (some b) = (nI (t_G (y_p Q) f b), nI b) from rfl]
            show (if nI (Q.2.2.1 (L i)) = nI b then nI (t_G (y_p Q) f b) else nI (t_G (y_p Q) f b) + 1) = _
            by_cases z : Q.2.2.1 (L i) = b
            · rw [if_pos (by rw [z]), z]
            · rw [if_neg (fun y => z ((nI_eq (by omega) (by omega)).mp y)), nI_1, t_G_next (P := y_p Q) (v := Q.2.2.1 (L i)) (c := L j) (b := b) hjl j2 j3 (by
                have := q4 j i j1 hil
                omega) (fun e he h1 h2 => by
                obtain ⟨k, k1, k2, k3⟩ := ge e he h1 h2
                have := ho2 k k1 k2
                rw [k3] at this
                exact this)]
        have old : ∀ x3 x4 : Int32, x3 = nI (t_G (y_p Q) f (Q.2.2.1 (L i))) → x4 = nI (Q.2.2.1 (L i)) → (if nI (L i) = nI c then some (x3, μ) else g_X2_stepOf_8 fu (nI f) (nI c) x3 x4 (nI (i + 1)) μ) = some (if (y_p Q).2.2.2.1 f c = true then nI (t_G (y_p Q) f (Q.2.2.1 c)) else -1, μ) := by
          intro x3 x4 e3 e4
          by_cases z : L i = c
          · rw [if_pos (hcq.mpr z), e3, ← z, if_pos hr]
          · rw [if_neg (fun y => z (hcq.mp y)), e3, e4]
            refine ih (i + 1) fu (some (Q.2.2.1 (L i))) (by omega) (by omega) (fun j hj hjr => ?_) ⟨⟨i, by omega, hr, rfl⟩, fun j hj hjr => ?_⟩
            · by_cases e : j = i
              · rw [e]
                exact z
              · exact hnot j (by omega) hjr
            · by_cases e : j = i
              · rw [e]
                exact Nat.le_refl _
              · have := q4 j i (by omega) hil
                omega
        by_cases z : nI (Q.2.2.1 (L i)) = (t_st (y_p Q) f o).2
        · rw [if_pos z] at new ⊢
          exact old _ _ new z.symm
        · rw [if_neg z] at new ⊢
          exact old _ _ new rfl
  unfold f_X2_stepOf
  have y := key ln 0 z_N none (by omega) (by omega) (fun j hj => by omega) (fun j hj => by omega)
  rw [nI_0] at y
  exact y
