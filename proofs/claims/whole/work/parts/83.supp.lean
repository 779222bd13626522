/-! PURE: the supposed ship; wake, best, buy -/
theorem w_up {s : a_S} (hs : w_ship s) {f j : Nat} {x : Int32} (hx : (f = 5 ∧ p_in x 0 999) ∨ (f = 6 ∧ p_in x 0 999) ∨ (f = 7 ∧ (x = 0 ∨ x = 1)) ∨ (f = 9 ∧ p_in x (-1) 999)) : w_ship (s.1, s.2.1, a_up s.2.2 f j x) := by
  have key : ∀ a k, a ≠ f → a_up s.2.2 f j x a k = s.2.2 a k := fun a k h => a_up_ne (fun q => h q.1)
  have kat : ∀ k, a_up s.2.2 f j x f k = if k = j then x else s.2.2 f k := by
    intro k
    by_cases e : k = j
    · rw [e, a_up_at, if_pos rfl]
    · rw [a_up_ne (fun q => e q.2), if_neg e]
  obtain ⟨w1, w2, w3, w4, w5, w6⟩ := hs
  have hf : f = 5 ∨ f = 6 ∨ f = 7 ∨ f = 9 := by omega
  have ne : ∀ a, (a = 1 ∨ a = 2 ∨ a = 3 ∨ a = 4 ∨ a = 8 ∨ a = 10 ∨ a = 11) → a ≠ f := by
    intro a h
    omega
  refine ⟨w1, w2, fun k hk => ?_, fun k hk => ?_, fun k hk => ?_, fun k hk => ?_⟩
  · show p_in (a_up s.2.2 f j x 1 k) 0 999 ∧ p_in (a_up s.2.2 f j x 2 k) 0 999
    rw [key 1 k (ne 1 (by omega)), key 2 k (ne 2 (by omega))]
    exact w3 k hk
  · obtain ⟨c3, c4, c5, c6, c7, c8, c9⟩ := w4 k hk
    show p_in (a_up s.2.2 f j x 3 k) 0 7 ∧ p_in (a_up s.2.2 f j x 4 k) 0 5 ∧ p_in (a_up s.2.2 f j x 5 k) 0 999 ∧ p_in (a_up s.2.2 f j x 6 k) 0 999 ∧ (a_up s.2.2 f j x 7 k = 0 ∨ a_up s.2.2 f j x 7 k = 1) ∧ p_in (a_up s.2.2 f j x 8 k) 0 7 ∧ p_in (a_up s.2.2 f j x 9 k) (-1) 999
    rw [key 3 k (ne 3 (by omega)), key 4 k (ne 4 (by omega)), key 8 k (ne 8 (by omega))]
    rcases hx with ⟨rfl, h⟩ | ⟨rfl, h⟩ | ⟨rfl, h⟩ | ⟨rfl, h⟩
    · rw [key 6 k (by decide), key 7 k (by decide), key 9 k (by decide), kat]
      refine ⟨c3, c4, ?_, c6, c7, c8, c9⟩
      split
      · exact h
      · exact c5
    · rw [key 5 k (by decide), key 7 k (by decide), key 9 k (by decide), kat]
      refine ⟨c3, c4, c5, ?_, c7, c8, c9⟩
      split
      · exact h
      · exact c6
    · rw [key 5 k (by decide), key 6 k (by decide), key 9 k (by decide), kat]
      refine ⟨c3, c4, c5, c6, ?_, c8, c9⟩
      split
      · exact h
      · exact c7
    · rw [key 5 k (by decide), key 6 k (by decide), key 7 k (by decide), kat]
      refine ⟨c3, c4, c5, c6, c7, c8, ?_⟩
      split
      · exact h
      · exact c9
  · show p_in (a_up s.2.2 f j x 10 k) 0 9999
    rw [key 10 k (ne 10 (by omega))]
    exact w5 k hk
  · show p_in (a_up s.2.2 f j x 11 k) 0 5
    rw [key 11 k (ne 11 (by omega))]
    exact w6 k hk
theorem k_bec {A : a_A} {μ : z_M} (hw : w_A A) (hC : InvC A μ) : ∃ μ', f_X3_become 15 4 μ = some μ' ∧ c_ship μ' 15 A.1 ∧ z_un scC μ μ' ∧ InvC A μ' := by
  obtain ⟨μ', e, b⟩ := p_become (μ := μ) (o := 15) (o1 := 4) (by omega)
  have hsc : ∀ a, a < 26 → 15 ≤ a → a ∈ scC := by decide
  have u : z_un scC μ μ' := ⟨fun a ha => b.2.2.1 a (by
    rcases Nat.lt_or_ge a 15 with q | q
    · exact Or.inl q
    · rcases Nat.lt_or_ge 25 a with q2 | q2
      · exact Or.inr q2
      · exact absurd (hsc a (by omega) q) ha), b.2.2.2⟩
  refine ⟨μ', e, b.ship hw.1 hC.1, u, hC.scr u ?_⟩
  rw [b.2.2.1 46 (by omega)]
  exact hC.2.2.2.2.2.2.2.2.2.2
theorem k_un {A : a_A} {μ μ' : z_M} (hC : InvC A μ) (a k : Nat) (x : Int32) (ha : a ∈ scC) (ha2 : a ≠ 46) (e : μ' = z_si μ a k x) : z_un scC μ μ' ∧ InvC A μ' := by
  subst e
  have u : z_un scC μ (z_si μ a k x) := (z_un.rf _ _).si ha _ _
  refine ⟨u, hC.scr u ?_⟩
  rw [p_si_ne (fun q => ha2 q.symm)]
  exact hC.2.2.2.2.2.2.2.2.2.2
theorem z_un.re {X : List Nat} {ν ν' : z_M} {a k : Nat} {x : Int32} (h : z_un X (z_si ν a k x) ν') (ha : a ∉ X) : z_un X ν (z_si ν' a k (ν.1 a k)) := by
  refine ⟨fun b hb => ?_, h.2⟩
  by_cases e : b = a
  · subst e
    funext i
    by_cases q : i = k
    · rw [q, p_si_at]
    · rw [p_si_nk q, h.1 b ha, p_si_nk q]
  · rw [p_si_ne e, h.1 b hb, p_si_ne e]
theorem m_ctx.up {ν : z_M} {n : Nat} {l : a_T} {s : a_S} {g : Nat → Bool} (h : m_ctx ν n l s g) (c f : Nat) (hcf : (c = 118 ∧ f = 5) ∨ (c = 120 ∧ f = 7) ∨ (c = 122 ∧ f = 9)) (j : Nat) (x : Int32) : m_ctx (z_si ν c j x) n l (s.1, s.2.1, a_up s.2.2 f j x) g := by
  have hm : (c, f) ∈ [(114, 1), (115, 2), (116, 3), (117, 4), (118, 5), (119, 6), (120, 7), (121, 8), (122, 9), (124, 10), (125, 11)] := by
    rcases hcf with ⟨rfl, rfl⟩ | ⟨rfl, rfl⟩ | ⟨rfl, rfl⟩ <;> decide
  have hc : ∀ a, (a < 114 ∨ a = 123) → a ≠ c := by
    intro a ha
    omega
  refine ⟨m_ship_upd j x c f hm h.1, ?_, ?_⟩
  · have h2 := h.2.1
    unfold m_law at h2 ⊢
    rw [p_si_ne (hc 99 (by decide)), p_si_ne (hc 100 (by decide)), p_si_ne (hc 101 (by decide)), p_si_ne (hc 102 (by decide)), p_si_ne (hc 113 (by decide)), p_si_ne (hc 103 (by decide)), p_si_ne (hc 104 (by decide))]
    exact h2
  · intro k hk
    rw [p_si_ne (hc 123 (by decide))]
    exact h.2.2 k hk
