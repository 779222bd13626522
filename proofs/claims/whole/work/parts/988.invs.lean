/-! PURE: the invariant past law -/
def a_lw (A : a_A) (f : Int32) (L : Nat → a_T) : a_A := (A.1, A.2.1, A.2.2.1, [], f, L)
theorem w_lw {A : a_A} (hw : w_A A) (f : Int32) {L : Nat → a_T} (hL : ∀ n, n < 4 → w_law (L n)) : w_A (a_lw A f L) := ⟨hw.1, hw.2.1, Nat.zero_le 240, fun x hx => (List.not_mem_nil hx).elim, hL⟩
theorem InvC.lw {A : a_A} {μ μ' : z_M} {f : Int32} {L : Nat → a_T} {o : Nat} (h : InvC A μ) (ho : 51 ≤ o ∧ o + 4 ≤ 75) (hh : ∀ i, i ≠ 2 → ¬ (o ≤ i ∧ i ≤ o + 4) → μ'.1 i = μ.1 i) (h21 : μ'.1 2 1 = 0) (hf : μ'.1 2 3 = f) (hl : c_laws μ' L) (h26 : μ'.2.2 26 = μ.2.2 26) (h39 : μ'.2.2 39 = μ.2.2 39) (hk : z_ok z_SH μ'.2.2) : InvC (a_lw A f L) μ' := by
  obtain ⟨i1, i2, i3, i4, i5, i6, r1, r2, r3, r4, r5⟩ := h
  refine ⟨i1.cg (fun i _ _ => hh i (by omega) (by omega)), fun i hi => ⟨?_, fun q => ((i2 i hi).2 q).cg (fun j _ _ => hh j (by omega) (by omega))⟩, h21, fun k hk => absurd hk (Nat.not_lt_zero k), hf, hl, hk, ?_, ?_, ?_, ?_⟩
  · rw [hh 27 (by omega) (by omega)]
    exact (i2 i hi).1
  · rw [h26]
    exact r2
  · rw [h39]
    exact r3
  · rw [hh 40 (by omega) (by omega)]
    exact r4
  · rw [hh 46 (by omega) (by omega)]
    exact r5
theorem InvM.lw {A : a_A} {ν ν' : z_M} {f : Int32} {L : Nat → a_T} (h : InvM A ν) (hh : ∀ i, 114 ≤ i → ν'.1 i = ν.1 i) (h24 : ν'.1 98 24 = ν.1 98 24) (h27 : ν'.1 98 27 = ν.1 98 27) (h13 : ν'.1 98 13 = 0) (hf : ν'.1 98 14 = f) (hl : ∀ n, n < 4 → m_law ν' n (L n)) : InvM (a_lw A f L) ν' := by
  obtain ⟨i1, i2, i3, i4, i5, i6, i7⟩ := h
  refine ⟨?_, ?_, ?_, h13, fun k hk => absurd hk (Nat.not_lt_zero k), hf, hl⟩
  · unfold m_ship at i1 ⊢
    simp only [h24, h27, hh 114 (by decide), hh 115 (by decide), hh 116 (by decide), hh 117 (by decide), hh 118 (by decide), hh 119 (by decide), hh 120 (by decide), hh 121 (by decide), hh 122 (by decide), hh 124 (by decide), hh 125 (by decide)]
    exact i1
  · rw [hh 123 (by decide)]
    exact i2
  · unfold m_img at i3 ⊢
    simp only [hh 134 (by decide), hh 135 (by decide)]
    exact i3
theorem z_LAWS_dj : ∀ a ∈ z_LAWS, ∀ b ∈ z_LAWS, a ≠ b → a + 4 < b ∨ b + 4 < a := by decide
