/-! THE LAW: rows of its script; what is asked of the functions (the steps); written by wip/whole/law.py -/
/-- the script stands outside the world: its number is 999 -/
def z_SC (E : z_E) (b Ls : Nat) (xs : Nat → Int32) : Prop := match E with
  | ((l, D, ad, dA, sh), p, e, R, s, m, args, below, meth, c, Q, A, kc, ks) => va_X b Ls xs s s.heap ∧ b < s.heap.size ∧ ¬ A b ∧ ad 999 = b
theorem z_gr.sc {E E' : z_E} {shs : List z_H} {a b q Ls : Nat} {xs : Nat → Int32} (g : z_gr E E' shs a b) (h : z_SC E q Ls xs) : z_SC E' q Ls xs := by
  obtain ⟨ad', ha, rfl⟩ := g
  obtain ⟨⟨l, D, ad, dA, sh⟩, p, e, R, s, m, args, below, meth, c, Q, A, kc, ks⟩ := E
  obtain ⟨h1, h2, h3, h4⟩ := h
  exact ⟨h1, h2, h3, (ha 999 (Or.inr (by decide))).trans h4⟩
section ZLaw
variable {E : z_E} {own : String} {cc : ByteArray} {nL d pc : Nat} {L : z_L} {st : List Value} {μ : z_M}
theorem j_sld (F : z_F E own cc nL d) {b Ls : Nat} {xs : Nat → Int32} (S : z_SC E b Ls xs) {i : Int32} (hin : vp_in i Ls) (hdg : decode cc pc = .ok (.iaload, 1)) (k : z_J E nL (pc + 1) L (.int (xs i.toNatClampNeg) :: st) μ) : z_J E nL pc L (.int i :: .ref 999 :: st) μ := by
  obtain ⟨⟨l, D, ad, dA, sh⟩, p, e, R, s, m, args, below, meth, c, Q, A, kc, ks⟩ := E
  obtain ⟨hx, hb, hml, hown, hts, hK, hD, hA, hX, hd1, hd2, hc1, hc2⟩ := F
  obtain ⟨h1, h2, h3, h4⟩ := S
  intro H locs ls hP hS hl
  have e1 : (Value.int i :: .ref 999 :: st).map (z_v ad) = .int i :: .ref b :: st.map (z_v ad) := by
    simp only [List.map_cons, z_v, h4]
  rw [e1]
  exact va_sld hx hb h1 h2 h3 hS hin hdg (k H locs ls hP hS hl)
theorem j_slenS (F : z_F E own cc nL d) {b Ls : Nat} {xs : Nat → Int32} (S : z_SC E b Ls xs) (hdg : decode cc pc = .ok (.arraylength, 1)) (k : z_J E nL (pc + 1) L (.int (Int32.ofNat Ls) :: st) μ) : z_J E nL pc L (.ref 999 :: st) μ := by
  obtain ⟨⟨l, D, ad, dA, sh⟩, p, e, R, s, m, args, below, meth, c, Q, A, kc, ks⟩ := E
  obtain ⟨hx, hb, hml, hown, hts, hK, hD, hA, hX, hd1, hd2, hc1, hc2⟩ := F
  obtain ⟨h1, h2, h3, h4⟩ := S
  intro H locs ls hP hS hl
  have e1 : (Value.ref 999 :: st).map (z_v ad) = .ref b :: st.map (z_v ad) := by
    simp only [List.map_cons, z_v, h4]
  rw [e1]
  exact va_slen hx hb h1 h2 h3 hS hdg (k H locs ls hP hS hl)
/-- the law's end -/
def z_LE (E : z_E) (b : Nat) : Prop := match E with
  | ((l, D, ad, dA, sh), p, e, R, s, m, args, below, meth, c, Q, A, kc, ks) => R = room_1 ∧ args = #[Value.ref b] ∧ Q = lw_Z below #[Value.ref b] s ∧ meth.sig.returnType = ret ∧ meth.locks = false ∧ (∀ q, A q → s.heap.size ≤ q)
theorem z_gr.le {E' : z_E} {shs : List z_H} {x y b : Nat} (g : z_gr E E' shs x y) (h : z_LE E b) : z_LE E' b := by
  obtain ⟨ad', ha, rfl⟩ := g
  obtain ⟨⟨l, D, ad, dA, sh⟩, p, e, R, s, m, args, below, meth, c, Q, A, kc, ks⟩ := E
  exact h
theorem j_lawret (F : z_F E own code nL d) {b : Nat} (Z : z_LE E b) (hdg : decode code pc = .ok (.ireturn, 1)) : z_J E nL pc L [.int 1] μ := by
  obtain ⟨⟨l, D, ad, dA, sh⟩, p, e, R, s, m, args, below, meth, c, Q, A, kc, ks⟩ := E
  obtain ⟨hx, hb, hml, hown, hts, hK, hD, hA, hX, hd1, hd2, hc1, hc2⟩ := F
  obtain ⟨rfl, rfl, rfl, hr, hlk, hq⟩ := Z
  intro H locs ls hP hS hl
  refine va_forget (fun q h => hq _ (hS.2.2 q h)) ?_
  refine W.widen (k := 600000) (n := 7302250) hc1 hc2 ?_
  exact lw_ret hx hb hr hlk hdg
end ZLaw
/-- feed: from any state of the invariant both answer, and alike -/
def zs_0 (Inv : z_M → Prop) : Prop := ∀ μ, Inv μ → ∀ (a0 : Int32) (a1 : Int64), ∃ (r : Int32) (μ1 μ2 : z_M), f_X4_feed a0 a1 μ = some (r, μ1) ∧ z_ok z_SH μ1.2.2 ∧ f_X5_feed a0 a1 μ1 = some (r, μ2) ∧ Inv μ2
/-- law: from any state of the invariant both answer, and alike -/
def zs_1 (Inv : z_M → Prop) : Prop := ∀ μ, Inv μ → ∀ (a0 : Int32), ∃ (r : Int32) (μ1 μ2 : z_M), f_X4_law a0 μ = some (r, μ1) ∧ z_ok z_SH μ1.2.2 ∧ f_X5_law a0 μ1 = some (r, μ2) ∧ Inv μ2
/-- fault: from any state of the invariant both answer, and alike -/
def zs_2 (Inv : z_M → Prop) : Prop := ∀ μ, Inv μ → ∃ (r : Int32) (μ1 μ2 : z_M), f_X4_fault  μ = some (r, μ1) ∧ z_ok z_SH μ1.2.2 ∧ f_X5_fault  μ1 = some (r, μ2) ∧ Inv μ2
/-- kind: from any state of the invariant both answer, and alike -/
def zs_3 (Inv : z_M → Prop) : Prop := ∀ μ, Inv μ → ∀ (a0 : Int32) (a1 : Int32) (a2 : Int32), ∃ (r : Int32) (μ1 μ2 : z_M), f_X4_kind a0 a1 a2 μ = some (r, μ1) ∧ z_ok z_SH μ1.2.2 ∧ f_X5_kind a0 a1 a2 μ1 = some (r, μ2) ∧ Inv μ2
/-- rule: from any state of the invariant both answer, and alike -/
def zs_4 (Inv : z_M → Prop) : Prop := ∀ μ, Inv μ → ∀ (a0 : Int32) (a1 : Int32), ∃ (r : Int32) (μ1 μ2 : z_M), f_X4_rule a0 a1 μ = some (r, μ1) ∧ z_ok z_SH μ1.2.2 ∧ f_X5_rule a0 a1 μ1 = some (r, μ2) ∧ Inv μ2
/-- goes: from any state of the invariant both answer, and alike -/
def zs_5 (Inv : z_M → Prop) : Prop := ∀ μ, Inv μ → ∀ (a0 : Int32) (a1 : Int32) (a2 : Int32), ∃ (r : Int32) (μ1 μ2 : z_M), f_X4_goes a0 a1 a2 μ = some (r, μ1) ∧ z_ok z_SH μ1.2.2 ∧ f_X5_goes a0 a1 a2 μ1 = some (r, μ2) ∧ Inv μ2
/-- voyage: from any state of the invariant both answer, and alike -/
def zs_6 (Inv : z_M → Prop) : Prop := ∀ μ, Inv μ → ∀ (a0 : Int32) (a1 : Int32), ∃ (r : Int32) (μ1 μ2 : z_M), f_X4_voyage a0 a1 μ = some (r, μ1) ∧ z_ok z_SH μ1.2.2 ∧ f_X5_voyage a0 a1 μ1 = some (r, μ2) ∧ Inv μ2
/-- claim: from any state of the invariant both answer, and alike -/
def zs_7 (Inv : z_M → Prop) : Prop := ∀ μ, Inv μ → ∀ (a0 : Int32) (a1 : Int32) (a2 : Int32) (a3 : Int32) (a4 : Int32) (a5 : Int32), (a4 = 0 ∨ a4 = 1) → ∃ (r : Int32) (μ1 μ2 : z_M), f_X4_claim a0 a1 a2 a3 a4 a5 μ = some (r, μ1) ∧ z_ok z_SH μ1.2.2 ∧ f_X5_claim a0 a1 a2 a3 a4 a5 μ1 = some (r, μ2) ∧ Inv μ2
/-- ask: from any state of the invariant both answer, and alike -/
def zs_8 (Inv : z_M → Prop) : Prop := ∀ μ, Inv μ → ∀ (a0 : Int32) (a1 : Int32), ∃ (r : Int32) (μ1 μ2 : z_M), f_X4_ask a0 a1 μ = some (r, μ1) ∧ z_ok z_SH μ1.2.2 ∧ f_X5_ask a0 a1 μ1 = some (r, μ2) ∧ Inv μ2
/-- fund: from any state of the invariant both answer, and alike -/
def zs_9 (Inv : z_M → Prop) : Prop := ∀ μ, Inv μ → ∀ (a0 : Int32) (a1 : Int32), ∃ (r : Int32) (μ1 μ2 : z_M), f_X4_fund a0 a1 μ = some (r, μ1) ∧ z_ok z_SH μ1.2.2 ∧ f_X5_fund a0 a1 μ1 = some (r, μ2) ∧ Inv μ2
/-- owner: from any state of the invariant both answer, and alike -/
def zs_10 (Inv : z_M → Prop) : Prop := ∀ μ, Inv μ → ∀ (a0 : Int32) (a1 : Int32), ∃ (r : Int32) (μ1 μ2 : z_M), f_X4_owner a0 a1 μ = some (r, μ1) ∧ z_ok z_SH μ1.2.2 ∧ f_X5_owner a0 a1 μ1 = some (r, μ2) ∧ Inv μ2
/-- pass: from any state of the invariant both answer, and alike -/
def zs_11 (Inv : z_M → Prop) : Prop := ∀ μ, Inv μ → ∀ (a0 : Int32) (a1 : Int32), ∃ (r : Int32) (μ1 μ2 : z_M), f_X4_pass a0 a1 μ = some (r, μ1) ∧ z_ok z_SH μ1.2.2 ∧ f_X5_pass a0 a1 μ1 = some (r, μ2) ∧ Inv μ2
/-- told: from any state of the invariant both answer, and alike -/
def zs_12 (Inv : z_M → Prop) : Prop := ∀ μ, Inv μ → ∀ (a0 : Int32) (a1 : Int32), ∃ (r : Int32) (μ1 μ2 : z_M), f_X4_told a0 a1 μ = some (r, μ1) ∧ z_ok z_SH μ1.2.2 ∧ f_X5_told a0 a1 μ1 = some (r, μ2) ∧ Inv μ2
/-- count: from any state of the invariant both answer, and alike -/
def zs_13 (Inv : z_M → Prop) : Prop := ∀ μ, Inv μ → ∀ (a0 : Int32), ∃ (r : Int32) (μ1 μ2 : z_M), f_X4_count a0 μ = some (r, μ1) ∧ z_ok z_SH μ1.2.2 ∧ f_X5_count a0 μ1 = some (r, μ2) ∧ Inv μ2
/-- lives: from any state of the invariant both answer, and alike -/
def zs_14 (Inv : z_M → Prop) : Prop := ∀ μ, Inv μ → ∀ (a0 : Int32) (a1 : Int32) (a2 : Int32), ∃ (r : Int32) (μ1 μ2 : z_M), f_X4_lives a0 a1 a2 μ = some (r, μ1) ∧ z_ok z_SH μ1.2.2 ∧ f_X5_lives a0 a1 a2 μ1 = some (r, μ2) ∧ Inv μ2
/-- last: from any state of the invariant both answer, and alike -/
def zs_15 (Inv : z_M → Prop) : Prop := ∀ μ, Inv μ → ∀ (a0 : Int32) (a1 : Int32), ∃ (r : Int32) (μ1 μ2 : z_M), f_X4_last a0 a1 μ = some (r, μ1) ∧ z_ok z_SH μ1.2.2 ∧ f_X5_last a0 a1 μ1 = some (r, μ2) ∧ Inv μ2
/-- ahead: from any state of the invariant both answer, and alike -/
def zs_16 (Inv : z_M → Prop) : Prop := ∀ μ, Inv μ → ∀ (a0 : Int32) (a1 : Int32) (a2 : Int32), ∃ (r : Int32) (μ1 μ2 : z_M), f_X4_ahead a0 a1 a2 μ = some (r, μ1) ∧ z_ok z_SH μ1.2.2 ∧ f_X5_ahead a0 a1 a2 μ1 = some (r, μ2) ∧ Inv μ2
/-- step: from any state of the invariant both answer, and alike -/
def zs_17 (Inv : z_M → Prop) : Prop := ∀ μ, Inv μ → ∀ (a0 : Int32) (a1 : Int32) (a2 : Int32) (a3 : Int32), ∃ (r : Int32) (μ1 μ2 : z_M), f_X4_step a0 a1 a2 a3 μ = some (r, μ1) ∧ z_ok z_SH μ1.2.2 ∧ f_X5_step a0 a1 a2 a3 μ1 = some (r, μ2) ∧ Inv μ2
/-- paid: from any state of the invariant both answer, and alike -/
def zs_18 (Inv : z_M → Prop) : Prop := ∀ μ, Inv μ → ∀ (a0 : Int32) (a1 : Int32) (a2 : Int32) (a3 : Int32), ∃ (r : Int32) (μ1 μ2 : z_M), f_X4_paid a0 a1 a2 a3 μ = some (r, μ1) ∧ z_ok z_SH μ1.2.2 ∧ f_X5_paid a0 a1 a2 a3 μ1 = some (r, μ2) ∧ Inv μ2
/-- left: from any state of the invariant both answer, and alike -/
def zs_19 (Inv : z_M → Prop) : Prop := ∀ μ, Inv μ → ∀ (a0 : Int32) (a1 : Int32) (a2 : Int32) (a3 : Int32), ∃ (r : Int32) (μ1 μ2 : z_M), f_X4_left a0 a1 a2 a3 μ = some (r, μ1) ∧ z_ok z_SH μ1.2.2 ∧ f_X5_left a0 a1 a2 a3 μ1 = some (r, μ2) ∧ Inv μ2
/-- has: from any state of the invariant both answer, and alike -/
def zs_20 (Inv : z_M → Prop) : Prop := ∀ μ, Inv μ → ∀ (a0 : Int32) (a1 : Int32) (a2 : Int32) (a3 : Int32), ∃ (r : Int32) (μ1 μ2 : z_M), f_X4_has a0 a1 a2 a3 μ = some (r, μ1) ∧ z_ok z_SH μ1.2.2 ∧ f_X5_has a0 a1 a2 a3 μ1 = some (r, μ2) ∧ Inv μ2
/-- order: from any state of the invariant both answer, and alike -/
def zs_21 (Inv : z_M → Prop) : Prop := ∀ μ, Inv μ → ∀ (a0 : Int32) (a1 : Int32) (a2 : Int32) (a3 : Int32), ∃ (r : Int32) (μ1 μ2 : z_M), f_X4_order a0 a1 a2 a3 μ = some (r, μ1) ∧ z_ok z_SH μ1.2.2 ∧ f_X5_order a0 a1 a2 a3 μ1 = some (r, μ2) ∧ Inv μ2
/-- back: from any state of the invariant both answer, and alike -/
def zs_22 (Inv : z_M → Prop) : Prop := ∀ μ, Inv μ → ∀ (a0 : Int32) (a1 : Int32) (a2 : Int32) (a3 : Int32) (a4 : Int32), ∃ (r : Int32) (μ1 μ2 : z_M), f_X4_back a0 a1 a2 a3 a4 μ = some (r, μ1) ∧ z_ok z_SH μ1.2.2 ∧ f_X5_back a0 a1 a2 a3 a4 μ1 = some (r, μ2) ∧ Inv μ2
/-- wake: from any state of the invariant both answer, and alike -/
def zs_23 (Inv : z_M → Prop) : Prop := ∀ μ, Inv μ → ∀ (a0 : Int32) (a1 : Int32) (a2 : Int32) (a3 : Int32) (a4 : Int32), ∃ (r : Int32) (μ1 μ2 : z_M), f_X4_wake a0 a1 a2 a3 a4 μ = some (r, μ1) ∧ z_ok z_SH μ1.2.2 ∧ f_X5_wake a0 a1 a2 a3 a4 μ1 = some (r, μ2) ∧ Inv μ2
/-- best: from any state of the invariant both answer, and alike -/
def zs_24 (Inv : z_M → Prop) : Prop := ∀ μ, Inv μ → ∀ (a0 : Int32) (a1 : Int32) (a2 : Int32) (a3 : Int32), ∃ (r : Int32) (μ1 μ2 : z_M), f_X4_best a0 a1 a2 a3 μ = some (r, μ1) ∧ z_ok z_SH μ1.2.2 ∧ f_X5_best a0 a1 a2 a3 μ1 = some (r, μ2) ∧ Inv μ2
/-- buy: from any state of the invariant both answer, and alike -/
def zs_25 (Inv : z_M → Prop) : Prop := ∀ μ, Inv μ → ∀ (a0 : Int32) (a1 : Int32) (a2 : Int32) (a3 : Int32) (a4 : Int32) (a5 : Int32), ∃ (r : Int32) (μ1 μ2 : z_M), f_X4_buy a0 a1 a2 a3 a4 a5 μ = some (r, μ1) ∧ z_ok z_SH μ1.2.2 ∧ f_X5_buy a0 a1 a2 a3 a4 a5 μ1 = some (r, μ2) ∧ Inv μ2
/-- clear: from any state of the invariant both answer, and alike -/
def zs_26 (Inv : z_M → Prop) : Prop := ∀ μ, Inv μ → ∀ (a0 : Int32) (a1 : Int32) (a2 : Int32) (a3 : Int32) (a4 : Int32), ∃ (r : Int32) (μ1 μ2 : z_M), f_X4_clear a0 a1 a2 a3 a4 μ = some (r, μ1) ∧ z_ok z_SH μ1.2.2 ∧ f_X5_clear a0 a1 a2 a3 a4 μ1 = some (r, μ2) ∧ Inv μ2
/-- more: from any state of the invariant both answer, and alike -/
def zs_27 (Inv : z_M → Prop) : Prop := ∀ μ, Inv μ → ∀ (a0 : Int32) (a1 : Int32) (a2 : Int32) (a3 : Int32) (a4 : Int32) (a5 : Int32) (a6 : Int32) (a7 : Int32) (a8 : Int32), ∃ (r : Int32) (μ1 μ2 : z_M), f_X4_more a0 a1 a2 a3 a4 a5 a6 a7 a8 μ = some (r, μ1) ∧ z_ok z_SH μ1.2.2 ∧ f_X5_more a0 a1 a2 a3 a4 a5 a6 a7 a8 μ1 = some (r, μ2) ∧ Inv μ2
/-- hang: from any state of the invariant both answer, and alike -/
def zs_28 (Inv : z_M → Prop) : Prop := ∀ μ, Inv μ → ∀ (a0 : Int32) (a1 : Int32) (a2 : Int32) (a3 : Int32) (a4 : Int32), ∃ (r : Int32) (μ1 μ2 : z_M), f_X4_hang a0 a1 a2 a3 a4 μ = some (r, μ1) ∧ z_ok z_SH μ1.2.2 ∧ f_X5_hang a0 a1 a2 a3 a4 μ1 = some (r, μ2) ∧ Inv μ2
/-- keep: from any state of the invariant both answer, and alike -/
def zs_29 (Inv : z_M → Prop) : Prop := ∀ μ, Inv μ → ∀ (a0 : Int32), ∃ (r : Int32) (μ1 μ2 : z_M), f_X4_keep a0 μ = some (r, μ1) ∧ z_ok z_SH μ1.2.2 ∧ f_X5_keep a0 μ1 = some (r, μ2) ∧ Inv μ2
/-- goBack: from any state of the invariant both answer, and alike -/
def zs_30 (Inv : z_M → Prop) : Prop := ∀ μ, Inv μ → ∀ (a0 : Int32), ∃ (r : Int32) (μ1 μ2 : z_M), f_X4_goBack a0 μ = some (r, μ1) ∧ z_ok z_SH μ1.2.2 ∧ f_X5_goBack a0 μ1 = some (r, μ2) ∧ Inv μ2
/-- all that is asked of the invariant, but its start -/
def zs_all (Inv : z_M → Prop) : Prop := (∀ μ, Inv μ → z_ok z_SH μ.2.2) ∧ zs_0 Inv ∧ zs_1 Inv ∧ zs_2 Inv ∧ zs_3 Inv ∧ zs_4 Inv ∧ zs_5 Inv ∧ zs_6 Inv ∧ zs_7 Inv ∧ zs_8 Inv ∧ zs_9 Inv ∧ zs_10 Inv ∧ zs_11 Inv ∧ zs_12 Inv ∧ zs_13 Inv ∧ zs_14 Inv ∧ zs_15 Inv ∧ zs_16 Inv ∧ zs_17 Inv ∧ zs_18 Inv ∧ zs_19 Inv ∧ zs_20 Inv ∧ zs_21 Inv ∧ zs_22 Inv ∧ zs_23 Inv ∧ zs_24 Inv ∧ zs_25 Inv ∧ zs_26 Inv ∧ zs_27 Inv ∧ zs_28 Inv ∧ zs_29 Inv ∧ zs_30 Inv
theorem m_374 : Cond.methodLink RL 15 yX4_feed ∈ z_T := z_T_in 374 (by decide +kernel) (by decide +kernel)
theorem m_375 : Cond.instanceMethod yX4_feed ∈ z_T := z_T_in 375 (by decide +kernel) (by decide +kernel)
theorem m_376 : Cond.selects RX4 yX4_feed yX4_feed ∈ z_T := z_T_in 376 (by decide +kernel) (by decide +kernel)
theorem m_377 : Cond.code yX4_feed cX4_feed 5 (some .int) ∈ z_T := z_T_in 377 (by decide +kernel) (by decide +kernel)
theorem m_382 : Cond.methodLink RL 20 yX4_law ∈ z_T := z_T_in 382 (by decide +kernel) (by decide +kernel)
theorem m_383 : Cond.instanceMethod yX4_law ∈ z_T := z_T_in 383 (by decide +kernel) (by decide +kernel)
theorem m_384 : Cond.selects RX4 yX4_law yX4_law ∈ z_T := z_T_in 384 (by decide +kernel) (by decide +kernel)
theorem m_385 : Cond.code yX4_law cX4_law 4 (some .int) ∈ z_T := z_T_in 385 (by decide +kernel) (by decide +kernel)
theorem m_555 : Cond.methodLink RL 25 yX4_fault ∈ z_T := z_T_in 555 (by decide +kernel) (by decide +kernel)
theorem m_556 : Cond.instanceMethod yX4_fault ∈ z_T := z_T_in 556 (by decide +kernel) (by decide +kernel)
theorem m_557 : Cond.selects RX4 yX4_fault yX4_fault ∈ z_T := z_T_in 557 (by decide +kernel) (by decide +kernel)
theorem m_558 : Cond.code yX4_fault cX4_fault 1 (some .int) ∈ z_T := z_T_in 558 (by decide +kernel) (by decide +kernel)
theorem m_559 : Cond.methodLink RL 30 yX4_kind ∈ z_T := z_T_in 559 (by decide +kernel) (by decide +kernel)
theorem m_560 : Cond.instanceMethod yX4_kind ∈ z_T := z_T_in 560 (by decide +kernel) (by decide +kernel)
theorem m_561 : Cond.selects RX4 yX4_kind yX4_kind ∈ z_T := z_T_in 561 (by decide +kernel) (by decide +kernel)
theorem m_562 : Cond.code yX4_kind cX4_kind 5 (some .int) ∈ z_T := z_T_in 562 (by decide +kernel) (by decide +kernel)
theorem m_567 : Cond.methodLink RL 35 yX4_rule ∈ z_T := z_T_in 567 (by decide +kernel) (by decide +kernel)
theorem m_568 : Cond.instanceMethod yX4_rule ∈ z_T := z_T_in 568 (by decide +kernel) (by decide +kernel)
theorem m_569 : Cond.selects RX4 yX4_rule yX4_rule ∈ z_T := z_T_in 569 (by decide +kernel) (by decide +kernel)
theorem m_570 : Cond.code yX4_rule cX4_rule 4 (some .int) ∈ z_T := z_T_in 570 (by decide +kernel) (by decide +kernel)
theorem m_571 : Cond.methodLink RL 40 yX4_goes ∈ z_T := z_T_in 571 (by decide +kernel) (by decide +kernel)
theorem m_572 : Cond.instanceMethod yX4_goes ∈ z_T := z_T_in 572 (by decide +kernel) (by decide +kernel)
theorem m_573 : Cond.selects RX4 yX4_goes yX4_goes ∈ z_T := z_T_in 573 (by decide +kernel) (by decide +kernel)
theorem m_574 : Cond.code yX4_goes cX4_goes 4 (some .int) ∈ z_T := z_T_in 574 (by decide +kernel) (by decide +kernel)
theorem m_575 : Cond.methodLink RL 44 yX4_voyage ∈ z_T := z_T_in 575 (by decide +kernel) (by decide +kernel)
theorem m_576 : Cond.instanceMethod yX4_voyage ∈ z_T := z_T_in 576 (by decide +kernel) (by decide +kernel)
theorem m_577 : Cond.selects RX4 yX4_voyage yX4_voyage ∈ z_T := z_T_in 577 (by decide +kernel) (by decide +kernel)
theorem m_578 : Cond.code yX4_voyage cX4_voyage 3 (some .int) ∈ z_T := z_T_in 578 (by decide +kernel) (by decide +kernel)
theorem m_590 : Cond.methodLink RL 48 yX4_claim ∈ z_T := z_T_in 590 (by decide +kernel) (by decide +kernel)
theorem m_591 : Cond.instanceMethod yX4_claim ∈ z_T := z_T_in 591 (by decide +kernel) (by decide +kernel)
theorem m_592 : Cond.selects RX4 yX4_claim yX4_claim ∈ z_T := z_T_in 592 (by decide +kernel) (by decide +kernel)
theorem m_593 : Cond.code yX4_claim cX4_claim 7 (some .int) ∈ z_T := z_T_in 593 (by decide +kernel) (by decide +kernel)
theorem m_601 : Cond.methodLink RL 53 yX4_ask ∈ z_T := z_T_in 601 (by decide +kernel) (by decide +kernel)
theorem m_602 : Cond.instanceMethod yX4_ask ∈ z_T := z_T_in 602 (by decide +kernel) (by decide +kernel)
theorem m_603 : Cond.selects RX4 yX4_ask yX4_ask ∈ z_T := z_T_in 603 (by decide +kernel) (by decide +kernel)
theorem m_604 : Cond.code yX4_ask cX4_ask 4 (some .int) ∈ z_T := z_T_in 604 (by decide +kernel) (by decide +kernel)
theorem m_609 : Cond.methodLink RL 57 yX4_fund ∈ z_T := z_T_in 609 (by decide +kernel) (by decide +kernel)
theorem m_610 : Cond.instanceMethod yX4_fund ∈ z_T := z_T_in 610 (by decide +kernel) (by decide +kernel)
theorem m_611 : Cond.selects RX4 yX4_fund yX4_fund ∈ z_T := z_T_in 611 (by decide +kernel) (by decide +kernel)
theorem m_612 : Cond.code yX4_fund cX4_fund 4 (some .int) ∈ z_T := z_T_in 612 (by decide +kernel) (by decide +kernel)
theorem m_616 : Cond.methodLink RL 61 yX4_owner ∈ z_T := z_T_in 616 (by decide +kernel) (by decide +kernel)
theorem m_617 : Cond.instanceMethod yX4_owner ∈ z_T := z_T_in 617 (by decide +kernel) (by decide +kernel)
theorem m_618 : Cond.selects RX4 yX4_owner yX4_owner ∈ z_T := z_T_in 618 (by decide +kernel) (by decide +kernel)
theorem m_619 : Cond.code yX4_owner cX4_owner 4 (some .int) ∈ z_T := z_T_in 619 (by decide +kernel) (by decide +kernel)
theorem m_623 : Cond.methodLink RL 65 yX4_pass ∈ z_T := z_T_in 623 (by decide +kernel) (by decide +kernel)
theorem m_624 : Cond.instanceMethod yX4_pass ∈ z_T := z_T_in 624 (by decide +kernel) (by decide +kernel)
theorem m_625 : Cond.selects RX4 yX4_pass yX4_pass ∈ z_T := z_T_in 625 (by decide +kernel) (by decide +kernel)
theorem m_626 : Cond.code yX4_pass cX4_pass 4 (some .int) ∈ z_T := z_T_in 626 (by decide +kernel) (by decide +kernel)
theorem m_627 : Cond.methodLink RL 69 yX4_told ∈ z_T := z_T_in 627 (by decide +kernel) (by decide +kernel)
theorem m_628 : Cond.instanceMethod yX4_told ∈ z_T := z_T_in 628 (by decide +kernel) (by decide +kernel)
theorem m_629 : Cond.selects RX4 yX4_told yX4_told ∈ z_T := z_T_in 629 (by decide +kernel) (by decide +kernel)
theorem m_630 : Cond.code yX4_told cX4_told 3 (some .int) ∈ z_T := z_T_in 630 (by decide +kernel) (by decide +kernel)
theorem m_635 : Cond.methodLink RL 73 yX4_count ∈ z_T := z_T_in 635 (by decide +kernel) (by decide +kernel)
theorem m_636 : Cond.instanceMethod yX4_count ∈ z_T := z_T_in 636 (by decide +kernel) (by decide +kernel)
theorem m_637 : Cond.selects RX4 yX4_count yX4_count ∈ z_T := z_T_in 637 (by decide +kernel) (by decide +kernel)
theorem m_638 : Cond.code yX4_count cX4_count 2 (some .int) ∈ z_T := z_T_in 638 (by decide +kernel) (by decide +kernel)
theorem m_642 : Cond.methodLink RL 77 yX4_lives ∈ z_T := z_T_in 642 (by decide +kernel) (by decide +kernel)
theorem m_643 : Cond.instanceMethod yX4_lives ∈ z_T := z_T_in 643 (by decide +kernel) (by decide +kernel)
theorem m_644 : Cond.selects RX4 yX4_lives yX4_lives ∈ z_T := z_T_in 644 (by decide +kernel) (by decide +kernel)
theorem m_645 : Cond.code yX4_lives cX4_lives 4 (some .int) ∈ z_T := z_T_in 645 (by decide +kernel) (by decide +kernel)
theorem m_662 : Cond.methodLink RL 81 yX4_last ∈ z_T := z_T_in 662 (by decide +kernel) (by decide +kernel)
theorem m_663 : Cond.instanceMethod yX4_last ∈ z_T := z_T_in 663 (by decide +kernel) (by decide +kernel)
theorem m_664 : Cond.selects RX4 yX4_last yX4_last ∈ z_T := z_T_in 664 (by decide +kernel) (by decide +kernel)
theorem m_665 : Cond.code yX4_last cX4_last 3 (some .int) ∈ z_T := z_T_in 665 (by decide +kernel) (by decide +kernel)
theorem m_671 : Cond.methodLink RL 85 yX4_ahead ∈ z_T := z_T_in 671 (by decide +kernel) (by decide +kernel)
theorem m_672 : Cond.instanceMethod yX4_ahead ∈ z_T := z_T_in 672 (by decide +kernel) (by decide +kernel)
theorem m_673 : Cond.selects RX4 yX4_ahead yX4_ahead ∈ z_T := z_T_in 673 (by decide +kernel) (by decide +kernel)
theorem m_674 : Cond.code yX4_ahead cX4_ahead 4 (some .int) ∈ z_T := z_T_in 674 (by decide +kernel) (by decide +kernel)
theorem m_687 : Cond.methodLink RL 89 yX4_step ∈ z_T := z_T_in 687 (by decide +kernel) (by decide +kernel)
theorem m_688 : Cond.instanceMethod yX4_step ∈ z_T := z_T_in 688 (by decide +kernel) (by decide +kernel)
theorem m_689 : Cond.selects RX4 yX4_step yX4_step ∈ z_T := z_T_in 689 (by decide +kernel) (by decide +kernel)
theorem m_690 : Cond.code yX4_step cX4_step 5 (some .int) ∈ z_T := z_T_in 690 (by decide +kernel) (by decide +kernel)
theorem m_710 : Cond.methodLink RL 94 yX4_paid ∈ z_T := z_T_in 710 (by decide +kernel) (by decide +kernel)
theorem m_711 : Cond.instanceMethod yX4_paid ∈ z_T := z_T_in 711 (by decide +kernel) (by decide +kernel)
theorem m_712 : Cond.selects RX4 yX4_paid yX4_paid ∈ z_T := z_T_in 712 (by decide +kernel) (by decide +kernel)
theorem m_713 : Cond.code yX4_paid cX4_paid 5 (some .int) ∈ z_T := z_T_in 713 (by decide +kernel) (by decide +kernel)
theorem m_766 : Cond.methodLink RL 98 yX4_left ∈ z_T := z_T_in 766 (by decide +kernel) (by decide +kernel)
theorem m_767 : Cond.instanceMethod yX4_left ∈ z_T := z_T_in 767 (by decide +kernel) (by decide +kernel)
theorem m_768 : Cond.selects RX4 yX4_left yX4_left ∈ z_T := z_T_in 768 (by decide +kernel) (by decide +kernel)
theorem m_769 : Cond.code yX4_left cX4_left 5 (some .int) ∈ z_T := z_T_in 769 (by decide +kernel) (by decide +kernel)
theorem m_770 : Cond.methodLink RL 102 yX4_has ∈ z_T := z_T_in 770 (by decide +kernel) (by decide +kernel)
theorem m_771 : Cond.instanceMethod yX4_has ∈ z_T := z_T_in 771 (by decide +kernel) (by decide +kernel)
theorem m_772 : Cond.selects RX4 yX4_has yX4_has ∈ z_T := z_T_in 772 (by decide +kernel) (by decide +kernel)
theorem m_773 : Cond.code yX4_has cX4_has 5 (some .int) ∈ z_T := z_T_in 773 (by decide +kernel) (by decide +kernel)
theorem m_782 : Cond.methodLink RL 106 yX4_order ∈ z_T := z_T_in 782 (by decide +kernel) (by decide +kernel)
theorem m_783 : Cond.instanceMethod yX4_order ∈ z_T := z_T_in 783 (by decide +kernel) (by decide +kernel)
theorem m_784 : Cond.selects RX4 yX4_order yX4_order ∈ z_T := z_T_in 784 (by decide +kernel) (by decide +kernel)
theorem m_785 : Cond.code yX4_order cX4_order 5 (some .int) ∈ z_T := z_T_in 785 (by decide +kernel) (by decide +kernel)
theorem m_786 : Cond.methodLink RL 110 yX4_back ∈ z_T := z_T_in 786 (by decide +kernel) (by decide +kernel)
theorem m_787 : Cond.instanceMethod yX4_back ∈ z_T := z_T_in 787 (by decide +kernel) (by decide +kernel)
theorem m_788 : Cond.selects RX4 yX4_back yX4_back ∈ z_T := z_T_in 788 (by decide +kernel) (by decide +kernel)
theorem m_789 : Cond.code yX4_back cX4_back 6 (some .int) ∈ z_T := z_T_in 789 (by decide +kernel) (by decide +kernel)
theorem m_798 : Cond.methodLink RL 115 yX4_wake ∈ z_T := z_T_in 798 (by decide +kernel) (by decide +kernel)
theorem m_799 : Cond.instanceMethod yX4_wake ∈ z_T := z_T_in 799 (by decide +kernel) (by decide +kernel)
theorem m_800 : Cond.selects RX4 yX4_wake yX4_wake ∈ z_T := z_T_in 800 (by decide +kernel) (by decide +kernel)
theorem m_801 : Cond.code yX4_wake cX4_wake 6 (some .int) ∈ z_T := z_T_in 801 (by decide +kernel) (by decide +kernel)
theorem m_807 : Cond.methodLink RL 119 yX4_best ∈ z_T := z_T_in 807 (by decide +kernel) (by decide +kernel)
theorem m_808 : Cond.instanceMethod yX4_best ∈ z_T := z_T_in 808 (by decide +kernel) (by decide +kernel)
theorem m_809 : Cond.selects RX4 yX4_best yX4_best ∈ z_T := z_T_in 809 (by decide +kernel) (by decide +kernel)
theorem m_810 : Cond.code yX4_best cX4_best 9 (some .int) ∈ z_T := z_T_in 810 (by decide +kernel) (by decide +kernel)
theorem m_811 : Cond.methodLink RL 123 yX4_buy ∈ z_T := z_T_in 811 (by decide +kernel) (by decide +kernel)
theorem m_812 : Cond.instanceMethod yX4_buy ∈ z_T := z_T_in 812 (by decide +kernel) (by decide +kernel)
theorem m_813 : Cond.selects RX4 yX4_buy yX4_buy ∈ z_T := z_T_in 813 (by decide +kernel) (by decide +kernel)
theorem m_814 : Cond.code yX4_buy cX4_buy 11 (some .int) ∈ z_T := z_T_in 814 (by decide +kernel) (by decide +kernel)
theorem m_815 : Cond.methodLink RL 128 yX4_clear ∈ z_T := z_T_in 815 (by decide +kernel) (by decide +kernel)
theorem m_816 : Cond.instanceMethod yX4_clear ∈ z_T := z_T_in 816 (by decide +kernel) (by decide +kernel)
theorem m_817 : Cond.selects RX4 yX4_clear yX4_clear ∈ z_T := z_T_in 817 (by decide +kernel) (by decide +kernel)
theorem m_818 : Cond.code yX4_clear cX4_clear 11 (some .int) ∈ z_T := z_T_in 818 (by decide +kernel) (by decide +kernel)
theorem m_827 : Cond.methodLink RL 132 yX4_more ∈ z_T := z_T_in 827 (by decide +kernel) (by decide +kernel)
theorem m_828 : Cond.instanceMethod yX4_more ∈ z_T := z_T_in 828 (by decide +kernel) (by decide +kernel)
theorem m_829 : Cond.selects RX4 yX4_more yX4_more ∈ z_T := z_T_in 829 (by decide +kernel) (by decide +kernel)
theorem m_830 : Cond.code yX4_more cX4_more 11 (some .int) ∈ z_T := z_T_in 830 (by decide +kernel) (by decide +kernel)
theorem m_847 : Cond.methodLink RL 137 yX4_hang ∈ z_T := z_T_in 847 (by decide +kernel) (by decide +kernel)
theorem m_848 : Cond.instanceMethod yX4_hang ∈ z_T := z_T_in 848 (by decide +kernel) (by decide +kernel)
theorem m_849 : Cond.selects RX4 yX4_hang yX4_hang ∈ z_T := z_T_in 849 (by decide +kernel) (by decide +kernel)
theorem m_850 : Cond.code yX4_hang cX4_hang 10 (some .int) ∈ z_T := z_T_in 850 (by decide +kernel) (by decide +kernel)
theorem m_858 : Cond.methodLink RL 141 yX4_keep ∈ z_T := z_T_in 858 (by decide +kernel) (by decide +kernel)
theorem m_859 : Cond.instanceMethod yX4_keep ∈ z_T := z_T_in 859 (by decide +kernel) (by decide +kernel)
theorem m_860 : Cond.selects RX4 yX4_keep yX4_keep ∈ z_T := z_T_in 860 (by decide +kernel) (by decide +kernel)
theorem m_861 : Cond.code yX4_keep cX4_keep 2 (some .int) ∈ z_T := z_T_in 861 (by decide +kernel) (by decide +kernel)
theorem m_865 : Cond.methodLink RL 145 yX4_goBack ∈ z_T := z_T_in 865 (by decide +kernel) (by decide +kernel)
theorem m_866 : Cond.instanceMethod yX4_goBack ∈ z_T := z_T_in 866 (by decide +kernel) (by decide +kernel)
theorem m_867 : Cond.selects RX4 yX4_goBack yX4_goBack ∈ z_T := z_T_in 867 (by decide +kernel) (by decide +kernel)
theorem m_868 : Cond.code yX4_goBack cX4_goBack 2 (some .int) ∈ z_T := z_T_in 868 (by decide +kernel) (by decide +kernel)
theorem m_1044 : Cond.methodLink RL 19 yX5_feed ∈ z_T := z_T_in 1044 (by decide +kernel) (by decide +kernel)
theorem m_1045 : Cond.instanceMethod yX5_feed ∈ z_T := z_T_in 1045 (by decide +kernel) (by decide +kernel)
theorem m_1046 : Cond.selects RX5 yX5_feed yX5_feed ∈ z_T := z_T_in 1046 (by decide +kernel) (by decide +kernel)
theorem m_1047 : Cond.code yX5_feed cX5_feed 5 (some .int) ∈ z_T := z_T_in 1047 (by decide +kernel) (by decide +kernel)
theorem m_1053 : Cond.methodLink RL 24 yX5_law ∈ z_T := z_T_in 1053 (by decide +kernel) (by decide +kernel)
theorem m_1054 : Cond.instanceMethod yX5_law ∈ z_T := z_T_in 1054 (by decide +kernel) (by decide +kernel)
theorem m_1055 : Cond.selects RX5 yX5_law yX5_law ∈ z_T := z_T_in 1055 (by decide +kernel) (by decide +kernel)
theorem m_1056 : Cond.code yX5_law cX5_law 4 (some .int) ∈ z_T := z_T_in 1056 (by decide +kernel) (by decide +kernel)
theorem m_1131 : Cond.methodLink RL 29 yX5_fault ∈ z_T := z_T_in 1131 (by decide +kernel) (by decide +kernel)
theorem m_1132 : Cond.instanceMethod yX5_fault ∈ z_T := z_T_in 1132 (by decide +kernel) (by decide +kernel)
theorem m_1133 : Cond.selects RX5 yX5_fault yX5_fault ∈ z_T := z_T_in 1133 (by decide +kernel) (by decide +kernel)
theorem m_1134 : Cond.code yX5_fault cX5_fault 1 (some .int) ∈ z_T := z_T_in 1134 (by decide +kernel) (by decide +kernel)
theorem m_1135 : Cond.methodLink RL 34 yX5_kind ∈ z_T := z_T_in 1135 (by decide +kernel) (by decide +kernel)
theorem m_1136 : Cond.instanceMethod yX5_kind ∈ z_T := z_T_in 1136 (by decide +kernel) (by decide +kernel)
theorem m_1137 : Cond.selects RX5 yX5_kind yX5_kind ∈ z_T := z_T_in 1137 (by decide +kernel) (by decide +kernel)
theorem m_1138 : Cond.code yX5_kind cX5_kind 5 (some .int) ∈ z_T := z_T_in 1138 (by decide +kernel) (by decide +kernel)
theorem m_1147 : Cond.methodLink RL 39 yX5_rule ∈ z_T := z_T_in 1147 (by decide +kernel) (by decide +kernel)
theorem m_1148 : Cond.instanceMethod yX5_rule ∈ z_T := z_T_in 1148 (by decide +kernel) (by decide +kernel)
theorem m_1149 : Cond.selects RX5 yX5_rule yX5_rule ∈ z_T := z_T_in 1149 (by decide +kernel) (by decide +kernel)
theorem m_1150 : Cond.code yX5_rule cX5_rule 3 (some .int) ∈ z_T := z_T_in 1150 (by decide +kernel) (by decide +kernel)
theorem m_1152 : Cond.methodLink RL 43 yX5_goes ∈ z_T := z_T_in 1152 (by decide +kernel) (by decide +kernel)
theorem m_1153 : Cond.instanceMethod yX5_goes ∈ z_T := z_T_in 1153 (by decide +kernel) (by decide +kernel)
theorem m_1154 : Cond.selects RX5 yX5_goes yX5_goes ∈ z_T := z_T_in 1154 (by decide +kernel) (by decide +kernel)
theorem m_1155 : Cond.code yX5_goes cX5_goes 4 (some .int) ∈ z_T := z_T_in 1155 (by decide +kernel) (by decide +kernel)
theorem m_1156 : Cond.methodLink RL 47 yX5_voyage ∈ z_T := z_T_in 1156 (by decide +kernel) (by decide +kernel)
theorem m_1157 : Cond.instanceMethod yX5_voyage ∈ z_T := z_T_in 1157 (by decide +kernel) (by decide +kernel)
theorem m_1158 : Cond.selects RX5 yX5_voyage yX5_voyage ∈ z_T := z_T_in 1158 (by decide +kernel) (by decide +kernel)
theorem m_1159 : Cond.code yX5_voyage cX5_voyage 3 (some .int) ∈ z_T := z_T_in 1159 (by decide +kernel) (by decide +kernel)
theorem m_1164 : Cond.methodLink RL 52 yX5_claim ∈ z_T := z_T_in 1164 (by decide +kernel) (by decide +kernel)
theorem m_1165 : Cond.instanceMethod yX5_claim ∈ z_T := z_T_in 1165 (by decide +kernel) (by decide +kernel)
theorem m_1166 : Cond.selects RX5 yX5_claim yX5_claim ∈ z_T := z_T_in 1166 (by decide +kernel) (by decide +kernel)
theorem m_1167 : Cond.code yX5_claim cX5_claim 7 (some .int) ∈ z_T := z_T_in 1167 (by decide +kernel) (by decide +kernel)
theorem m_1176 : Cond.methodLink RL 56 yX5_ask ∈ z_T := z_T_in 1176 (by decide +kernel) (by decide +kernel)
theorem m_1177 : Cond.instanceMethod yX5_ask ∈ z_T := z_T_in 1177 (by decide +kernel) (by decide +kernel)
theorem m_1178 : Cond.selects RX5 yX5_ask yX5_ask ∈ z_T := z_T_in 1178 (by decide +kernel) (by decide +kernel)
theorem m_1179 : Cond.code yX5_ask cX5_ask 4 (some .int) ∈ z_T := z_T_in 1179 (by decide +kernel) (by decide +kernel)
theorem m_1185 : Cond.methodLink RL 60 yX5_fund ∈ z_T := z_T_in 1185 (by decide +kernel) (by decide +kernel)
theorem m_1186 : Cond.instanceMethod yX5_fund ∈ z_T := z_T_in 1186 (by decide +kernel) (by decide +kernel)
theorem m_1187 : Cond.selects RX5 yX5_fund yX5_fund ∈ z_T := z_T_in 1187 (by decide +kernel) (by decide +kernel)
theorem m_1188 : Cond.code yX5_fund cX5_fund 4 (some .int) ∈ z_T := z_T_in 1188 (by decide +kernel) (by decide +kernel)
theorem m_1193 : Cond.methodLink RL 64 yX5_owner ∈ z_T := z_T_in 1193 (by decide +kernel) (by decide +kernel)
theorem m_1194 : Cond.instanceMethod yX5_owner ∈ z_T := z_T_in 1194 (by decide +kernel) (by decide +kernel)
theorem m_1195 : Cond.selects RX5 yX5_owner yX5_owner ∈ z_T := z_T_in 1195 (by decide +kernel) (by decide +kernel)
theorem m_1196 : Cond.code yX5_owner cX5_owner 4 (some .int) ∈ z_T := z_T_in 1196 (by decide +kernel) (by decide +kernel)
theorem m_1201 : Cond.methodLink RL 68 yX5_pass ∈ z_T := z_T_in 1201 (by decide +kernel) (by decide +kernel)
theorem m_1202 : Cond.instanceMethod yX5_pass ∈ z_T := z_T_in 1202 (by decide +kernel) (by decide +kernel)
theorem m_1203 : Cond.selects RX5 yX5_pass yX5_pass ∈ z_T := z_T_in 1203 (by decide +kernel) (by decide +kernel)
theorem m_1204 : Cond.code yX5_pass cX5_pass 4 (some .int) ∈ z_T := z_T_in 1204 (by decide +kernel) (by decide +kernel)
theorem m_1205 : Cond.methodLink RL 72 yX5_told ∈ z_T := z_T_in 1205 (by decide +kernel) (by decide +kernel)
theorem m_1206 : Cond.instanceMethod yX5_told ∈ z_T := z_T_in 1206 (by decide +kernel) (by decide +kernel)
theorem m_1207 : Cond.selects RX5 yX5_told yX5_told ∈ z_T := z_T_in 1207 (by decide +kernel) (by decide +kernel)
theorem m_1208 : Cond.code yX5_told cX5_told 3 (some .int) ∈ z_T := z_T_in 1208 (by decide +kernel) (by decide +kernel)
theorem m_1213 : Cond.methodLink RL 76 yX5_count ∈ z_T := z_T_in 1213 (by decide +kernel) (by decide +kernel)
theorem m_1214 : Cond.instanceMethod yX5_count ∈ z_T := z_T_in 1214 (by decide +kernel) (by decide +kernel)
theorem m_1215 : Cond.selects RX5 yX5_count yX5_count ∈ z_T := z_T_in 1215 (by decide +kernel) (by decide +kernel)
theorem m_1216 : Cond.code yX5_count cX5_count 5 (some .int) ∈ z_T := z_T_in 1216 (by decide +kernel) (by decide +kernel)
theorem m_1217 : Cond.methodLink RL 80 yX5_lives ∈ z_T := z_T_in 1217 (by decide +kernel) (by decide +kernel)
theorem m_1218 : Cond.instanceMethod yX5_lives ∈ z_T := z_T_in 1218 (by decide +kernel) (by decide +kernel)
theorem m_1219 : Cond.selects RX5 yX5_lives yX5_lives ∈ z_T := z_T_in 1219 (by decide +kernel) (by decide +kernel)
theorem m_1220 : Cond.code yX5_lives cX5_lives 4 (some .int) ∈ z_T := z_T_in 1220 (by decide +kernel) (by decide +kernel)
theorem m_1225 : Cond.methodLink RL 84 yX5_last ∈ z_T := z_T_in 1225 (by decide +kernel) (by decide +kernel)
theorem m_1226 : Cond.instanceMethod yX5_last ∈ z_T := z_T_in 1226 (by decide +kernel) (by decide +kernel)
theorem m_1227 : Cond.selects RX5 yX5_last yX5_last ∈ z_T := z_T_in 1227 (by decide +kernel) (by decide +kernel)
theorem m_1228 : Cond.code yX5_last cX5_last 4 (some .int) ∈ z_T := z_T_in 1228 (by decide +kernel) (by decide +kernel)
theorem m_1229 : Cond.methodLink RL 88 yX5_ahead ∈ z_T := z_T_in 1229 (by decide +kernel) (by decide +kernel)
theorem m_1230 : Cond.instanceMethod yX5_ahead ∈ z_T := z_T_in 1230 (by decide +kernel) (by decide +kernel)
theorem m_1231 : Cond.selects RX5 yX5_ahead yX5_ahead ∈ z_T := z_T_in 1231 (by decide +kernel) (by decide +kernel)
theorem m_1232 : Cond.code yX5_ahead cX5_ahead 4 (some .int) ∈ z_T := z_T_in 1232 (by decide +kernel) (by decide +kernel)
theorem m_1237 : Cond.methodLink RL 93 yX5_step ∈ z_T := z_T_in 1237 (by decide +kernel) (by decide +kernel)
theorem m_1238 : Cond.instanceMethod yX5_step ∈ z_T := z_T_in 1238 (by decide +kernel) (by decide +kernel)
theorem m_1239 : Cond.selects RX5 yX5_step yX5_step ∈ z_T := z_T_in 1239 (by decide +kernel) (by decide +kernel)
theorem m_1240 : Cond.code yX5_step cX5_step 9 (some .int) ∈ z_T := z_T_in 1240 (by decide +kernel) (by decide +kernel)
theorem m_1249 : Cond.methodLink RL 97 yX5_paid ∈ z_T := z_T_in 1249 (by decide +kernel) (by decide +kernel)
theorem m_1250 : Cond.instanceMethod yX5_paid ∈ z_T := z_T_in 1250 (by decide +kernel) (by decide +kernel)
theorem m_1251 : Cond.selects RX5 yX5_paid yX5_paid ∈ z_T := z_T_in 1251 (by decide +kernel) (by decide +kernel)
theorem m_1252 : Cond.code yX5_paid cX5_paid 5 (some .int) ∈ z_T := z_T_in 1252 (by decide +kernel) (by decide +kernel)
theorem m_1284 : Cond.methodLink RL 101 yX5_left ∈ z_T := z_T_in 1284 (by decide +kernel) (by decide +kernel)
theorem m_1285 : Cond.instanceMethod yX5_left ∈ z_T := z_T_in 1285 (by decide +kernel) (by decide +kernel)
theorem m_1286 : Cond.selects RX5 yX5_left yX5_left ∈ z_T := z_T_in 1286 (by decide +kernel) (by decide +kernel)
theorem m_1287 : Cond.code yX5_left cX5_left 5 (some .int) ∈ z_T := z_T_in 1287 (by decide +kernel) (by decide +kernel)
theorem m_1288 : Cond.methodLink RL 105 yX5_has ∈ z_T := z_T_in 1288 (by decide +kernel) (by decide +kernel)
theorem m_1289 : Cond.instanceMethod yX5_has ∈ z_T := z_T_in 1289 (by decide +kernel) (by decide +kernel)
theorem m_1290 : Cond.selects RX5 yX5_has yX5_has ∈ z_T := z_T_in 1290 (by decide +kernel) (by decide +kernel)
theorem m_1291 : Cond.code yX5_has cX5_has 5 (some .int) ∈ z_T := z_T_in 1291 (by decide +kernel) (by decide +kernel)
theorem m_1296 : Cond.methodLink RL 109 yX5_order ∈ z_T := z_T_in 1296 (by decide +kernel) (by decide +kernel)
theorem m_1297 : Cond.instanceMethod yX5_order ∈ z_T := z_T_in 1297 (by decide +kernel) (by decide +kernel)
theorem m_1298 : Cond.selects RX5 yX5_order yX5_order ∈ z_T := z_T_in 1298 (by decide +kernel) (by decide +kernel)
theorem m_1299 : Cond.code yX5_order cX5_order 5 (some .int) ∈ z_T := z_T_in 1299 (by decide +kernel) (by decide +kernel)
theorem m_1300 : Cond.methodLink RL 114 yX5_back ∈ z_T := z_T_in 1300 (by decide +kernel) (by decide +kernel)
theorem m_1301 : Cond.instanceMethod yX5_back ∈ z_T := z_T_in 1301 (by decide +kernel) (by decide +kernel)
theorem m_1302 : Cond.selects RX5 yX5_back yX5_back ∈ z_T := z_T_in 1302 (by decide +kernel) (by decide +kernel)
theorem m_1303 : Cond.code yX5_back cX5_back 10 (some .int) ∈ z_T := z_T_in 1303 (by decide +kernel) (by decide +kernel)
theorem m_1304 : Cond.methodLink RL 118 yX5_wake ∈ z_T := z_T_in 1304 (by decide +kernel) (by decide +kernel)
theorem m_1305 : Cond.instanceMethod yX5_wake ∈ z_T := z_T_in 1305 (by decide +kernel) (by decide +kernel)
theorem m_1306 : Cond.selects RX5 yX5_wake yX5_wake ∈ z_T := z_T_in 1306 (by decide +kernel) (by decide +kernel)
theorem m_1307 : Cond.code yX5_wake cX5_wake 7 (some .int) ∈ z_T := z_T_in 1307 (by decide +kernel) (by decide +kernel)
theorem m_1308 : Cond.methodLink RL 122 yX5_best ∈ z_T := z_T_in 1308 (by decide +kernel) (by decide +kernel)
theorem m_1309 : Cond.instanceMethod yX5_best ∈ z_T := z_T_in 1309 (by decide +kernel) (by decide +kernel)
theorem m_1310 : Cond.selects RX5 yX5_best yX5_best ∈ z_T := z_T_in 1310 (by decide +kernel) (by decide +kernel)
theorem m_1311 : Cond.code yX5_best cX5_best 9 (some .int) ∈ z_T := z_T_in 1311 (by decide +kernel) (by decide +kernel)
theorem m_1312 : Cond.methodLink RL 127 yX5_buy ∈ z_T := z_T_in 1312 (by decide +kernel) (by decide +kernel)
theorem m_1313 : Cond.instanceMethod yX5_buy ∈ z_T := z_T_in 1313 (by decide +kernel) (by decide +kernel)
theorem m_1314 : Cond.selects RX5 yX5_buy yX5_buy ∈ z_T := z_T_in 1314 (by decide +kernel) (by decide +kernel)
theorem m_1315 : Cond.code yX5_buy cX5_buy 11 (some .int) ∈ z_T := z_T_in 1315 (by decide +kernel) (by decide +kernel)
theorem m_1317 : Cond.methodLink RL 131 yX5_clear ∈ z_T := z_T_in 1317 (by decide +kernel) (by decide +kernel)
theorem m_1318 : Cond.instanceMethod yX5_clear ∈ z_T := z_T_in 1318 (by decide +kernel) (by decide +kernel)
theorem m_1319 : Cond.selects RX5 yX5_clear yX5_clear ∈ z_T := z_T_in 1319 (by decide +kernel) (by decide +kernel)
theorem m_1320 : Cond.code yX5_clear cX5_clear 11 (some .int) ∈ z_T := z_T_in 1320 (by decide +kernel) (by decide +kernel)
theorem m_1321 : Cond.methodLink RL 136 yX5_more ∈ z_T := z_T_in 1321 (by decide +kernel) (by decide +kernel)
theorem m_1322 : Cond.instanceMethod yX5_more ∈ z_T := z_T_in 1322 (by decide +kernel) (by decide +kernel)
theorem m_1323 : Cond.selects RX5 yX5_more yX5_more ∈ z_T := z_T_in 1323 (by decide +kernel) (by decide +kernel)
theorem m_1324 : Cond.code yX5_more cX5_more 15 (some .int) ∈ z_T := z_T_in 1324 (by decide +kernel) (by decide +kernel)
theorem m_1326 : Cond.methodLink RL 140 yX5_hang ∈ z_T := z_T_in 1326 (by decide +kernel) (by decide +kernel)
theorem m_1327 : Cond.instanceMethod yX5_hang ∈ z_T := z_T_in 1327 (by decide +kernel) (by decide +kernel)
theorem m_1328 : Cond.selects RX5 yX5_hang yX5_hang ∈ z_T := z_T_in 1328 (by decide +kernel) (by decide +kernel)
theorem m_1329 : Cond.code yX5_hang cX5_hang 10 (some .int) ∈ z_T := z_T_in 1329 (by decide +kernel) (by decide +kernel)
theorem m_1334 : Cond.methodLink RL 144 yX5_keep ∈ z_T := z_T_in 1334 (by decide +kernel) (by decide +kernel)
theorem m_1335 : Cond.instanceMethod yX5_keep ∈ z_T := z_T_in 1335 (by decide +kernel) (by decide +kernel)
theorem m_1336 : Cond.selects RX5 yX5_keep yX5_keep ∈ z_T := z_T_in 1336 (by decide +kernel) (by decide +kernel)
theorem m_1337 : Cond.code yX5_keep cX5_keep 4 (some .int) ∈ z_T := z_T_in 1337 (by decide +kernel) (by decide +kernel)
theorem m_1341 : Cond.methodLink RL 148 yX5_goBack ∈ z_T := z_T_in 1341 (by decide +kernel) (by decide +kernel)
theorem m_1342 : Cond.instanceMethod yX5_goBack ∈ z_T := z_T_in 1342 (by decide +kernel) (by decide +kernel)
theorem m_1343 : Cond.selects RX5 yX5_goBack yX5_goBack ∈ z_T := z_T_in 1343 (by decide +kernel) (by decide +kernel)
theorem m_1344 : Cond.code yX5_goBack cX5_goBack 4 (some .int) ∈ z_T := z_T_in 1344 (by decide +kernel) (by decide +kernel)
theorem m_1345 : Cond.constantLong RL 13 (4294967295) ∈ z_T := z_T_in 1345 (by decide +kernel) (by decide +kernel)
theorem q_X4_feed : z_Yc yX4_feed cX4_feed 5 (some .int) 2 := ⟨m_377, m_78, ⟨by decide +kernel, by decide +kernel, by decide +kernel⟩, by decide⟩
theorem q_X5_feed : z_Yc yX5_feed cX5_feed 5 (some .int) 2 := ⟨m_1047, m_83, ⟨by decide +kernel, by decide +kernel, by decide +kernel⟩, by decide⟩
theorem q_X4_law : z_Yc yX4_law cX4_law 4 (some .int) 1 := ⟨m_385, m_78, ⟨by decide +kernel, by decide +kernel, by decide +kernel⟩, by decide⟩
theorem q_X5_law : z_Yc yX5_law cX5_law 4 (some .int) 1 := ⟨m_1056, m_83, ⟨by decide +kernel, by decide +kernel, by decide +kernel⟩, by decide⟩
theorem q_X4_fault : z_Yc yX4_fault cX4_fault 1 (some .int) 0 := ⟨m_558, m_78, ⟨by decide +kernel, by decide +kernel, by decide +kernel⟩, by decide⟩
theorem q_X5_fault : z_Yc yX5_fault cX5_fault 1 (some .int) 0 := ⟨m_1134, m_83, ⟨by decide +kernel, by decide +kernel, by decide +kernel⟩, by decide⟩
theorem q_X4_kind : z_Yc yX4_kind cX4_kind 5 (some .int) 3 := ⟨m_562, m_78, ⟨by decide +kernel, by decide +kernel, by decide +kernel⟩, by decide⟩
theorem q_X5_kind : z_Yc yX5_kind cX5_kind 5 (some .int) 3 := ⟨m_1138, m_83, ⟨by decide +kernel, by decide +kernel, by decide +kernel⟩, by decide⟩
theorem q_X4_rule : z_Yc yX4_rule cX4_rule 4 (some .int) 2 := ⟨m_570, m_78, ⟨by decide +kernel, by decide +kernel, by decide +kernel⟩, by decide⟩
theorem q_X5_rule : z_Yc yX5_rule cX5_rule 3 (some .int) 2 := ⟨m_1150, m_83, ⟨by decide +kernel, by decide +kernel, by decide +kernel⟩, by decide⟩
theorem q_X4_goes : z_Yc yX4_goes cX4_goes 4 (some .int) 3 := ⟨m_574, m_78, ⟨by decide +kernel, by decide +kernel, by decide +kernel⟩, by decide⟩
theorem q_X5_goes : z_Yc yX5_goes cX5_goes 4 (some .int) 3 := ⟨m_1155, m_83, ⟨by decide +kernel, by decide +kernel, by decide +kernel⟩, by decide⟩
theorem q_X4_voyage : z_Yc yX4_voyage cX4_voyage 3 (some .int) 2 := ⟨m_578, m_78, ⟨by decide +kernel, by decide +kernel, by decide +kernel⟩, by decide⟩
theorem q_X5_voyage : z_Yc yX5_voyage cX5_voyage 3 (some .int) 2 := ⟨m_1159, m_83, ⟨by decide +kernel, by decide +kernel, by decide +kernel⟩, by decide⟩
theorem q_X4_claim : z_Yc yX4_claim cX4_claim 7 (some .int) 6 := ⟨m_593, m_78, ⟨by decide +kernel, by decide +kernel, by decide +kernel⟩, by decide⟩
theorem q_X5_claim : z_Yc yX5_claim cX5_claim 7 (some .int) 6 := ⟨m_1167, m_83, ⟨by decide +kernel, by decide +kernel, by decide +kernel⟩, by decide⟩
theorem q_X4_ask : z_Yc yX4_ask cX4_ask 4 (some .int) 2 := ⟨m_604, m_78, ⟨by decide +kernel, by decide +kernel, by decide +kernel⟩, by decide⟩
theorem q_X5_ask : z_Yc yX5_ask cX5_ask 4 (some .int) 2 := ⟨m_1179, m_83, ⟨by decide +kernel, by decide +kernel, by decide +kernel⟩, by decide⟩
theorem q_X4_fund : z_Yc yX4_fund cX4_fund 4 (some .int) 2 := ⟨m_612, m_78, ⟨by decide +kernel, by decide +kernel, by decide +kernel⟩, by decide⟩
theorem q_X5_fund : z_Yc yX5_fund cX5_fund 4 (some .int) 2 := ⟨m_1188, m_83, ⟨by decide +kernel, by decide +kernel, by decide +kernel⟩, by decide⟩
theorem q_X4_owner : z_Yc yX4_owner cX4_owner 4 (some .int) 2 := ⟨m_619, m_78, ⟨by decide +kernel, by decide +kernel, by decide +kernel⟩, by decide⟩
theorem q_X5_owner : z_Yc yX5_owner cX5_owner 4 (some .int) 2 := ⟨m_1196, m_83, ⟨by decide +kernel, by decide +kernel, by decide +kernel⟩, by decide⟩
theorem q_X4_pass : z_Yc yX4_pass cX4_pass 4 (some .int) 2 := ⟨m_626, m_78, ⟨by decide +kernel, by decide +kernel, by decide +kernel⟩, by decide⟩
theorem q_X5_pass : z_Yc yX5_pass cX5_pass 4 (some .int) 2 := ⟨m_1204, m_83, ⟨by decide +kernel, by decide +kernel, by decide +kernel⟩, by decide⟩
theorem q_X4_told : z_Yc yX4_told cX4_told 3 (some .int) 2 := ⟨m_630, m_78, ⟨by decide +kernel, by decide +kernel, by decide +kernel⟩, by decide⟩
theorem q_X5_told : z_Yc yX5_told cX5_told 3 (some .int) 2 := ⟨m_1208, m_83, ⟨by decide +kernel, by decide +kernel, by decide +kernel⟩, by decide⟩
theorem q_X4_count : z_Yc yX4_count cX4_count 2 (some .int) 1 := ⟨m_638, m_78, ⟨by decide +kernel, by decide +kernel, by decide +kernel⟩, by decide⟩
theorem q_X5_count : z_Yc yX5_count cX5_count 5 (some .int) 1 := ⟨m_1216, m_83, ⟨by decide +kernel, by decide +kernel, by decide +kernel⟩, by decide⟩
theorem q_X4_lives : z_Yc yX4_lives cX4_lives 4 (some .int) 3 := ⟨m_645, m_78, ⟨by decide +kernel, by decide +kernel, by decide +kernel⟩, by decide⟩
theorem q_X5_lives : z_Yc yX5_lives cX5_lives 4 (some .int) 3 := ⟨m_1220, m_83, ⟨by decide +kernel, by decide +kernel, by decide +kernel⟩, by decide⟩
theorem q_X4_last : z_Yc yX4_last cX4_last 3 (some .int) 2 := ⟨m_665, m_78, ⟨by decide +kernel, by decide +kernel, by decide +kernel⟩, by decide⟩
theorem q_X5_last : z_Yc yX5_last cX5_last 4 (some .int) 2 := ⟨m_1228, m_83, ⟨by decide +kernel, by decide +kernel, by decide +kernel⟩, by decide⟩
theorem q_X4_ahead : z_Yc yX4_ahead cX4_ahead 4 (some .int) 3 := ⟨m_674, m_78, ⟨by decide +kernel, by decide +kernel, by decide +kernel⟩, by decide⟩
theorem q_X5_ahead : z_Yc yX5_ahead cX5_ahead 4 (some .int) 3 := ⟨m_1232, m_83, ⟨by decide +kernel, by decide +kernel, by decide +kernel⟩, by decide⟩
theorem q_X4_step : z_Yc yX4_step cX4_step 5 (some .int) 4 := ⟨m_690, m_78, ⟨by decide +kernel, by decide +kernel, by decide +kernel⟩, by decide⟩
theorem q_X5_step : z_Yc yX5_step cX5_step 9 (some .int) 4 := ⟨m_1240, m_83, ⟨by decide +kernel, by decide +kernel, by decide +kernel⟩, by decide⟩
theorem q_X4_paid : z_Yc yX4_paid cX4_paid 5 (some .int) 4 := ⟨m_713, m_78, ⟨by decide +kernel, by decide +kernel, by decide +kernel⟩, by decide⟩
theorem q_X5_paid : z_Yc yX5_paid cX5_paid 5 (some .int) 4 := ⟨m_1252, m_83, ⟨by decide +kernel, by decide +kernel, by decide +kernel⟩, by decide⟩
theorem q_X4_left : z_Yc yX4_left cX4_left 5 (some .int) 4 := ⟨m_769, m_78, ⟨by decide +kernel, by decide +kernel, by decide +kernel⟩, by decide⟩
theorem q_X5_left : z_Yc yX5_left cX5_left 5 (some .int) 4 := ⟨m_1287, m_83, ⟨by decide +kernel, by decide +kernel, by decide +kernel⟩, by decide⟩
theorem q_X4_has : z_Yc yX4_has cX4_has 5 (some .int) 4 := ⟨m_773, m_78, ⟨by decide +kernel, by decide +kernel, by decide +kernel⟩, by decide⟩
theorem q_X5_has : z_Yc yX5_has cX5_has 5 (some .int) 4 := ⟨m_1291, m_83, ⟨by decide +kernel, by decide +kernel, by decide +kernel⟩, by decide⟩
theorem q_X4_order : z_Yc yX4_order cX4_order 5 (some .int) 4 := ⟨m_785, m_78, ⟨by decide +kernel, by decide +kernel, by decide +kernel⟩, by decide⟩
theorem q_X5_order : z_Yc yX5_order cX5_order 5 (some .int) 4 := ⟨m_1299, m_83, ⟨by decide +kernel, by decide +kernel, by decide +kernel⟩, by decide⟩
theorem q_X4_back : z_Yc yX4_back cX4_back 6 (some .int) 5 := ⟨m_789, m_78, ⟨by decide +kernel, by decide +kernel, by decide +kernel⟩, by decide⟩
theorem q_X5_back : z_Yc yX5_back cX5_back 10 (some .int) 5 := ⟨m_1303, m_83, ⟨by decide +kernel, by decide +kernel, by decide +kernel⟩, by decide⟩
theorem q_X4_wake : z_Yc yX4_wake cX4_wake 6 (some .int) 5 := ⟨m_801, m_78, ⟨by decide +kernel, by decide +kernel, by decide +kernel⟩, by decide⟩
theorem q_X5_wake : z_Yc yX5_wake cX5_wake 7 (some .int) 5 := ⟨m_1307, m_83, ⟨by decide +kernel, by decide +kernel, by decide +kernel⟩, by decide⟩
theorem q_X4_best : z_Yc yX4_best cX4_best 9 (some .int) 4 := ⟨m_810, m_78, ⟨by decide +kernel, by decide +kernel, by decide +kernel⟩, by decide⟩
theorem q_X5_best : z_Yc yX5_best cX5_best 9 (some .int) 4 := ⟨m_1311, m_83, ⟨by decide +kernel, by decide +kernel, by decide +kernel⟩, by decide⟩
theorem q_X4_buy : z_Yc yX4_buy cX4_buy 11 (some .int) 6 := ⟨m_814, m_78, ⟨by decide +kernel, by decide +kernel, by decide +kernel⟩, by decide⟩
theorem q_X5_buy : z_Yc yX5_buy cX5_buy 11 (some .int) 6 := ⟨m_1315, m_83, ⟨by decide +kernel, by decide +kernel, by decide +kernel⟩, by decide⟩
theorem q_X4_clear : z_Yc yX4_clear cX4_clear 11 (some .int) 5 := ⟨m_818, m_78, ⟨by decide +kernel, by decide +kernel, by decide +kernel⟩, by decide⟩
theorem q_X5_clear : z_Yc yX5_clear cX5_clear 11 (some .int) 5 := ⟨m_1320, m_83, ⟨by decide +kernel, by decide +kernel, by decide +kernel⟩, by decide⟩
theorem q_X4_more : z_Yc yX4_more cX4_more 11 (some .int) 9 := ⟨m_830, m_78, ⟨by decide +kernel, by decide +kernel, by decide +kernel⟩, by decide⟩
theorem q_X5_more : z_Yc yX5_more cX5_more 15 (some .int) 9 := ⟨m_1324, m_83, ⟨by decide +kernel, by decide +kernel, by decide +kernel⟩, by decide⟩
theorem q_X4_hang : z_Yc yX4_hang cX4_hang 10 (some .int) 5 := ⟨m_850, m_78, ⟨by decide +kernel, by decide +kernel, by decide +kernel⟩, by decide⟩
theorem q_X5_hang : z_Yc yX5_hang cX5_hang 10 (some .int) 5 := ⟨m_1329, m_83, ⟨by decide +kernel, by decide +kernel, by decide +kernel⟩, by decide⟩
theorem q_X4_keep : z_Yc yX4_keep cX4_keep 2 (some .int) 1 := ⟨m_861, m_78, ⟨by decide +kernel, by decide +kernel, by decide +kernel⟩, by decide⟩
theorem q_X5_keep : z_Yc yX5_keep cX5_keep 4 (some .int) 1 := ⟨m_1337, m_83, ⟨by decide +kernel, by decide +kernel, by decide +kernel⟩, by decide⟩
theorem q_X4_goBack : z_Yc yX4_goBack cX4_goBack 2 (some .int) 1 := ⟨m_868, m_78, ⟨by decide +kernel, by decide +kernel, by decide +kernel⟩, by decide⟩
theorem q_X5_goBack : z_Yc yX5_goBack cX5_goBack 4 (some .int) 1 := ⟨m_1344, m_83, ⟨by decide +kernel, by decide +kernel, by decide +kernel⟩, by decide⟩
theorem v_X4_feed : z_Yv yX4_feed := ⟨m_375, m_376⟩
theorem v_X5_feed : z_Yv yX5_feed := ⟨m_1045, m_1046⟩
theorem v_X4_law : z_Yv yX4_law := ⟨m_383, m_384⟩
theorem v_X5_law : z_Yv yX5_law := ⟨m_1054, m_1055⟩
theorem v_X4_fault : z_Yv yX4_fault := ⟨m_556, m_557⟩
theorem v_X5_fault : z_Yv yX5_fault := ⟨m_1132, m_1133⟩
theorem v_X4_kind : z_Yv yX4_kind := ⟨m_560, m_561⟩
theorem v_X5_kind : z_Yv yX5_kind := ⟨m_1136, m_1137⟩
theorem v_X4_rule : z_Yv yX4_rule := ⟨m_568, m_569⟩
theorem v_X5_rule : z_Yv yX5_rule := ⟨m_1148, m_1149⟩
theorem v_X4_goes : z_Yv yX4_goes := ⟨m_572, m_573⟩
theorem v_X5_goes : z_Yv yX5_goes := ⟨m_1153, m_1154⟩
theorem v_X4_voyage : z_Yv yX4_voyage := ⟨m_576, m_577⟩
theorem v_X5_voyage : z_Yv yX5_voyage := ⟨m_1157, m_1158⟩
theorem v_X4_claim : z_Yv yX4_claim := ⟨m_591, m_592⟩
theorem v_X5_claim : z_Yv yX5_claim := ⟨m_1165, m_1166⟩
theorem v_X4_ask : z_Yv yX4_ask := ⟨m_602, m_603⟩
theorem v_X5_ask : z_Yv yX5_ask := ⟨m_1177, m_1178⟩
theorem v_X4_fund : z_Yv yX4_fund := ⟨m_610, m_611⟩
theorem v_X5_fund : z_Yv yX5_fund := ⟨m_1186, m_1187⟩
theorem v_X4_owner : z_Yv yX4_owner := ⟨m_617, m_618⟩
theorem v_X5_owner : z_Yv yX5_owner := ⟨m_1194, m_1195⟩
theorem v_X4_pass : z_Yv yX4_pass := ⟨m_624, m_625⟩
theorem v_X5_pass : z_Yv yX5_pass := ⟨m_1202, m_1203⟩
theorem v_X4_told : z_Yv yX4_told := ⟨m_628, m_629⟩
theorem v_X5_told : z_Yv yX5_told := ⟨m_1206, m_1207⟩
theorem v_X4_count : z_Yv yX4_count := ⟨m_636, m_637⟩
theorem v_X5_count : z_Yv yX5_count := ⟨m_1214, m_1215⟩
theorem v_X4_lives : z_Yv yX4_lives := ⟨m_643, m_644⟩
theorem v_X5_lives : z_Yv yX5_lives := ⟨m_1218, m_1219⟩
theorem v_X4_last : z_Yv yX4_last := ⟨m_663, m_664⟩
theorem v_X5_last : z_Yv yX5_last := ⟨m_1226, m_1227⟩
theorem v_X4_ahead : z_Yv yX4_ahead := ⟨m_672, m_673⟩
theorem v_X5_ahead : z_Yv yX5_ahead := ⟨m_1230, m_1231⟩
theorem v_X4_step : z_Yv yX4_step := ⟨m_688, m_689⟩
theorem v_X5_step : z_Yv yX5_step := ⟨m_1238, m_1239⟩
theorem v_X4_paid : z_Yv yX4_paid := ⟨m_711, m_712⟩
theorem v_X5_paid : z_Yv yX5_paid := ⟨m_1250, m_1251⟩
theorem v_X4_left : z_Yv yX4_left := ⟨m_767, m_768⟩
theorem v_X5_left : z_Yv yX5_left := ⟨m_1285, m_1286⟩
theorem v_X4_has : z_Yv yX4_has := ⟨m_771, m_772⟩
theorem v_X5_has : z_Yv yX5_has := ⟨m_1289, m_1290⟩
theorem v_X4_order : z_Yv yX4_order := ⟨m_783, m_784⟩
theorem v_X5_order : z_Yv yX5_order := ⟨m_1297, m_1298⟩
theorem v_X4_back : z_Yv yX4_back := ⟨m_787, m_788⟩
theorem v_X5_back : z_Yv yX5_back := ⟨m_1301, m_1302⟩
theorem v_X4_wake : z_Yv yX4_wake := ⟨m_799, m_800⟩
theorem v_X5_wake : z_Yv yX5_wake := ⟨m_1305, m_1306⟩
theorem v_X4_best : z_Yv yX4_best := ⟨m_808, m_809⟩
theorem v_X5_best : z_Yv yX5_best := ⟨m_1309, m_1310⟩
theorem v_X4_buy : z_Yv yX4_buy := ⟨m_812, m_813⟩
theorem v_X5_buy : z_Yv yX5_buy := ⟨m_1313, m_1314⟩
theorem v_X4_clear : z_Yv yX4_clear := ⟨m_816, m_817⟩
theorem v_X5_clear : z_Yv yX5_clear := ⟨m_1318, m_1319⟩
theorem v_X4_more : z_Yv yX4_more := ⟨m_828, m_829⟩
theorem v_X5_more : z_Yv yX5_more := ⟨m_1322, m_1323⟩
theorem v_X4_hang : z_Yv yX4_hang := ⟨m_848, m_849⟩
theorem v_X5_hang : z_Yv yX5_hang := ⟨m_1327, m_1328⟩
theorem v_X4_keep : z_Yv yX4_keep := ⟨m_859, m_860⟩
theorem v_X5_keep : z_Yv yX5_keep := ⟨m_1335, m_1336⟩
theorem v_X4_goBack : z_Yv yX4_goBack := ⟨m_866, m_867⟩
theorem v_X5_goBack : z_Yv yX5_goBack := ⟨m_1342, m_1343⟩
