/-! PURE: the reference's isThere, isWanting, findStep -/
/-- with some gone -/
def y_og (l : a_T) (s : a_S) (d : Int32) (g : Nat → Bool) : y_Q := (s.2.1, fun c => if g c = true then 0 else (s.2.2 6 c).toNatClampNeg, (y_of l s d).2.2)
theorem w_og {l : a_T} {s : a_S} (hs : w_ship s) (hl : w_law l) (d : Int32) (g : Nat → Bool) : w_Q (y_og l s d g) := by
  obtain ⟨h1, h2, h3⟩ := w_of hs hl d
  refine ⟨h1, fun c hc => ⟨?_, (h2 c hc).2⟩, h3⟩
  have : (s.2.2 6 c).toNatClampNeg ≤ 999 := (h2 c hc).1
  show (if g c = true then 0 else (s.2.2 6 c).toNatClampNeg) ≤ 999
  split
  · omega
  · exact this
/-- the reference's cells that a pay-out reads -/
def m_ctx (ν : z_M) (n : Nat) (l : a_T) (s : a_S) (g : Nat → Bool) : Prop := m_ship ν s ∧ m_law ν n l ∧ ∀ c, c < s.2.1 → ν.1 123 c = if g c = true then 1 else 0
theorem m_ctx.un {ν ν' : z_M} {n : Nat} {l : a_T} {s : a_S} {g : Nat → Bool} {X : List Nat} (h : m_ctx ν n l s g) (hu : z_un X ν ν') (hX : ∀ a, 98 ≤ a → a ≤ 125 → a ∉ X) : m_ctx ν' n l s g := by
  have e : ∀ a, 98 ≤ a → a ≤ 125 → ν'.1 a = ν.1 a := fun a h1 h2 => hu.1 a (hX a h1 h2)
  obtain ⟨h1, h2, h3⟩ := h
  refine ⟨?_, ?_, ?_⟩
  · unfold m_ship at h1 ⊢
    rw [e 98 (by decide) (by decide), e 114 (by decide) (by decide), e 115 (by decide) (by decide), e 116 (by decide) (by decide), e 117 (by decide) (by decide), e 118 (by decide) (by decide), e 119 (by decide) (by decide), e 120 (by decide) (by decide), e 121 (by decide) (by decide), e 122 (by decide) (by decide), e 124 (by decide) (by decide), e 125 (by decide) (by decide)]
    exact h1
  · unfold m_law at h2 ⊢
    rw [e 99 (by decide) (by decide), e 100 (by decide) (by decide), e 101 (by decide) (by decide), e 102 (by decide) (by decide), e 103 (by decide) (by decide), e 104 (by decide) (by decide), e 113 (by decide) (by decide)]
    exact h2
  · rw [e 123 (by decide) (by decide)]
    exact h3
section
variable {ν : z_M} {n : Nat} {l : a_T} {s : a_S} {g : Nat → Bool}
theorem p_isOn (hs : w_ship s) (hl : w_law l) (hm : m_ctx ν n l s g) (hn : n < 4) {c f : Nat} (hc : c < s.2.1) (hf : f < 5) : f_X5_isOn (nI n) (nI f) (nI c) ν = some (p_b (rd l s f c = true), ν) := by
  have h14 : s.2.1 ≤ 14 := hs.2.1
  obtain ⟨ek, hk⟩ := a_k_lt hs hc
  have m1 := (hm.1.2.2.2.1 c hc).1
  have m6 := (hm.1.2.2.2.1 c hc).2.2.2.2.2.1
  have l1 := (hm.2.1.1 _ hk).1
  have hz : z_in (nI c) 15 := p_zn (by omega) (by decide)
  have e8 : (8 : Int32) * nI n + nI (a_k s c) = nI (8 * n + a_k s c) := p_ix 8 n _
  unfold f_X5_isOn
  simp only [if_pos hz, nI_clamp (show c < 2 ^ 31 by omega), m1, ek, e8, if_pos (p_zn (n := 8 * n + a_k s c) (N := 32) (by omega) (by decide)), nI_clamp (show 8 * n + a_k s c < 2 ^ 31 by omega), l1, z_lt_s, m6]
  rw [if_pos (fun _ _ => hz)]
  unfold p_b rd
  congr 2
  by_cases h2 : f < 2
  · rw [if_neg (show ¬ (2 : Int32) ≤ nI f from p_nle (a := 2) (by omega) (by decide)), if_pos h2]
    show (if p_bit (l 0 (a_k s c)) f = 1 then (1 : Int32) else 0) = _
    by_cases q : p_bit (l 0 (a_k s c)) f = 1
    · rw [if_pos q, if_pos (by rw [q]; rfl)]
    · rw [if_neg q, if_neg (fun w => q (eq_of_beq w))]
  · rw [if_pos (show (2 : Int32) ≤ nI f from nI_le (a := 2) (by omega) (by omega)), if_neg h2]
    have e2 : nI f - 2 = nI (f - 2) := pk_sub (a := f) (b := 2) (by omega)
    rw [e2]
    show (if p_bit (l 0 (a_k s c)) 2 = 1 then (if p_bit (s.2.2 8 c) (f - 2) = 1 then (1 : Int32) else 0) else 0) = _
    by_cases q : p_bit (l 0 (a_k s c)) 2 = 1
    · rw [if_pos q, q]
      by_cases q2 : p_bit (s.2.2 8 c) (f - 2) = 1
      · rw [if_pos q2, q2, if_pos (by decide)]
      · rw [if_neg q2, if_neg]
        intro w
        rw [Bool.and_eq_true] at w
        exact q2 (eq_of_beq w.2)
    · rw [if_neg q, if_neg]
      intro w
      rw [Bool.and_eq_true] at w
      exact q (eq_of_beq w.1)
theorem p_isThere (hs : w_ship s) (hl : w_law l) (hm : m_ctx ν n l s g) (hn : n < 4) (d : Int32) {c f : Nat} (hc : c < s.2.1) (hf : f < 5) : f_X5_isThere (nI n) d (nI f) (nI c) ν = some (p_b (g c = false ∧ (y_p (y_og l s d g)).2.2.2.1 f c = true), ν) := by
  have h14 : s.2.1 ≤ 14 := hs.2.1
  have hz : z_in (nI c) 15 := p_zn (by omega) (by decide)
  have eth : (y_p (y_og l s d g)).2.2.2.1 f c = (decide (a_why l s d c = 0) && rd l s f c) := rfl
  unfold f_X5_isThere
  rw [if_pos hz, nI_clamp (show c < 2 ^ 31 by omega), hm.2.2 c hc, p_isOn hs hl hm hn hc hf, z_b2_s, p_if0, p_why5 hs hl hm.1 hm.2.1 hn hc, z_b2_s, eth]
  unfold p_b
  cases hg : g c with
  | true =>
    rw [if_pos rfl, if_neg (by decide), if_neg (fun w => absurd w.1 (by decide))]
  | false =>
    rw [if_neg (show ¬ (false = true) by decide), if_pos rfl]
    cases hr : rd l s f c with
    | false => rw [if_neg (by decide), if_neg (fun w => by rw [Bool.and_false] at w; exact absurd w.2 (by decide))]
    | true =>
      rw [if_pos rfl, Bool.and_true]
      by_cases q : a_why l s d c = 0
      · rw [if_pos q, if_pos ⟨rfl, decide_eq_true q⟩]
      · rw [if_neg q, if_neg (fun w => q (of_decide_eq_true w.2))]
/-- what the spec calls wanting -/
abbrev y_wt (P : y_P) (f : Nat) (p : Nat → Nat) (c : Nat) : Prop := P.2.2.2.1 f c = true ∧ p c < P.2.1 c
theorem p_wants (hs : w_ship s) (hm : m_ctx ν n l s g) {p : Nat → Nat} {c : Nat} (hc : c < s.2.1) (h126 : ν.1 126 c = nI (p c)) : f_X5_wants (nI c) ν = some (nI (s.2.2 6 c).toNatClampNeg - nI (p c), ν) := by
  have h14 : s.2.1 ≤ 14 := hs.2.1
  have hz : z_in (nI c) 15 := p_zn (by omega) (by decide)
  have hA := p_am (b := 999) (hs.2.2.2.1 c hc).2.2.2.1
  have m4 := (hm.1.2.2.2.1 c hc).2.2.2.1
  unfold f_X5_wants
  rw [if_pos hz, if_pos hz, nI_clamp (show c < 2 ^ 31 by omega), m4, h126, ← hA.1]
theorem p_isWanting (hs : w_ship s) (hl : w_law l) (hm : m_ctx ν n l s g) (hn : n < 4) (d : Int32) {p : Nat → Nat} (hpa : ∀ c, p c ≤ (y_og l s d g).2.1 c) {c f : Nat} (hc : c < s.2.1) (hf : f < 5) (h126 : ν.1 126 c = nI (p c)) : f_X5_isWanting (nI n) d (nI f) (nI c) ν = some (p_b (y_wt (y_p (y_og l s d g)) f p c), ν) := by
  have hA := p_am (b := 999) (hs.2.2.2.1 c hc).2.2.2.1
  have hp := hpa c
  unfold f_X5_isWanting
  rw [p_isThere hs hl hm hn d hc hf, z_b2_s, p_if0, p_wants hs hm hc h126, z_b2_s]
  unfold p_b y_wt
  have eA : (y_p (y_og l s d g)).2.1 c = if g c = true then 0 else (s.2.2 6 c).toNatClampNeg := rfl
  have eA' : (y_og l s d g).2.1 c = if g c = true then 0 else (s.2.2 6 c).toNatClampNeg := rfl
  rw [eA'] at hp
  rw [eA]
  generalize (y_p (y_og l s d g)).2.2.2.1 f c = T
  cases hg : g c with
  | true => rw [if_neg (fun w => absurd w.1 (by decide)), if_neg (fun w => by rw [if_pos rfl] at w; omega)]
  | false =>
    rw [hg, if_neg (by decide)] at hp
    rw [if_neg (show ¬ false = true by decide), pk_sub hp]
    cases T with
    | false => rw [if_neg (fun w => absurd w.2 (by decide)), if_neg (fun w => absurd w.1 (by decide))]
    | true =>
      rw [if_pos ⟨rfl, rfl⟩]
      by_cases q : p c < (s.2.2 6 c).toNatClampNeg
      · rw [if_neg (fun w => by have := (nI_lt0 (by omega)).mp w; omega), if_pos ⟨rfl, q⟩]
      · rw [if_pos ((nI_lt0 (by omega)).mpr (by omega)), if_neg (fun w => q w.2)]
theorem p_ordS (hs : w_ship s) (hl : w_law l) (hm : m_ctx ν n l s g) (hn : n < 4) (d : Int32) {c e : Nat} (hc : c < s.2.1) (he : e < s.2.1) : f_X5_order2 (nI n) (nI c) (nI e) ν = some (a_sg (((y_og l s d g).2.2.1 e : Int) - ((y_og l s d g).2.2.1 c : Int)), ν) := by
  rw [p_ord5 hs hl hm.1 hm.2.1 hn hc he]
  have h1 := a_stI_in hs hl hc
  have h2 := a_stI_in hs hl he
  have e1 : (y_og l s d g).2.2.1 c = (a_stI l s c).toNat := rfl
  have e2 : (y_og l s d g).2.2.1 e = (a_stI l s e).toNat := rfl
  rw [e1, e2]
  congr 3
  omega
theorem a_sg_1 {z : Int} : a_sg z = 1 ↔ 0 < z := by
  unfold a_sg
  by_cases h : 0 < z
  · rw [if_pos h]
    exact ⟨fun _ => h, fun _ => rfl⟩
  · rw [if_neg h]
    constructor
    · intro q
      split at q
      · exact absurd q (by decide)
      · exact absurd q (by decide)
    · intro q
      exact absurd q h
theorem a_sg_z {z : Int} : a_sg z = 0 ↔ z = 0 := by
  unfold a_sg
  by_cases h : 0 < z
  · rw [if_pos h]
    exact ⟨fun q => absurd q (by decide), fun q => by omega⟩
  · rw [if_neg h]
    by_cases h2 : z = 0
    · rw [if_pos h2]
      exact ⟨fun _ => h2, fun _ => rfl⟩
    · rw [if_neg h2]
      exact ⟨fun q => absurd q (by decide), fun q => absurd q h2⟩
/-- what findStep has found: none, or the first step -/
def m_found (P : y_P) (f : Nat) (p : Nat → Nat) (o : Option Nat) (i : Nat) : Prop := match o with
  | none => ∀ c, c < i → ¬ y_wt P f p c
  | some e => e < i ∧ y_wt P f p e ∧ ∀ c, c < i → y_wt P f p c → P.2.2.1 e ≤ P.2.2.1 c
def m_foI (o : Option Nat) : Int32 := match o with
  | none => -1
  | some e => nI e
def m_pick {α : Type} (o : Option Nat) (A : α) (B : Nat → α) : α := match o with
  | none => A
  | some e => B e
theorem p_fs6 (hs : w_ship s) (hl : w_law l) (hm : m_ctx ν n l s g) (hn : n < 4) (d : Int32) {p : Nat → Nat} (hpa : ∀ c, p c ≤ (y_og l s d g).2.1 c) {f : Nat} (hf : f < 5) (h126 : ∀ c, c < s.2.1 → ν.1 126 c = nI (p c)) : ∀ m i fu o, i + m = s.2.1 → m < fu → m_found (y_p (y_og l s d g)) f p o i → ∃ o', m_found (y_p (y_og l s d g)) f p o' s.2.1 ∧ g_X5_findStep_6 fu (nI n) d (nI f) (m_foI o) (nI i) ν = g_X5_findStep_70 z_N (nI n) d (nI f) (m_foI o') 0 0 ν := by
  have h14 : s.2.1 ≤ 14 := hs.2.1
  intro m
  induction m with
  | zero =>
    intro i fu o hi hfu ho
    obtain ⟨fu, rfl⟩ : ∃ q, fu = q + 1 := ⟨fu - 1, by omega⟩
    have ei : i = s.2.1 := by omega
    subst ei
    refine ⟨o, ho, ?_⟩
    rw [g_X5_findStep_6]
    rw [hm.1.2.1, if_pos (nI_le (Nat.le_refl _) (by omega))]
  | succ m ih =>
    intro i fu o hi hfu ho
    obtain ⟨fu, rfl⟩ : ∃ q, fu = q + 1 := ⟨fu - 1, by omega⟩
    have hc : i < s.2.1 := by omega
    have hW := p_isWanting hs hl hm hn d hpa hc hf (h126 i hc)
    have U : g_X5_findStep_6 (fu + 1) (nI n) d (nI f) (m_foI o) (nI i) ν = if y_wt (y_p (y_og l s d g)) f p i then m_pick o (g_X5_findStep_6 fu (nI n) d (nI f) (nI i) (nI (i + 1)) ν) (fun e => if (y_og l s d g).2.2.1 i < (y_og l s d g).2.2.1 e then g_X5_findStep_6 fu (nI n) d (nI f) (nI i) (nI (i + 1)) ν else g_X5_findStep_6 fu (nI n) d (nI f) (nI e) (nI (i + 1)) ν) else g_X5_findStep_6 fu (nI n) d (nI f) (m_foI o) (nI (i + 1)) ν := by
      rw [g_X5_findStep_6]
      rw [hm.1.2.1, if_neg (nI_ge hc (by omega)), hW, z_b2_s, p_if0, nI_1]
      by_cases q : y_wt (y_p (y_og l s d g)) f p i
      · rw [if_pos q, if_pos q]
        cases o with
        | none =>
          rw [if_pos (show m_foI none < 0 by decide)]
          unfold g_X5_findStep_49
          rw [nI_1]
          rfl
        | some e =>
          have he : e < s.2.1 := by have := ho.1; omega
          rw [if_neg (show ¬ m_foI (some e) < 0 from nI_pos (by omega))]
          show z_b2 (f_X5_order2 (nI n) (nI i) (nI e) ν) _ = _
          rw [p_ordS hs hl hm hn d (g := g) hc he, z_b2_s]
          show _ = if (y_og l s d g).2.2.1 i < (y_og l s d g).2.2.1 e then g_X5_findStep_6 fu (nI n) d (nI f) (nI i) (nI (i + 1)) ν else g_X5_findStep_6 fu (nI n) d (nI f) (nI e) (nI (i + 1)) ν
          by_cases w : (y_og l s d g).2.2.1 i < (y_og l s d g).2.2.1 e
          · rw [if_pos w, if_pos (a_sg_1.mpr (by omega))]
            unfold g_X5_findStep_49
            rw [nI_1]
          · rw [if_neg w, if_neg (fun z => w (by have := a_sg_1.mp z; omega))]
            rfl
      · rw [if_neg q, if_neg q]
    rw [U]
    by_cases q : y_wt (y_p (y_og l s d g)) f p i
    · rw [if_pos q]
      cases o with
      | none =>
        refine ih (i + 1) fu (some i) (by omega) (by omega) ⟨by omega, q, fun c hc' hq => ?_⟩
        by_cases e : c = i
        · rw [e]
          exact Nat.le_refl _
        · exact absurd hq (ho c (by omega))
      | some e =>
        obtain ⟨o1, o2, o3⟩ := ho
        by_cases w : (y_og l s d g).2.2.1 i < (y_og l s d g).2.2.1 e
        · rw [show m_pick (some e) (g_X5_findStep_6 fu (nI n) d (nI f) (nI i) (nI (i + 1)) ν) (fun e => if (y_og l s d g).2.2.1 i < (y_og l s d g).2.2.1 e then g_X5_findStep_6 fu (nI n) d (nI f) (nI i) (nI (i + 1)) ν else g_X5_findStep_6 fu (nI n) d (nI f) (nI e) (nI (i + 1)) ν) = g_X5_findStep_6 fu (nI n) d (nI f) (nI i) (nI (i + 1)) ν from if_pos w]
          refine ih (i + 1) fu (some i) (by omega) (by omega) ⟨by omega, q, fun c hc' hq => ?_⟩
          by_cases e2 : c = i
          · rw [e2]
            exact Nat.le_refl _
          · exact Nat.le_trans (Nat.le_of_lt w) (o3 c (by omega) hq)
        · rw [show m_pick (some e) (g_X5_findStep_6 fu (nI n) d (nI f) (nI i) (nI (i + 1)) ν) (fun e => if (y_og l s d g).2.2.1 i < (y_og l s d g).2.2.1 e then g_X5_findStep_6 fu (nI n) d (nI f) (nI i) (nI (i + 1)) ν else g_X5_findStep_6 fu (nI n) d (nI f) (nI e) (nI (i + 1)) ν) = g_X5_findStep_6 fu (nI n) d (nI f) (nI e) (nI (i + 1)) ν from if_neg w]
          refine ih (i + 1) fu (some e) (by omega) (by omega) ⟨by omega, o2, fun c hc' hq => ?_⟩
          by_cases e2 : c = i
          · rw [e2]
            exact Nat.le_of_not_lt w
          · exact o3 c (by omega) hq
    · rw [if_neg q]
      refine ih (i + 1) fu o (by omega) (by omega) ?_
      cases o with
      | none =>
        intro c hc'
        by_cases e : c = i
        · rw [e]
          exact q
        · exact ho c (by omega)
      | some e =>
        obtain ⟨o1, o2, o3⟩ := ho
        refine ⟨by omega, o2, fun c hc' hq => ?_⟩
        by_cases e2 : c = i
        · rw [e2] at hq
          exact absurd hq q
        · exact o3 c (by omega) hq
/-- what the found step wants of a claim -/
def m_wf (P : y_P) (f : Nat) (p : Nat → Nat) (o : Option Nat) (c : Nat) : Nat := match o with
  | none => 0
  | some e => y_w P f (P.2.2.1 e) p c
theorem p_fs119 (hs : w_ship s) {ν' : z_M} (hu : z_un [130] ν ν') (hm : m_ctx ν n l s g) {p : Nat → Nat} {c : Nat} (hc : c < s.2.1) (h126 : ν.1 126 c = nI (p c)) (hpa : p c ≤ (s.2.2 6 c).toNatClampNeg) (k : Int32 → Int32 → Int32 → Int32 → Int32 → Int32 → z_M → Option (Int32 × z_M)) (x1 x2 x3 x4 : Int32) (a : Nat) {x w : Nat} (hx : x < 2) (hw : w = if x = 1 then (s.2.2 6 c).toNatClampNeg - p c else 0) : g_X5_findStep_119 k x1 x2 x3 x4 (nI a) (nI c) (nI x) (nI c) ν' = k x1 x2 x3 x4 (nI (a + w)) (nI (c + 1)) (z_si ν' 130 c (nI x)) := by
  have h14 : s.2.1 ≤ 14 := hs.2.1
  have hz : z_in (nI c) 15 := p_zn (by omega) (by decide)
  have ex : nI x &&& 1 = nI x := by
    have : x = 0 ∨ x = 1 := by omega
    rcases this with e | e <;> rw [e] <;> decide
  have hm' : m_ctx (z_si ν' 130 c (nI x)) n l s g := hm.un (hu.si (by simp) c (nI x)) (fun a _ _ => by simp; omega)
  unfold g_X5_findStep_119
  simp only [if_pos hz, z_st_s, z_lt_s, nI_clamp (show c < 2 ^ 31 by omega), ex]
  rw [p_si_at, p_wants hs hm' hc (by rw [p_si_ne (by decide), hu.1 126 (by decide)]; exact h126), z_b2_s, nI_1]
  have : x = 0 ∨ x = 1 := by omega
  rcases this with e | e
  · subst e
    rw [if_pos (show nI 0 = 0 from rfl), hw, if_neg (show ¬ (0 : Nat) = 1 by decide), Int32.add_zero]
    rfl
  · subst e
    rw [if_neg (show ¬ nI 1 = 0 by decide), hw, if_pos rfl, pk_sub hpa, nI_add]
theorem p_fs70 (hs : w_ship s) (hl : w_law l) (hm : m_ctx ν n l s g) (hn : n < 4) (d : Int32) {p : Nat → Nat} (hpa : ∀ c, p c ≤ (y_og l s d g).2.1 c) {f : Nat} (hf : f < 5) (h126 : ∀ c, c < s.2.1 → ν.1 126 c = nI (p c)) {o : Option Nat} (ho : ∀ e, o = some e → e < s.2.1) : ∀ m i fu ν', i + m = s.2.1 → m < fu → z_un [130] ν ν' → (∀ c, c < i → ν'.1 130 c = nI (sh_1 (m_wf (y_p (y_og l s d g)) f p o) c)) → ∃ ν'', g_X5_findStep_70 fu (nI n) d (nI f) (m_foI o) (nI (sm i (m_wf (y_p (y_og l s d g)) f p o))) (nI i) ν' = some (nI (sm s.2.1 (m_wf (y_p (y_og l s d g)) f p o)), ν'') ∧ z_un [130] ν ν'' ∧ (∀ c, c < s.2.1 → ν''.1 130 c = nI (sh_1 (m_wf (y_p (y_og l s d g)) f p o) c)) := by
  have h14 : s.2.1 ≤ 14 := hs.2.1
  intro m
  induction m with
  | zero =>
    intro i fu ν' hi hfu hu hc
    obtain ⟨fu, rfl⟩ : ∃ q, fu = q + 1 := ⟨fu - 1, by omega⟩
    have ei : i = s.2.1 := by omega
    subst ei
    refine ⟨ν', ?_, hu, hc⟩
    rw [g_X5_findStep_70]
    rw [hu.1 98 (by decide), hm.1.2.1, if_pos (nI_le (Nat.le_refl _) (by omega))]
  | succ m ih =>
    intro i fu ν' hi hfu hu hc
    obtain ⟨fu, rfl⟩ : ∃ q, fu = q + 1 := ⟨fu - 1, by omega⟩
    have hci : i < s.2.1 := by omega
    have hm' : m_ctx ν' n l s g := hm.un hu (fun a _ _ => by simp; omega)
    have h126' : ν'.1 126 i = nI (p i) := by rw [hu.1 126 (by decide)]; exact h126 i hci
    have hW := p_isWanting hs hl hm' hn d hpa hci hf h126'
    have hpi : p i ≤ (s.2.2 6 i).toNatClampNeg := by
      have h := hpa i
      have e : (y_og l s d g).2.1 i = if g i = true then 0 else (s.2.2 6 i).toNatClampNeg := rfl
      rw [e] at h
      split at h <;> omega
    have step : ∀ x, x < 2 → m_wf (y_p (y_og l s d g)) f p o i = (if x = 1 then (s.2.2 6 i).toNatClampNeg - p i else 0) → sh_1 (m_wf (y_p (y_og l s d g)) f p o) i = x → ∃ ν'', g_X5_findStep_119 (fun y27 y28 y29 y30 y31 y32 μ25 => g_X5_findStep_70 fu y27 y28 y29 y30 y31 y32 μ25) (nI n) d (nI f) (m_foI o) (nI (sm i (m_wf (y_p (y_og l s d g)) f p o))) (nI i) (nI x) (nI i) ν' = some (nI (sm s.2.1 (m_wf (y_p (y_og l s d g)) f p o)), ν'') ∧ z_un [130] ν ν'' ∧ (∀ c, c < s.2.1 → ν''.1 130 c = nI (sh_1 (m_wf (y_p (y_og l s d g)) f p o) c)) := by
      intro x hx hw hsh
      rw [p_fs119 hs hu hm hci (h126 i hci) hpi _ _ _ _ _ _ hx hw]
      have h := ih (i + 1) fu (z_si ν' 130 i (nI x)) (by omega) (by omega) (hu.si (by simp) _ _) (fun c hc' => by
        by_cases e : c = i
        · rw [e, p_si_at, hsh]
        · rw [p_si_nk e, hc c (by omega)])
      rw [sm] at h
      exact h
    rw [g_X5_findStep_70]
    rw [hu.1 98 (by decide), hm.1.2.1, if_neg (nI_ge hci (by omega))]
    cases o with
    | none =>
      rw [if_pos (show m_foI none < 0 by decide)]
      exact step 0 (by omega) rfl rfl
    | some e =>
      have he := ho e rfl
      rw [if_neg (show ¬ m_foI (some e) < 0 from nI_pos (by omega)), hW, z_b2_s, p_if0]
      have hwf : m_wf (y_p (y_og l s d g)) f p (some e) i = y_w (y_p (y_og l s d g)) f ((y_p (y_og l s d g)).2.2.1 e) p i := rfl
      by_cases q : y_wt (y_p (y_og l s d g)) f p i
      · rw [if_pos q]
        show ∃ ν'', z_b2 (f_X5_order2 (nI n) (nI i) (nI e) ν') _ = _ ∧ _
        rw [p_ordS hs hl hm' hn d (g := g) hci he, z_b2_s]
        have hA : (y_p (y_og l s d g)).2.1 i = (s.2.2 6 i).toNatClampNeg := by
          have h := q.2
          have e : (y_p (y_og l s d g)).2.1 i = if g i = true then 0 else (s.2.2 6 i).toNatClampNeg := rfl
          rw [e] at h ⊢
          split at h
          · omega
          · next w => rw [if_neg w]
        by_cases w : (y_og l s d g).2.2.1 i = (y_og l s d g).2.2.1 e
        · rw [if_pos (a_sg_z.mpr (by omega))]
          have hv : m_wf (y_p (y_og l s d g)) f p (some e) i = (s.2.2 6 i).toNatClampNeg - p i := by
            rw [hwf]
            unfold y_w
            rw [if_pos ⟨hci, q.1, w⟩, hA]
          refine step 1 (by omega) (by rw [if_pos rfl]; exact hv) ?_
          unfold sh_1
          rw [hv, if_pos (by have := q.2; omega)]
        · rw [if_neg (fun z => w (by have := a_sg_z.mp z; omega))]
          have hv : m_wf (y_p (y_og l s d g)) f p (some e) i = 0 := by
            rw [hwf]
            unfold y_w
            rw [if_neg (fun z => w z.2.2)]
          refine step 0 (by omega) hv ?_
          unfold sh_1
          rw [hv]
          rfl
      · rw [if_neg q]
        have hv : m_wf (y_p (y_og l s d g)) f p (some e) i = 0 := by
          rw [hwf]
          unfold y_w
          split
          · next z =>
            rcases Nat.lt_or_ge (p i) ((y_p (y_og l s d g)).2.1 i) with u | u
            · exact absurd ⟨z.2.1, u⟩ q
            · omega
          · rfl
        refine step 0 (by omega) hv ?_
        unfold sh_1
        rw [hv]
        rfl
theorem p_findStep (hs : w_ship s) (hl : w_law l) (hm : m_ctx ν n l s g) (hn : n < 4) (d : Int32) {p : Nat → Nat} (hpa : ∀ c, p c ≤ (y_og l s d g).2.1 c) {f : Nat} (hf : f < 5) (h126 : ∀ c, c < s.2.1 → ν.1 126 c = nI (p c)) : ∃ o ν', m_found (y_p (y_og l s d g)) f p o s.2.1 ∧ f_X5_findStep (nI n) d (nI f) ν = some (nI (sm s.2.1 (m_wf (y_p (y_og l s d g)) f p o)), ν') ∧ z_un [130] ν ν' ∧ (∀ c, c < s.2.1 → ν'.1 130 c = nI (sh_1 (m_wf (y_p (y_og l s d g)) f p o) c)) := by
  have h14 : s.2.1 ≤ 14 := hs.2.1
  have hN : z_N = 5000 := rfl
  obtain ⟨o, h1, h2⟩ := p_fs6 hs hl hm hn d hpa hf h126 s.2.1 0 z_N none (by omega) (by omega) (fun c hc => by omega)
  obtain ⟨ν', h3, h4, h5⟩ := p_fs70 hs hl hm hn d hpa hf h126 (o := o) (fun e he => by rw [he] at h1; exact h1.1) s.2.1 0 z_N ν (by omega) (by omega) (z_un.rf _ _) (fun c hc => by omega)
  exact ⟨o, ν', h1, h2.trans h3, h4, h5⟩
end
