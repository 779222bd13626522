/-! THE FRAMEWORK: a method's run over a fixed world of numbered cells. z_M: the memory (ints, longs, references by cell and slot); z_H: a cell's shape; z_J: from this pc, with these locals, this stack and this memory the machine comes to the method's end; z_C: a method's contract. -/
abbrev z_M : Type := (Nat → Nat → Int32) × (Nat → Nat → Int64) × (Nat → Nat → Option Nat)
/-- an array: number of its type (0 int, 1 boolean, 2 .. references), length; an object: number of its class, kinds of its fields (0 int, 1 long, 2 reference) -/
abbrev z_H : Type := (Nat × Nat) ⊕ (Nat × List Nat)
def z_v (ad : Nat → Nat) (v : Value) : Value := match v with
  | .ref i => .ref (ad i)
  | w => w
def z_f (ad : Nat → Nat) (μ : z_M) (i k q : Nat) : Value := match q with
  | 0 => .int (μ.1 i k)
  | 1 => .long (μ.2.1 i k)
  | _ => va_rf ((μ.2.2 i k).map ad)
def z_e (ad : Nat → Nat) (dA : Nat → ClassId) (μ : z_M) (i : Nat) (h : z_H) : va_E := match h with
  | .inl (t, n) => .inl (dA t, n, if t < 2 then .inl (μ.1 i) else .inr (.inr (.inr (.inr (fun k => (μ.2.2 i k).map ad)))))
  | .inr (ci, ks) => .inr (ci, ks.mapIdx (fun k q => z_f ad μ i k q))
def z_w (ad : Nat → Nat) (dA : Nat → ClassId) (sh : List z_H) (μ : z_M) : va_W := sh.mapIdx (fun i h => (ad i, z_e ad dA μ i h))
theorem z_w_get {ad : Nat → Nat} {dA : Nat → ClassId} {sh : List z_H} {μ : z_M} {i : Nat} {h : z_H} (hi : sh[i]? = some h) : (z_w ad dA sh μ)[i]? = some (ad i, z_e ad dA μ i h) := by
  simp [z_w, List.getElem?_mapIdx, hi]
theorem z_w_set {ad : Nat → Nat} {dA : Nat → ClassId} {sh : List z_H} {μ μ' : z_M} {i : Nat} {h : z_H} (hi : sh[i]? = some h) (ho : ∀ j : Nat, j ≠ i → ∀ g : z_H, z_e ad dA μ' j g = z_e ad dA μ j g) : (z_w ad dA sh μ).set i (ad i, z_e ad dA μ' i h) = z_w ad dA sh μ' := by
  apply List.ext_getElem?
  intro j
  by_cases hj : j = i
  · subst hj
    rw [z_w_get hi, List.getElem?_set_self]
    have := (List.getElem?_eq_some_iff.mp hi).1
    simpa [z_w] using this
  · rw [List.getElem?_set_ne (Ne.symm hj)]
    simp only [z_w, List.getElem?_mapIdx]
    cases sh[j]? with
    | none => rfl
    | some g => simp only [Option.map_some, ho j hj g]
/-- the world's addresses, whatever it holds -/
theorem z_D_any {A : Nat → Prop} {ad : Nat → Nat} {dA : Nat → ClassId} {sh : List z_H} {μ : z_M} (μ' : z_M) (h : va_D A (z_w ad dA sh μ)) : va_D A (z_w ad dA sh μ') := by
  have key : ∀ (k : Nat) (q : Nat × va_E), (z_w ad dA sh μ')[k]? = some q → ∃ q0, (z_w ad dA sh μ)[k]? = some q0 ∧ q0.1 = q.1 := by
    intro k q hk
    simp only [z_w, List.getElem?_mapIdx] at hk ⊢
    cases hs : sh[k]? with
    | none => rw [hs] at hk; cases hk
    | some g => rw [hs] at hk; cases hk; exact ⟨_, rfl, rfl⟩
  refine ⟨fun i j x y hi hj hxy => ?_, fun k q hk => ?_⟩
  · obtain ⟨x0, h1, h2⟩ := key i x hi
    obtain ⟨y0, h3, h4⟩ := key j y hj
    exact h.1 i j x0 y0 h1 h3 (h2.trans (hxy.trans h4.symm))
  · obtain ⟨q0, h1, h2⟩ := key k q hk
    rw [← h2]
    exact h.2 k q0 h1
theorem z_A_any {ad : Nat → Nat} {dA : Nat → ClassId} {sh : List z_H} {μ μ' : z_M} {sz q : Nat} (h : va_A (z_w ad dA sh μ) sz q) : va_A (z_w ad dA sh μ') sz q := by
  rcases h with ⟨k, e, hk⟩ | h
  · refine Or.inl ⟨k, ?_⟩
    simp only [z_w, List.getElem?_mapIdx] at hk ⊢
    cases hs : sh[k]? with
    | none => rw [hs] at hk; cases hk
    | some g => rw [hs] at hk; cases hk; exact ⟨_, rfl⟩
  · exact Or.inr h
/-- one int, one long, one reference is set -/
def z_si (μ : z_M) (i k : Nat) (x : Int32) : z_M := (fun a => if a = i then upd (μ.1 i) k x else μ.1 a, μ.2)
def z_sl (μ : z_M) (i k : Nat) (x : Int64) : z_M := (μ.1, fun a => if a = i then vp_updL (μ.2.1 i) k x else μ.2.1 a, μ.2.2)
def z_sr (μ : z_M) (i k : Nat) (x : Option Nat) : z_M := (μ.1, μ.2.1, fun a => if a = i then va_up (μ.2.2 i) k x else μ.2.2 a)
/-- a whole row of ints is set -/
def z_sw (μ : z_M) (i : Nat) (f : Nat → Int32) : z_M := (fun a => if a = i then f else μ.1 a, μ.2)
theorem z_e_si {ad : Nat → Nat} {dA : Nat → ClassId} {μ : z_M} {i k : Nat} {x : Int32} : ∀ j : Nat, j ≠ i → ∀ g : z_H, z_e ad dA (z_si μ i k x) j g = z_e ad dA μ j g := by
  intro j hj g
  have e : (z_si μ i k x).1 j = μ.1 j := if_neg hj
  rcases g with ⟨t, n⟩ | ⟨ci, ks⟩
  · simp only [z_e, e]; rfl
  · have e2 : z_f ad (z_si μ i k x) j = z_f ad μ j := by
      funext k q
      match q with
      | 0 => simp only [z_f, e]
      | 1 => rfl
      | (n + 2) => rfl
    simp only [z_e, e2]
theorem z_e_sw {ad : Nat → Nat} {dA : Nat → ClassId} {μ : z_M} {i : Nat} {f : Nat → Int32} : ∀ j : Nat, j ≠ i → ∀ g : z_H, z_e ad dA (z_sw μ i f) j g = z_e ad dA μ j g := by
  intro j hj g
  have e : (z_sw μ i f).1 j = μ.1 j := if_neg hj
  rcases g with ⟨t, n⟩ | ⟨ci, ks⟩
  · simp only [z_e, e]; rfl
  · have e2 : z_f ad (z_sw μ i f) j = z_f ad μ j := by
      funext k q
      match q with
      | 0 => simp only [z_f, e]
      | 1 => rfl
      | (n + 2) => rfl
    simp only [z_e, e2]
theorem z_e_sl {ad : Nat → Nat} {dA : Nat → ClassId} {μ : z_M} {i k : Nat} {x : Int64} : ∀ j : Nat, j ≠ i → ∀ g : z_H, z_e ad dA (z_sl μ i k x) j g = z_e ad dA μ j g := by
  intro j hj g
  have e : (z_sl μ i k x).2.1 j = μ.2.1 j := if_neg hj
  rcases g with ⟨t, n⟩ | ⟨ci, ks⟩
  · rfl
  · have e2 : z_f ad (z_sl μ i k x) j = z_f ad μ j := by
      funext k q
      match q with
      | 0 => rfl
      | 1 => simp only [z_f, e]
      | (n + 2) => rfl
    simp only [z_e, e2]
theorem z_e_sr {ad : Nat → Nat} {dA : Nat → ClassId} {μ : z_M} {i k : Nat} {x : Option Nat} : ∀ j : Nat, j ≠ i → ∀ g : z_H, z_e ad dA (z_sr μ i k x) j g = z_e ad dA μ j g := by
  intro j hj g
  have e : (z_sr μ i k x).2.2 j = μ.2.2 j := if_neg hj
  rcases g with ⟨t, n⟩ | ⟨ci, ks⟩
  · simp only [z_e, e]; rfl
  · have e2 : z_f ad (z_sr μ i k x) j = z_f ad μ j := by
      funext k q
      match q with
      | 0 => rfl
      | 1 => rfl
      | (n + 2) => simp only [z_f, e]
    simp only [z_e, e2]
theorem z_fs_set {ad : Nat → Nat} {μ μ' : z_M} {i k q : Nat} {ks : List Nat} (hk : ks[k]? = some q) (ho : ∀ j, j ≠ k → ∀ r, z_f ad μ' i j r = z_f ad μ i j r) : (ks.mapIdx (fun k q => z_f ad μ i k q)).set k (z_f ad μ' i k q) = ks.mapIdx (fun k q => z_f ad μ' i k q) := by
  apply List.ext_getElem?
  intro j
  by_cases hj : j = k
  · subst hj
    rw [List.getElem?_set_self (by have := (List.getElem?_eq_some_iff.mp hk).1; simpa using this)]
    simp [List.getElem?_mapIdx, hk]
  · rw [List.getElem?_set_ne (Ne.symm hj)]
    simp only [List.getElem?_mapIdx]
    cases ks[j]? with
    | none => rfl
    | some r => simp only [Option.map_some, ho j hj r]
theorem z_f_si {ad : Nat → Nat} {μ : z_M} {i k : Nat} {x : Int32} : ∀ j, j ≠ k → ∀ r, z_f ad (z_si μ i k x) i j r = z_f ad μ i j r := by
  intro j hj r
  match r with
  | 0 => simp [z_f, z_si, upd, hj]
  | 1 => rfl
  | (n + 2) => rfl
theorem z_f_sl {ad : Nat → Nat} {μ : z_M} {i k : Nat} {x : Int64} : ∀ j, j ≠ k → ∀ r, z_f ad (z_sl μ i k x) i j r = z_f ad μ i j r := by
  intro j hj r
  match r with
  | 0 => rfl
  | 1 => simp [z_f, z_sl, vp_updL, hj]
  | (n + 2) => rfl
theorem z_f_sr {ad : Nat → Nat} {μ : z_M} {i k : Nat} {x : Option Nat} : ∀ j, j ≠ k → ∀ r, z_f ad (z_sr μ i k x) i j r = z_f ad μ i j r := by
  intro j hj r
  match r with
  | 0 => rfl
  | 1 => rfl
  | (n + 2) => simp [z_f, z_sr, va_up, hj]
/-! locals: by place; what is unset or not known is none -/
abbrev z_L : Type := List (Option Value)
def z_hl (ls : Array Slot) (nL : Nat) (ad : Nat → Nat) (L : z_L) : Prop := ls.size = nL ∧ lv_wf ls ∧ ∀ (i : Nat) (v : Value), L[i]? = some (some v) → ls[i]? = some (.val (z_v ad v))
def z_lv (ad : Nat → Nat) (L : z_L) : List (Nat × Value) := (List.range L.length).filterMap (fun i => match L[i]? with
  | some (some v) => some (i, z_v ad v)
  | _ => none)
theorem z_lv_mem {ad : Nat → Nat} {L : z_L} {i : Nat} {v : Value} (h : L[i]? = some (some v)) : (i, z_v ad v) ∈ z_lv ad L := by
  refine List.mem_filterMap.mpr ⟨i, List.mem_range.mpr (List.getElem?_eq_some_iff.mp h).1, ?_⟩
  simp [h]
theorem z_lv_of {ad : Nat → Nat} {L : z_L} {q : Nat × Value} (h : q ∈ z_lv ad L) : ∃ v, L[q.1]? = some (some v) ∧ q.2 = z_v ad v := by
  obtain ⟨i, -, hi⟩ := List.mem_filterMap.mp h
  split at hi
  · next v hv => cases hi; exact ⟨v, hv, rfl⟩
  · cases hi
theorem z_hl.has {ls : Array Slot} {nL : Nat} {ad : Nat → Nat} {L : z_L} (h : z_hl ls nL ad L) : lv_has ls nL (z_lv ad L) := by
  refine ⟨h.1, h.2.1, fun q hq => ?_⟩
  obtain ⟨v, h1, h2⟩ := z_lv_of hq
  rw [h2]
  exact h.2.2 _ _ h1
theorem z_hl.at {ls : Array Slot} {nL : Nat} {ad : Nat → Nat} {L : z_L} (h : z_hl ls nL ad L) {i : Nat} {v : Value} (hv : L[i]? = some (some v)) : ls[i]? = some (.val (z_v ad v)) := h.2.2 i v hv
/-- no long stands one place ahead of i -/
def z_nl (L : z_L) (i : Nat) : Bool := match i with
  | 0 => true
  | j + 1 => match L[j]? with
    | some (some (.long _)) => false
    | some (some (.double _)) => false
    | _ => true
theorem z_cat {v : Value} (h : v.category = 2) : (∃ x, v = .long x) ∨ ∃ x, v = .double x := by
  cases v <;> simp [Value.category] at h ⊢
theorem z_v_cat {ad : Nat → Nat} {v : Value} : (z_v ad v).category = v.category := by
  cases v <;> rfl
theorem z_store1 {ls : Array Slot} {nL : Nat} {ad : Nat → Nat} {L : z_L} {i : Nat} {v : Value} (hz : z_nl L i = true) (h : lv_has ls nL ((i, z_v ad v) :: (z_lv ad L).filter (fun q => !(q.1 == i) && !(q.1 + 1 == i && q.2.category == 2)))) : z_hl ls nL ad (L.set i (some v)) := by
  refine ⟨h.1, h.2.1, fun j w hw => ?_⟩
  by_cases hj : j = i
  · subst hj
    rw [List.getElem?_set_self (by have := (List.getElem?_eq_some_iff.mp hw).1; simpa using this)] at hw
    cases hw
    exact h.2.2 (j, z_v ad v) List.mem_cons_self
  · rw [List.getElem?_set_ne (Ne.symm hj)] at hw
    refine h.2.2 (j, z_v ad w) (List.mem_cons_of_mem _ (List.mem_filter.mpr ⟨z_lv_mem hw, ?_⟩))
    have h1 : (j == i) = false := by simp [hj]
    simp only [h1, Bool.not_false, Bool.true_and, Bool.not_eq_true']
    rw [Bool.and_eq_false_iff]
    by_cases hji : j + 1 = i
    · right
      subst hji
      rw [beq_eq_false_iff_ne, z_v_cat]
      intro hc
      rcases z_cat hc with ⟨x, rfl⟩ | ⟨x, rfl⟩ <;> simp [z_nl, hw] at hz
    · left
      simp [hji]
theorem z_store2 {ls : Array Slot} {nL : Nat} {ad : Nat → Nat} {L : z_L} {i : Nat} {v : Value} (hz : z_nl L i = true) (h : lv_has ls nL ((i, z_v ad v) :: (z_lv ad L).filter (fun q => !(q.1 == i) && (!(q.1 == i + 1) && !(q.1 + 1 == i && q.2.category == 2))))) : z_hl ls nL ad ((L.set i (some v)).set (i + 1) none) := by
  refine ⟨h.1, h.2.1, fun j w hw => ?_⟩
  by_cases hj1 : j = i + 1
  · subst hj1
    have hlt := (List.getElem?_eq_some_iff.mp hw).1
    rw [List.getElem?_set_self (by simpa using hlt)] at hw
    cases hw
  rw [List.getElem?_set_ne (Ne.symm hj1)] at hw
  by_cases hj : j = i
  · subst hj
    rw [List.getElem?_set_self (by have := (List.getElem?_eq_some_iff.mp hw).1; simpa using this)] at hw
    cases hw
    exact h.2.2 (j, z_v ad v) List.mem_cons_self
  · rw [List.getElem?_set_ne (Ne.symm hj)] at hw
    refine h.2.2 (j, z_v ad w) (List.mem_cons_of_mem _ (List.mem_filter.mpr ⟨z_lv_mem hw, ?_⟩))
    have h1 : (j == i) = false := by simp [hj]
    have h2 : (j == i + 1) = false := by simp [hj1]
    simp only [h1, h2, Bool.not_false, Bool.true_and, Bool.not_eq_true']
    rw [Bool.and_eq_false_iff]
    by_cases hji : j + 1 = i
    · right
      subst hji
      rw [beq_eq_false_iff_ne, z_v_cat]
      intro hc
      rcases z_cat hc with ⟨x, rfl⟩ | ⟨x, rfl⟩ <;> simp [z_nl, hw] at hz
    · left
      simp [hji]
/-- fewer locals are known: those with true stay -/
def z_mk (b : List Bool) (L : z_L) : z_L := List.zipWith (fun x v => if x then v else none) b L
theorem z_hl.mk {ls : Array Slot} {nL : Nat} {ad : Nat → Nat} {L : z_L} (h : z_hl ls nL ad L) (b : List Bool) : z_hl ls nL ad (z_mk b L) := by
  refine ⟨h.1, h.2.1, fun i v hv => ?_⟩
  unfold z_mk at hv
  rw [List.getElem?_zipWith] at hv
  cases hb : b[i]? with
  | none => rw [hb] at hv; cases hv
  | some x =>
    cases hL : L[i]? with
    | none => rw [hb, hL] at hv; cases hv
    | some w =>
      rw [hb, hL] at hv
      cases x with
      | false => cases hv
      | true => 
        have e : w = some v := by simpa using hv
        exact h.2.2 i v (by rw [hL, e])
/-- the locals at a method's entry -/
def z_en (nL : Nat) : List Value → z_L
  | [] => List.replicate nL none
  | v :: vs => if v.category = 2 then some v :: none :: z_en (nL - 2) vs else some v :: z_en (nL - 1) vs
theorem z_en_get {ad : Nat → Nat} : ∀ (vs : List Value) (nL b i : Nat) (v : Value), (z_en nL vs)[i]? = some (some v) → (b + i, z_v ad v) ∈ lv_args b (vs.map (z_v ad))
  | [], nL, b, i, v, h => by
    simp only [z_en] at h
    rw [List.getElem?_replicate] at h
    split at h <;> simp at h
  | w :: vs, nL, b, i, v, h => by
    simp only [z_en] at h
    simp only [List.map_cons, lv_args]
    by_cases hc : w.category = 2
    · rw [if_pos hc] at h
      rw [if_pos (by rw [z_v_cat]; exact hc)]
      match i, h with
      | 0, h => simp at h; subst h; exact List.mem_cons_self
      | 1, h => simp at h
      | i + 2, h =>
        have h1 := z_en_get (ad := ad) vs (nL - 2) (b + 2) i v (by simpa using h)
        rw [show b + 2 + i = b + (i + 2) by omega] at h1
        exact List.mem_cons_of_mem _ h1
    · rw [if_neg hc] at h
      rw [if_neg (by rw [z_v_cat]; exact hc)]
      match i, h with
      | 0, h => simp at h; subst h; exact List.mem_cons_self
      | i + 1, h =>
        have h1 := z_en_get (ad := ad) vs (nL - 1) (b + 1) i v (by simpa using h)
        rw [show b + 1 + i = b + (i + 1) by omega] at h1
        exact List.mem_cons_of_mem _ h1
