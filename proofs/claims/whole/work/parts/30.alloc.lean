/-! NEW CELLS: the world grows; constructors -/
abbrev z_ad (G : z_Gl) : Nat → Nat := G.2.2.1
abbrev z_Rm (E : z_E) : Room := E.2.2.2.1
abbrev z_St (E : z_E) : State := E.2.2.2.2.1
abbrev z_Mt (E : z_E) : Method := E.2.2.2.2.2.2.2.2.1
abbrev z_kc (E : z_E) : Nat := E.2.2.2.2.2.2.2.2.2.2.2.2.1
abbrev z_ks (E : z_E) : Nat := E.2.2.2.2.2.2.2.2.2.2.2.2.2
def z_up (E : z_E) (ad : Nat → Nat) (shs : List z_H) (mc ms : Nat) : z_E := match E with
  | ((l, D, _, dA, sh), p, e, R, s, m, args, below, meth, c, Q, A, kc, ks) => ((l, D, ad, dA, sh ++ shs), p, e, R, s, m, args, below, meth, c, Q, A, kc + mc, ks + ms)
/-- E' is E with more cells -/
def z_gr (E E' : z_E) (shs : List z_H) (mc ms : Nat) : Prop := ∃ ad : Nat → Nat, (∀ i : Nat, i < (z_sh E.1).length ∨ 500 ≤ i → ad i = z_ad E.1 i) ∧ E' = z_up E ad shs mc ms
theorem z_gr.sh {E E' : z_E} {shs : List z_H} {mc ms : Nat} (g : z_gr E E' shs mc ms) : z_sh E'.1 = z_sh E.1 ++ shs := by
  obtain ⟨ad, -, rfl⟩ := g
  rfl
theorem z_gr.len {E E' : z_E} {shs : List z_H} {mc ms n : Nat} (g : z_gr E E' shs mc ms) (h : (z_sh E.1).length = n) : (z_sh E'.1).length = n + shs.length := by
  rw [g.sh, List.length_append, h]
theorem z_gr.get {E E' : z_E} {shs : List z_H} {mc ms i : Nat} {x : z_H} (g : z_gr E E' shs mc ms) (h : (z_sh E.1)[i]? = some x) : (z_sh E'.1)[i]? = some x := by
  rw [g.sh, List.getElem?_append_left (List.getElem?_eq_some_iff.mp h).1]
  exact h
/-- counts of what is made, and the room -/
def z_cn (E : z_E) (kc ks mc ms : Nat) : Prop := z_kc E = kc ∧ z_ks E = ks ∧ (z_Rm E).cells = mc ∧ (z_Rm E).slots = ms
theorem z_gr.cn {E E' : z_E} {shs : List z_H} {a b kc ks mc ms : Nat} (g : z_gr E E' shs a b) (h : z_cn E kc ks mc ms) : z_cn E' (kc + a) (ks + b) mc ms := by
  obtain ⟨ad, -, rfl⟩ := g
  obtain ⟨h1, h2, h3, h4⟩ := h
  exact ⟨by show z_kc E + a = _; rw [h1], by show z_ks E + b = _; rw [h2], h3, h4⟩
theorem z_gr.nm {E E' : z_E} {shs : List z_H} {a b : Nat} {x : String} (g : z_gr E E' shs a b) (h : (z_Mt E).name = x) : (z_Mt E').name = x := by
  obtain ⟨ad, -, rfl⟩ := g
  exact h
theorem z_gr.st {E E' : z_E} {shs : List z_H} {a b : Nat} (g : z_gr E E' shs a b) : z_St E' = z_St E := by
  obtain ⟨ad, -, rfl⟩ := g
  rfl
/-- cells from n on are blank, references lead to cells below n -/
def z_fr (μ : z_M) (n : Nat) : Prop := (∀ i : Nat, n ≤ i → ∀ k : Nat, μ.1 i k = 0 ∧ μ.2.1 i k = 0 ∧ μ.2.2 i k = none) ∧ ∀ i k r : Nat, μ.2.2 i k = some r → r < n
theorem z_fr.up {μ : z_M} {n m : Nat} (h : z_fr μ n) (hm : n ≤ m) : z_fr μ m := ⟨fun i hi k => h.1 i (Nat.le_trans hm hi) k, fun i k r hr => Nat.lt_of_lt_of_le (h.2 i k r hr) hm⟩
theorem z_fr.sr {μ : z_M} {n o k r : Nat} (h : z_fr μ n) (ho : o < n) (hr : r < n) : z_fr (z_sr μ o k (some r)) n := by
  refine ⟨fun i hi j => ?_, fun i j q hq => ?_⟩
  · have e : (z_sr μ o k (some r)).2.2 i = μ.2.2 i := if_neg (by omega)
    refine ⟨(h.1 i hi j).1, (h.1 i hi j).2.1, ?_⟩
    rw [e]
    exact (h.1 i hi j).2.2
  · by_cases hi : i = o
    · subst hi
      by_cases hj : j = k
      · subst hj
        simp [z_sr, va_up] at hq
        omega
      · have e : (z_sr μ i k (some r)).2.2 i j = μ.2.2 i j := by simp [z_sr, va_up, hj]
        rw [e] at hq
        exact h.2 i j q hq
    · have e : (z_sr μ o k (some r)).2.2 i j = μ.2.2 i j := by simp [z_sr, hi]
      rw [e] at hq
      exact h.2 i j q hq
theorem z_fr.si {μ : z_M} {n o k : Nat} {x : Int32} (h : z_fr μ n) (ho : o < n) : z_fr (z_si μ o k x) n := by
  refine ⟨fun i hi j => ?_, h.2⟩
  have e : (z_si μ o k x).1 i = μ.1 i := if_neg (by omega)
  refine ⟨?_, (h.1 i hi j).2.1, (h.1 i hi j).2.2⟩
  rw [e]
  exact (h.1 i hi j).1
/-- references to old cells alone -/
def z_ol (n : Nat) (v : Value) : Prop := match v with
  | .ref i => i < n ∨ 500 ≤ i
  | _ => True
def z_olL (n : Nat) : z_L → Prop
  | [] => True
  | none :: L => z_olL n L
  | some v :: L => z_ol n v ∧ z_olL n L
def z_olS (n : Nat) : List Value → Prop
  | [] => True
  | v :: st => z_ol n v ∧ z_olS n st
theorem z_olL_get {n : Nat} : ∀ {L : z_L} {i : Nat} {v : Value}, z_olL n L → L[i]? = some (some v) → z_ol n v
  | [], i, v, _, h => by simp at h
  | none :: L, 0, v, _, h => by simp at h
  | none :: L, i + 1, v, hL, h => z_olL_get (L := L) (i := i) hL (by simpa using h)
  | some w :: L, 0, v, hL, h => by
    simp at h
    subst h
    exact hL.1
  | some w :: L, i + 1, v, hL, h => z_olL_get (L := L) (i := i) hL.2 (by simpa using h)
theorem z_ol_v {n : Nat} {ad ad' : Nat → Nat} {v : Value} (ha : ∀ i : Nat, i < n ∨ 500 ≤ i → ad' i = ad i) (h : z_ol n v) : z_v ad' v = z_v ad v := by
  cases v <;> first | rfl | (simp only [z_v]; rw [ha _ h])
theorem z_ol_hl {n nL : Nat} {ad ad' : Nat → Nat} {ls : Array Slot} {L : z_L} (ha : ∀ i : Nat, i < n ∨ 500 ≤ i → ad' i = ad i) (hL : z_olL n L) (h : z_hl ls nL ad L) : z_hl ls nL ad' L :=
  ⟨h.1, h.2.1, fun i v hv => by rw [z_ol_v ha (z_olL_get hL hv)]; exact h.2.2 i v hv⟩
theorem z_ol_st {n : Nat} {ad ad' : Nat → Nat} (ha : ∀ i : Nat, i < n ∨ 500 ≤ i → ad' i = ad i) : ∀ {st : List Value}, z_olS n st → st.map (z_v ad') = st.map (z_v ad)
  | [], _ => rfl
  | v :: st, h => by rw [List.map_cons, List.map_cons, z_ol_v ha h.1, z_ol_st ha h.2]
theorem z_e_ad {n : Nat} {ad ad' : Nat → Nat} {dA : Nat → ClassId} {μ : z_M} (ha : ∀ i : Nat, i < n ∨ 500 ≤ i → ad' i = ad i) (hf : ∀ i k r : Nat, μ.2.2 i k = some r → r < n) (i : Nat) (h : z_H) : z_e ad' dA μ i h = z_e ad dA μ i h := by
  have e : ∀ k : Nat, (μ.2.2 i k).map ad' = (μ.2.2 i k).map ad := by
    intro k
    cases hr : μ.2.2 i k with
    | none => rfl
    | some r => simp only [Option.map_some]; rw [ha r (Or.inl (hf i k r hr))]
  rcases h with ⟨t, N⟩ | ⟨ci, ks⟩
  · simp only [z_e, e]
  · have e2 : z_f ad' μ i = z_f ad μ i := by
      funext k q
      match q with
      | 0 => rfl
      | 1 => rfl
      | (m + 2) => simp only [z_f, e]
    simp only [z_e, e2]
theorem z_w_grow {n : Nat} {ad ad' : Nat → Nat} {dA : Nat → ClassId} {sh : List z_H} {μ : z_M} (hn : sh.length = n) (ha : ∀ i : Nat, i < n ∨ 500 ≤ i → ad' i = ad i) (hf : ∀ i k r : Nat, μ.2.2 i k = some r → r < n) (h : z_H) : z_w ad' dA (sh ++ [h]) μ = z_w ad dA sh μ ++ [(ad' n, z_e ad dA μ n h)] := by
  apply List.ext_getElem?
  intro i
  have hl : (z_w ad dA sh μ).length = n := by simp [z_w, hn]
  by_cases hi : i < n
  · rw [List.getElem?_append_left (by rw [hl]; exact hi)]
    simp only [z_w, List.getElem?_mapIdx]
    rw [List.getElem?_append_left (by rw [hn]; exact hi)]
    cases sh[i]? with
    | none => rfl
    | some x => simp only [Option.map_some]; rw [ha i (Or.inl hi), z_e_ad ha hf]
  · rw [List.getElem?_append_right (by rw [hl]; omega)]
    simp only [z_w, List.getElem?_mapIdx]
    rw [List.getElem?_append_right (by rw [hn]; omega), hn]
    have hl2 : (List.mapIdx (fun i h => (ad i, z_e ad dA μ i h)) sh).length = n := by simp [hn]
    rw [hl2]
    by_cases h0 : i = n
    · subst h0
      simp [z_e_ad ha hf]
    · have h1 : ([h] : List z_H)[i - n]? = none := List.getElem?_eq_none (by simp; omega)
      have h2 : ([(ad' n, z_e ad dA μ n h)] : va_W)[i - n]? = none := List.getElem?_eq_none (by simp; omega)
      rw [h1, h2]
      rfl
theorem z_X.ad {ad ad' : Nat → Nat} {A : Nat → Prop} {U : State} {H : Heap} (h : z_X ad A U H) (ha : ∀ i : Nat, 500 ≤ i → ad' i = ad i) : z_X ad' A U H := by
  obtain ⟨h1, h2, h3, h4, w, hw, h5⟩ := h
  have e1 : (fun i => ad' (1000 + i)) = fun i => ad (1000 + i) := funext fun i => ha _ (by omega)
  have e2 : (fun i => ad' (1010 + i)) = fun i => ad (1010 + i) := funext fun i => ha _ (by omega)
  refine ⟨h1, fun i q hi => ?_, by rw [e1, e2]; exact h3, h4, w, hw, ?_⟩
  · rw [ha (1000 + i) (by omega)]
    exact h2 i q hi
  · have e3 : z_v ad' w = z_v ad w := by
      rcases hw with rfl | rfl
      · rfl
      · simp only [z_v]; rw [ha 1020 (by omega)]
    rw [e3]
    exact h5
def z_adn (ad : Nat → Nat) (n q : Nat) : Nat → Nat := fun i => if i = n then q else ad i
theorem z_adn_old {ad : Nat → Nat} {n q : Nat} (h5 : n < 500) : ∀ i : Nat, i < n ∨ 500 ≤ i → z_adn ad n q i = ad i := fun i hi => if_neg (by omega)
theorem z_adn_new {ad : Nat → Nat} {n q : Nat} : z_adn ad n q n = q := if_pos rfl
/-- one cell more: what is behind it -/
theorem z_born {l : Launch} {D : va_G} {ad : Nat → Nat} {dA : Nat → ClassId} {sh : List z_H} {p : Program} {e : Env} {R : Room} {s : State} {m : MethodId} {args : Array Value} {below : List Frame} {meth : Method} {c : Code} {Q : State → Prop} {A : Nat → Prop} {kc ks : Nat} {own : String} {cc : ByteArray} {nL d n N q pc : Nat} {L : z_L} {st : List Value} {μ : z_M} {h : z_H} {H1 : Heap} {locs : List Loc} {ls : Array Slot}
    (F : z_F ((l, D, ad, dA, sh), p, e, R, s, m, args, below, meth, c, Q, A, kc, ks) own cc nL d) (hn : sh.length = n) (h5 : n < 500) (hfr : z_fr μ n) (hL : z_olL n L) (hSt : z_olS n st) (hrc : kc + 1 ≤ R.cells) (hrs : ks + N ≤ R.slots) (hl : z_hl ls nL ad L)
    (hP1 : va_P D z_cl (z_w ad dA sh μ ++ [(q, z_e ad dA μ n h)]) H1) (hD1 : va_D A (z_w ad dA sh μ ++ [(q, z_e ad dA μ n h)])) (hS1 : va_S A s.heap H1 locs)
    (kk : ∀ E' : z_E, z_gr ((l, D, ad, dA, sh), p, e, R, s, m, args, below, meth, c, Q, A, kc, ks) E' [h] 1 N → z_F E' own cc nL d → z_J E' nL pc L (.ref n :: st) μ) : W p l e R s m args below meth c H1 locs (kc + 1) (ks + N) Q (F0 m pc ls (.ref q :: st.map (z_v ad))) := by
  obtain ⟨hx, hb, hml, hown, hts, hK, hD, hA, hX, hd1, hd2, hc1, hc2⟩ := F
  have ha := z_adn_old (ad := ad) (q := q) h5
  have he : z_w (z_adn ad n q) dA (sh ++ [h]) μ = z_w ad dA sh μ ++ [(q, z_e ad dA μ n h)] := by rw [z_w_grow hn ha hfr.2 h, z_adn_new]
  have hw := kk (z_up ((l, D, ad, dA, sh), p, e, R, s, m, args, below, meth, c, Q, A, kc, ks) (z_adn ad n q) [h] 1 N) ⟨_, fun i hi => ha i (by rw [← hn]; exact hi), rfl⟩
    ⟨hx, hb, hml, hown, hts, hK, fun μ' => z_D_any μ' (μ := μ) (by rw [he]; exact hD1), hA, hX.ad (fun i hi => ha i (Or.inr hi)), hd1, hd2, hrc, hrs⟩ H1 locs ls (by rw [he]; exact hP1) hS1 (z_ol_hl ha hL hl)
  have e1 : (Value.ref n :: st).map (z_v (z_adn ad n q)) = .ref q :: st.map (z_v ad) := by
    rw [List.map_cons, z_ol_st ha hSt]
    simp only [z_v, z_adn_new]
  rw [e1] at hw
  exact hw
section ZNew
variable {E : z_E} {own : String} {cc : ByteArray} {nL d pc : Nat} {L : z_L} {st : List Value} {μ : z_M}
theorem j_newaI (F : z_F E own cc nL d) {n N : Nat} {k : Int32} (hn : (z_sh E.1).length = n) (h5 : n < 500) (hfr : z_fr μ n) (hL : z_olL n L) (hSt : z_olS n st) (hk : k.toNatClampNeg = N) (hk0 : ¬ k < 0) (hbig : N ≤ 1000) (hrc : z_kc E + 1 ≤ (z_Rm E).cells) (hrs : z_ks E + N ≤ (z_Rm E).slots) (hw : Cond.arrayClass .int ∈ z_T) (hdg : decode cc pc = .ok (.newarray .int, 2))
    (kk : ∀ E' : z_E, z_gr E E' [.inl (0, N)] 1 N → z_F E' own cc nL d → z_J E' nL (pc + 2) L (.ref n :: st) μ) : z_J E nL pc L (.int k :: st) μ := by
  obtain ⟨⟨l, D, ad, dA, sh⟩, p, e, R, s, m, args, below, meth, c, Q, A, kc, ks⟩ := E
  have F' := F
  obtain ⟨hx, hb, hml, hown, hts, hK, hD, hA, hX, hd1, hd2, hc1, hc2⟩ := F
  intro H locs ls hP hS hl
  refine va_newa (atype := .int) (ty := .int) (a0 := (N, .inl (fun _ => 0))) hx hb (hts _ hw) rfl hK hP (hD μ) hS hA (fun cA => rfl) hk0 hk (by show N * 4 ≤ _; omega) hrc hrs hdg (fun q cA H1 hK1 hP1 hD1 hS1 => ?_)
  have hcA : cA = dA 0 := by
    have h1 : va_RA s cA .int := (hK1.2 5 (cA, .int) rfl).2
    have h2 : va_RA s (dA 0) .int := (hK.2 0 (dA 0, .int) rfl).2
    exact Option.some.inj (h1.symm.trans h2)
  subst hcA
  have e1 : z_e ad dA μ n (.inl (0, N)) = .inl (dA 0, N, .inl (fun _ => 0)) := by
    have : μ.1 n = fun _ => 0 := funext fun k => (hfr.1 n (Nat.le_refl n) k).1
    simp only [z_e, this]
    rfl
  rw [← e1] at hP1 hD1
  exact z_born F' hn h5 hfr hL hSt hrc hrs hl hP1 hD1 hS1 kk
theorem j_newaZ (F : z_F E own cc nL d) {n N : Nat} {k : Int32} (hn : (z_sh E.1).length = n) (h5 : n < 500) (hfr : z_fr μ n) (hL : z_olL n L) (hSt : z_olS n st) (hk : k.toNatClampNeg = N) (hk0 : ¬ k < 0) (hbig : N ≤ 1000) (hrc : z_kc E + 1 ≤ (z_Rm E).cells) (hrs : z_ks E + N ≤ (z_Rm E).slots) (hw : Cond.arrayClass .boolean ∈ z_T) (hdg : decode cc pc = .ok (.newarray .boolean, 2))
    (kk : ∀ E' : z_E, z_gr E E' [.inl (1, N)] 1 N → z_F E' own cc nL d → z_J E' nL (pc + 2) L (.ref n :: st) μ) : z_J E nL pc L (.int k :: st) μ := by
  obtain ⟨⟨l, D, ad, dA, sh⟩, p, e, R, s, m, args, below, meth, c, Q, A, kc, ks⟩ := E
  have F' := F
  obtain ⟨hx, hb, hml, hown, hts, hK, hD, hA, hX, hd1, hd2, hc1, hc2⟩ := F
  intro H locs ls hP hS hl
  refine va_newa (atype := .boolean) (ty := .boolean) (a0 := (N, .inl (fun _ => 0))) hx hb (hts _ hw) rfl hK hP (hD μ) hS hA (fun cA => rfl) hk0 hk (by show N * 1 ≤ _; omega) hrc hrs hdg (fun q cA H1 hK1 hP1 hD1 hS1 => ?_)
  have hcA : cA = dA 1 := by
    have h1 : va_RA s cA .boolean := (hK1.2 5 (cA, .boolean) rfl).2
    have h2 : va_RA s (dA 1) .boolean := (hK.2 1 (dA 1, .boolean) rfl).2
    exact Option.some.inj (h1.symm.trans h2)
  subst hcA
  have e1 : z_e ad dA μ n (.inl (1, N)) = .inl (dA 1, N, .inl (fun _ => 0)) := by
    have : μ.1 n = fun _ => 0 := funext fun k => (hfr.1 n (Nat.le_refl n) k).1
    simp only [z_e, this]
    rfl
  rw [← e1] at hP1 hD1
  exact z_born F' hn h5 hfr hL hSt hrc hrs hl hP1 hD1 hS1 kk
def z_df (q : Nat) : Value := match q with
  | 0 => .int 0
  | 1 => .long 0
  | _ => .null
theorem j_new (F : z_F E own cc nL d) {n N ci idx : Nat} {C : String} {T : u_T} {ks0 : List Nat} (ty : Nat → FieldType) (hcl : z_cl[ci]? = some (C, T, N)) (hiw : ∀ w ∈ u_ws C T N, w ∈ z_T) (hty : ∀ k, k < N → parseFieldDescriptor (T k).2.2.1 = some (ty k)) (hwl : Cond.classLink own idx C ∈ z_T) (hwi : Cond.instantiable C N ∈ z_T) (hwn : Cond.initialized C ∈ z_T) (hks : ∀ j, j < N → defaultValue (ty j) = (ks0.map z_df).getD j .null)
    (hn : (z_sh E.1).length = n) (h5 : n < 500) (hfr : z_fr μ n) (hL : z_olL n L) (hSt : z_olS n st) (hrc : z_kc E + 1 ≤ (z_Rm E).cells) (hrs : z_ks E + N ≤ (z_Rm E).slots) (hdg : decode cc pc = .ok (.new idx, 3))
    (kk : ∀ E' : z_E, z_gr E E' [.inr (ci, ks0)] 1 N → z_F E' own cc nL d → z_J E' nL (pc + 3) L (.ref n :: st) μ) : z_J E nL pc L st μ := by
  obtain ⟨⟨l, D, ad, dA, sh⟩, p, e, R, s, m, args, below, meth, c, Q, A, kc, ks⟩ := E
  have F' := F
  obtain ⟨hx, hb, hml, hown, hts, hK, hD, hA, hX, hd1, hd2, hc1, hc2⟩ := F
  intro H locs ls hP hS hl
  refine va_new (fs := ks0.map z_df) hx hb hts hiw ty hty hown (hts _ hwl) (hts _ hwi) (hts _ hwn) hK hP (hD μ) hS hA hcl hks hrc hrs hdg (fun q H1 hP1 hD1 hS1 => ?_)
  have e1 : z_e ad dA μ n (.inr (ci, ks0)) = .inr (ci, ks0.map z_df) := by
    simp only [z_e]
    congr 2
    apply List.ext_getElem?
    intro j
    simp only [List.getElem?_mapIdx, List.getElem?_map]
    cases ks0[j]? with
    | none => rfl
    | some q =>
      obtain ⟨g1, g2, g3⟩ := hfr.1 n (Nat.le_refl n) j
      match q with
      | 0 => simp [z_f, z_df, g1]
      | 1 => simp [z_f, z_df, g2]
      | (r + 2) => simp [z_f, z_df, g3, va_rf]
  rw [← e1] at hP1 hD1
  exact z_born F' hn h5 hfr hL hSt hrc hrs hl hP1 hD1 hS1 kk
theorem j_newq (F : z_F E own cc nL d) {n N t idx : Nat} {C : String} {k : Int32} (ht : (t = 2 ∧ C = "LastLent$Law") ∨ (t = 3 ∧ C = "LastLent$Ship")) (hov : va_AO C (z_St E)) (hwl : Cond.classLink own idx C ∈ z_T) (hn : (z_sh E.1).length = n) (h5 : n < 500) (hfr : z_fr μ n) (hL : z_olL n L) (hSt : z_olS n st) (hk : k.toNatClampNeg = N) (hk0 : ¬ k < 0) (hbig : N ≤ 1000) (hrc : z_kc E + 1 ≤ (z_Rm E).cells) (hrs : z_ks E + N ≤ (z_Rm E).slots) (hdg : decode cc pc = .ok (.anewarray idx, 3))
    (kk : ∀ E' : z_E, z_gr E E' [.inl (t, N)] 1 N → z_F E' own cc nL d → z_J E' nL (pc + 3) L (.ref n :: st) μ) : z_J E nL pc L (.int k :: st) μ := by
  obtain ⟨⟨l, D, ad, dA, sh⟩, p, e, R, s, m, args, below, meth, c, Q, A, kc, ks⟩ := E
  have F' := F
  obtain ⟨hx, hb, hml, hown, hts, hK, hD, hA, hX, hd1, hd2, hc1, hc2⟩ := F
  intro H locs ls hP hS hl
  refine va_newq hx hb hown (hts _ hwl) hov hK hP (hD μ) hS hA hk0 hk (by omega) hrc hrs hdg (fun q cA H1 hK1 hP1 hD1 hS1 => ?_)
  have hcA : cA = dA t ∧ 2 ≤ t := by
    have h1 : va_RA s cA (.object C) := (hK1.2 5 (cA, .object C) rfl).2
    have h2 : va_RA s (dA t) (.object C) ∧ 2 ≤ t := by
      rcases ht with ⟨rfl, rfl⟩ | ⟨rfl, rfl⟩
      · exact ⟨(hK.2 2 (dA 2, .object "LastLent$Law") rfl).2, by omega⟩
      · exact ⟨(hK.2 3 (dA 3, .object "LastLent$Ship") rfl).2, by omega⟩
    obtain ⟨-, -, -, -, -, g1⟩ := h1
    obtain ⟨⟨-, -, -, -, -, g2⟩, g3⟩ := h2
    exact ⟨Option.some.inj (g1.symm.trans g2), g3⟩
  obtain ⟨rfl, ht2⟩ := hcA
  have e1 : z_e ad dA μ n (.inl (t, N)) = .inl (dA t, N, .inr (.inr (.inr (.inr (fun _ => none))))) := by
    have : (fun k => (μ.2.2 n k).map ad) = fun _ => none := funext fun k => by rw [(hfr.1 n (Nat.le_refl n) k).2.2]; rfl
    simp only [z_e, this]
    rw [if_neg (by omega)]
  rw [← e1] at hP1 hD1
  exact z_born F' hn h5 hfr hL hSt hrc hrs hl hP1 hD1 hS1 kk
theorem j_objI (F : z_F E own cc nL d) {o idx : Nat} (hw : Cond.methodLink own idx objectInit ∈ z_T ∧ Cond.instanceMethod objectInit ∈ z_T ∧ Cond.code objectInit ⟨#[0xb1]⟩ 1 none ∈ z_T) (hd : 1 ≤ d) (hst : (st.map fun v => v.category).sum ≤ 8) (hdg : decode cc pc = .ok (.invokespecial idx, 3)) (kk : z_J E nL (pc + 3) L st μ) : z_J E nL pc L (.ref o :: st) μ := by
  obtain ⟨⟨l, D, ad, dA, sh⟩, p, e, R, s, m, args, below, meth, c, Q, A, kc, ks⟩ := E
  obtain ⟨hx, hb, hml, hown, hts, hK, hD, hA, hX, hd1, hd2, hc1, hc2⟩ := F
  intro H locs ls hP hS hl
  exact W.objInit hx hb hown (hts _ hw.1) (hts _ hw.2.1) (hts _ hw.2.2) rfl (by rw [hml]; exact hl.1) rfl hdg (by omega) (by show 2 * 0 + _ + 12 ≤ _; rw [z_cats]; omega) (kk H locs ls hP hS hl)
end ZNew
