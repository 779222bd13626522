/-! THE ROWS OF CALLS -/
section ZGo
variable {p : Program} {l : Launch} {e : Env} {R : Room} {s : State} {m : MethodId} {args : Array Value} {below : List Frame} {meth : Method} {c : Code} {H : Heap} {locs : List Loc} {kc ks : Nat} {Q : State → Prop} {D : va_G} {ad : Nat → Nat} {dA : Nat → ClassId} {sh : List z_H} {A : Nat → Prop} {pc : Nat} {ls : Array Slot}
theorem z_go {rest st0 : List Value} {a : Array Value} {A1 : Nat → Prop} {free : Addr → Prop} {P : Option Value → z_M → Prop} (hr : va_Run p l e R s m args below meth c H locs kc ks 0 0 (F0 m pc ls st0) rest (z_Qc (l, D, ad, dA, sh) A1 P a) free) (hS : va_S A s.heap H locs) (hA : ∀ q, q < H.size → A1 q → A q) (hf : ∀ q, free q → A q)
    (kk : ∀ (v : Option Value) (μ' : z_M) (H1 : Heap) (locs1 : List Loc), P v μ' → va_P D z_cl (z_w ad dA sh μ') H1 → va_S A s.heap H1 locs1 → W p l e R s m args below meth c H1 locs1 kc ks Q (F0 m (pc + 3) ls ((v.map (z_v ad)).toList ++ rest))) : W p l e R s m args below meth c H locs kc ks Q (F0 m pc ls st0) := by
  intro T hT X
  obtain ⟨v, st₀, t, T', L, h0, X', hL, e1, e2, ⟨⟨w, μ', hv, hp, hb⟩, hz, hk⟩, st⟩ := hr T hT X
  cases hv
  rw [h0] at hz hk
  obtain ⟨t2, a1, b1⟩ := kk w μ' T'.heap (locs ++ L) hp (by rw [e1]; exact hb)
    ⟨Nat.le_trans hS.1 (by rw [e1]; exact hz), fun q h1 h2 => by rw [e1, hk q (Nat.lt_of_lt_of_le h1 hS.1) (fun z => h2 (hA q (Nat.lt_of_lt_of_le h1 hS.1) z))]; exact hS.2.1 q h1 h2, fun q hq => by
      rcases List.mem_append.mp hq with h | h
      · exact hS.2.2 q h
      · exact hf _ (hL q h)⟩ T' rfl X'
  exact ⟨t2, st t2 a1, b1⟩
end ZGo
theorem z_app {ad : Nat → Nat} (v : Option Value) (st : List Value) : (v.toList ++ st).map (z_v ad) = (v.map (z_v ad)).toList ++ st.map (z_v ad) := by
  cases v <;> simp
theorem z_cats {ad : Nat → Nat} (st : List Value) : ((st.map (z_v ad)).map fun v => v.category).sum = (st.map fun v => v.category).sum := by
  rw [List.map_map]
  congr 1
  apply List.map_congr_left
  intro v _
  exact z_v_cat
/-- the start of a contract doesn't look at frames -/
theorem z_blind {G : z_Gl} {av : List Value} {μ : z_M} {sz : Nat} : FrameBlind (va_Pc av (z_pre G μ sz)) := by
  obtain ⟨l, D, ad, dA, sh⟩ := G
  intro a U g mk h
  obtain ⟨q0, q1, qP, qK, qD, qX⟩ := h
  exact ⟨q0, q1, qP, va_K.moved (u := U) (U := U.calling g mk a) (Vm.Alike.refl U.vm) qK, qD, qX.same rfl⟩
theorem z_start {l : Launch} {D : va_G} {ad : Nat → Nat} {dA : Nat → ClassId} {sh : List z_H} {A : Nat → Prop} {s U : State} {H : Heap} {locs : List Loc} {av : List Value} {μ : z_M} (hK : va_K D z_cl (z_tys dA) s) (hD : va_D A (z_w ad dA sh μ)) (hA : ∀ q, s.heap.size ≤ q → A q) (hX : z_X ad A s s.heap) (hP : va_P D z_cl (z_w ad dA sh μ) H) (hS : va_S A s.heap H locs) (hU : U.heap = H) (hW : s.WarmedH U.vm) : va_Pc (av.map (z_v ad)) (z_pre (l, D, ad, dA, sh) μ H.size) (av.map (z_v ad)).toArray U := by
  refine ⟨rfl, by rw [hU], by rw [hU]; exact hP, va_K.moved hW.alike hK, hD.weaken (fun _ _ _ _ => trivial), ?_⟩
  rw [hU]
  refine hX.to hW hS.2.1 (fun q h => ?_)
  rcases h with ⟨k, e, h⟩ | h
  · exact hD.2 k _ h
  · exact hA q (Nat.le_trans hS.1 h)
theorem z_inA {ad : Nat → Nat} {dA : Nat → ClassId} {sh : List z_H} {A : Nat → Prop} {s : State} {H : Heap} {locs : List Loc} {μ : z_M} (hD : va_D A (z_w ad dA sh μ)) (hA : ∀ q, s.heap.size ≤ q → A q) (hS : va_S A s.heap H locs) : ∀ q, va_A (z_w ad dA sh μ) H.size q → A q := by
  intro q h
  rcases h with ⟨k, e, h⟩ | h
  · exact hD.2 k _ h
  · exact hA q (Nat.le_trans hS.1 h)
/-- what the tables say of a method -/
def z_Yc (y : MethodName) (cc : ByteArray) (nL : Nat) (ret : Option FieldType) (n : Nat) : Prop := Cond.code y cc nL ret ∈ z_T ∧ Cond.initialized y.cls ∈ z_T ∧ (y.cls ≠ "java/lang/invoke/MethodHandle" ∧ y.cls ≠ "java/lang/invoke/VarHandle" ∧ (parseMethodDescriptor y.desc).map (fun d => d.parameters.length) = some n) ∧ nL ≤ 17
def z_Yv (y : MethodName) : Prop := Cond.instanceMethod y ∈ z_T ∧ Cond.selects y.cls y y ∈ z_T
theorem z_code_good {y : MethodName} {cc : ByteArray} {nL : Nat} {ret : Option FieldType} (h : Cond.code y cc nL ret ∈ z_T) : GoodIn z_T (Cond.code y cc nL ret :: z_T) := by
  intro w hw
  rcases List.mem_cons.mp hw with rfl | hw
  · exact z_T_good _ h
  · exact z_T_good _ hw
section ZCall
variable {E : z_E} {own : String} {cc : ByteArray} {nL d pc : Nat} {L : z_L} {st st0 : List Value} {μ : z_M}
theorem j_callV (F : z_F E own cc nL d) {y : MethodName} {yc : ByteArray} {yL n yd o ci idx : Nat} {ret : Option FieldType} {As : List Value} {fs : List Nat} {P : Option Value → z_M → Prop} (hM : z_C0 E.1 y yc yL ret yd (.ref o :: As) μ P) (hc : z_Yc y yc yL ret n) (hv : z_Yv y) (hlk : Cond.methodLink own idx y ∈ z_T)
    (hs : (z_sh E.1)[o]? = some (.inr (ci, fs))) (hcl : (z_cl[ci]?).map (fun q => q.1) = some y.cls) (hn : As.length = n) (hd : yd + 1 ≤ d) (hst : (st.map fun v => v.category).sum ≤ 8) (h0 : st0 = As.reverse ++ .ref o :: st) (hdg : decode cc pc = .ok (.invokevirtual idx, 3))
    (k : ∀ (v : Option Value) (μ' : z_M), P v μ' → z_J E nL (pc + 3) L (v.toList ++ st) μ') : z_J E nL pc L st0 μ := by
  obtain ⟨⟨l, D, ad, dA, sh⟩, p, e, R, s, m, args, below, meth, c, Q, A, kc, ks⟩ := E
  obtain ⟨hx, hb, hml, hown, hts, hK, hD, hA, hX, hd1, hd2, hc1, hc2⟩ := F
  obtain ⟨y1, y2, y3, y4⟩ := hc
  obtain ⟨v1, v2⟩ := hv
  intro H locs ls hP hS hl
  subst h0
  cases hcq : z_cl[ci]? with
  | none => rw [hcq] at hcl; cases hcl
  | some q =>
    have hq1 : q.1 = y.cls := by rw [hcq] at hcl; exact Option.some.inj hcl
    have hrun := va_runV (l := l) (e := e) (below := below) (meth := meth) (locs := locs) (cells := kc) (slots := ks) (p := p) (R := R) (g := F0 m pc ls ((As.reverse ++ .ref o :: st).map (z_v ad))) (As := As.map (z_v ad)) (rest := st.map (z_v ad)) (b := ad o) (C := y.cls) (n := n) (Ts := z_T) (own := own) (cc := cc) (nL := nL) (index := idx) ⟨hx, hb, hml, hown, hts⟩ (hM H.size)
      ⟨callB_of n hts (z_code_good y1) rfl rfl rfl (hts _ y2) (hts _ hlk) y3 ⟨by show yd + 1 ≤ _; omega, by show 8 + (yL + 11) + 36 * yd ≤ _; omega⟩, hts _ v1, hts _ v2⟩
      ⟨z_blind, by rw [← hq1]; exact va_recv hK hP hcq (z_w_get hs), fun U hU hW => z_start (av := .ref o :: As) hK (hD μ) hA hX hP hS hU hW⟩ rfl (by simpa using hn) hl.1 (by simp [List.map_reverse, z_v]) (lv_room (by rw [z_cats]; exact hst)) hdg ⟨hc1, hc2⟩
    exact z_go hrun hS (fun q _ h => z_inA (hD μ) hA hS q h) (fun q h => z_inA (hD μ) hA hS q h) (fun v μ' H1 locs1 hp hP1 hS1 => by
      have := k v μ' hp H1 locs1 ls hP1 hS1 hl
      rw [z_app] at this
      exact this)
theorem j_callS (F : z_F E own cc nL d) {y : MethodName} {yc : ByteArray} {yL n yd idx : Nat} {ret : Option FieldType} {As : List Value} {P : Option Value → z_M → Prop} (hM : z_C0 E.1 y yc yL ret yd As μ P) (hc : z_Yc y yc yL ret n) (hv : Cond.static y ∈ z_T) (hlk : Cond.methodLink own idx y ∈ z_T)
    (hn : As.length = n) (hd : yd + 1 ≤ d) (hst : (st.map fun v => v.category).sum ≤ 8) (h0 : st0 = As.reverse ++ st) (hdg : decode cc pc = .ok (.invokestatic idx, 3))
    (k : ∀ (v : Option Value) (μ' : z_M), P v μ' → z_J E nL (pc + 3) L (v.toList ++ st) μ') : z_J E nL pc L st0 μ := by
  obtain ⟨⟨l, D, ad, dA, sh⟩, p, e, R, s, m, args, below, meth, c, Q, A, kc, ks⟩ := E
  obtain ⟨hx, hb, hml, hown, hts, hK, hD, hA, hX, hd1, hd2, hc1, hc2⟩ := F
  obtain ⟨y1, y2, y3, y4⟩ := hc
  intro H locs ls hP hS hl
  subst h0
  have hrun := va_runS (l := l) (e := e) (below := below) (meth := meth) (locs := locs) (cells := kc) (slots := ks) (p := p) (R := R) (g := F0 m pc ls ((As.reverse ++ st).map (z_v ad))) (As := As.map (z_v ad)) (rest := st.map (z_v ad)) (n := n) (Ts := z_T) (own := own) (cc := cc) (nL := nL) (index := idx) ⟨hx, hb, hml, hown, hts⟩ (hM H.size)
    ⟨callB_of n hts (z_code_good y1) rfl rfl rfl (hts _ y2) (hts _ hlk) y3 ⟨by show yd + 1 ≤ _; omega, by show 8 + (yL + 11) + 36 * yd ≤ _; omega⟩, hts _ hv⟩
    ⟨z_blind, fun U hU hW => z_start (av := As) hK (hD μ) hA hX hP hS hU hW⟩ rfl (by simpa using hn) hl.1 (by simp [List.map_reverse]) (lv_room (by rw [z_cats]; exact hst)) hdg ⟨hc1, hc2⟩
  exact z_go hrun hS (fun q _ h => z_inA (hD μ) hA hS q h) (fun q h => z_inA (hD μ) hA hS q h) (fun v μ' H1 locs1 hp hP1 hS1 => by
    have := k v μ' hp H1 locs1 ls hP1 hS1 hl
    rw [z_app] at this
    exact this)
theorem j_callSN (F : z_F E own cc nL d) {y : MethodName} {yc : ByteArray} {yL n yd idx : Nat} {ret : Option FieldType} {As : List Value} {P : Option Value → z_M → Prop} (hM : z_C0 E.1 y yc yL ret yd As μ P) (hc : z_Yc y yc yL ret n) (hv : Cond.static y ∈ z_T) (hlk : (own, idx, y) ∈ z_NW)
    (hn : As.length = n) (hd : yd + 1 ≤ d) (hst : (st.map fun v => v.category).sum ≤ 8) (h0 : st0 = As.reverse ++ st) (hdg : decode cc pc = .ok (.invokestatic idx, 3))
    (k : ∀ (v : Option Value) (μ' : z_M), P v μ' → z_J E nL (pc + 3) L (v.toList ++ st) μ') : z_J E nL pc L st0 μ := by
  obtain ⟨⟨l, D, ad, dA, sh⟩, p, e, R, s, m, args, below, meth, c, Q, A, kc, ks⟩ := E
  obtain ⟨hx, hb, hml, hown, hts, hK, hD, hA, hX, hd1, hd2, hc1, hc2⟩ := F
  obtain ⟨y1, y2, y3, y4⟩ := hc
  intro H locs ls hP hS hl
  subst h0
  have hrun := va_runSN (l := l) (e := e) (below := below) (meth := meth) (locs := locs) (cells := kc) (slots := ks) (p := p) (R := R) (g := F0 m pc ls ((As.reverse ++ st).map (z_v ad))) (As := As.map (z_v ad)) (rest := st.map (z_v ad)) (n := n) (Ts := z_T) (own := own) (cc := cc) (nL := nL) (index := idx) ⟨hx, hb, hml, hown, hts⟩ (hM H.size)
    ⟨va_cnB n hts (z_code_good y1) rfl rfl rfl (hX.1 _ hlk) (hts _ y2) y3 ⟨by show yd + 1 ≤ _; omega, by show 8 + (yL + 11) + 36 * yd ≤ _; omega⟩, hts _ hv, trivial⟩
    ⟨z_blind, fun U hU hW => z_start (av := As) hK (hD μ) hA hX hP hS hU hW⟩ rfl (by simpa using hn) hl.1 (by simp [List.map_reverse]) (lv_room (by rw [z_cats]; exact hst)) hdg ⟨hc1, hc2⟩
  exact z_go hrun hS (fun q _ h => z_inA (hD μ) hA hS q h) (fun q h => z_inA (hD μ) hA hS q h) (fun v μ' H1 locs1 hp hP1 hS1 => by
    have := k v μ' hp H1 locs1 ls hP1 hS1 hl
    rw [z_app] at this
    exact this)
/-! the same, by kind of answer -/
theorem j_callVi (F : z_F E own cc nL d) {y : MethodName} {yc : ByteArray} {yL n yd o ci idx : Nat} {ret : Option FieldType} {As : List Value} {fs : List Nat} {P : Int32 → z_M → Prop} (hM : z_Ci E.1 y yc yL ret yd (.ref o :: As) μ P) (hc : z_Yc y yc yL ret n) (hv : z_Yv y) (hlk : Cond.methodLink own idx y ∈ z_T)
    (hs : (z_sh E.1)[o]? = some (.inr (ci, fs))) (hcl : (z_cl[ci]?).map (fun q => q.1) = some y.cls) (hn : As.length = n) (hd : yd + 1 ≤ d) (hst : (st.map fun v => v.category).sum ≤ 8) (h0 : st0 = As.reverse ++ .ref o :: st) (hdg : decode cc pc = .ok (.invokevirtual idx, 3))
    (k : ∀ (r : Int32) (μ' : z_M), μ'.2.2 = μ.2.2 → P r μ' → z_J E nL (pc + 3) L (.int r :: st) μ') : z_J E nL pc L st0 μ :=
  j_callV F hM hc hv hlk hs hcl hn hd hst h0 hdg (fun v μ' hp => by obtain ⟨h1, r, rfl, h2⟩ := hp; exact k r μ' h1 h2)
theorem j_callVv (F : z_F E own cc nL d) {y : MethodName} {yc : ByteArray} {yL n yd o ci idx : Nat} {ret : Option FieldType} {As : List Value} {fs : List Nat} {P : z_M → Prop} (hM : z_Cv E.1 y yc yL ret yd (.ref o :: As) μ P) (hc : z_Yc y yc yL ret n) (hv : z_Yv y) (hlk : Cond.methodLink own idx y ∈ z_T)
    (hs : (z_sh E.1)[o]? = some (.inr (ci, fs))) (hcl : (z_cl[ci]?).map (fun q => q.1) = some y.cls) (hn : As.length = n) (hd : yd + 1 ≤ d) (hst : (st.map fun v => v.category).sum ≤ 8) (h0 : st0 = As.reverse ++ .ref o :: st) (hdg : decode cc pc = .ok (.invokevirtual idx, 3))
    (k : ∀ (μ' : z_M), μ'.2.2 = μ.2.2 → P μ' → z_J E nL (pc + 3) L st μ') : z_J E nL pc L st0 μ :=
  j_callV F hM hc hv hlk hs hcl hn hd hst h0 hdg (fun v μ' hp => by obtain ⟨h1, rfl, h2⟩ := hp; exact k μ' h1 h2)
theorem j_callSi (F : z_F E own cc nL d) {y : MethodName} {yc : ByteArray} {yL n yd idx : Nat} {ret : Option FieldType} {As : List Value} {P : Int32 → z_M → Prop} (hM : z_Ci E.1 y yc yL ret yd As μ P) (hc : z_Yc y yc yL ret n) (hv : Cond.static y ∈ z_T) (hlk : Cond.methodLink own idx y ∈ z_T)
    (hn : As.length = n) (hd : yd + 1 ≤ d) (hst : (st.map fun v => v.category).sum ≤ 8) (h0 : st0 = As.reverse ++ st) (hdg : decode cc pc = .ok (.invokestatic idx, 3))
    (k : ∀ (r : Int32) (μ' : z_M), μ'.2.2 = μ.2.2 → P r μ' → z_J E nL (pc + 3) L (.int r :: st) μ') : z_J E nL pc L st0 μ :=
  j_callS F hM hc hv hlk hn hd hst h0 hdg (fun v μ' hp => by obtain ⟨h1, r, rfl, h2⟩ := hp; exact k r μ' h1 h2)
theorem j_callSl (F : z_F E own cc nL d) {y : MethodName} {yc : ByteArray} {yL n yd idx : Nat} {ret : Option FieldType} {As : List Value} {P : Int64 → z_M → Prop} (hM : z_Cl E.1 y yc yL ret yd As μ P) (hc : z_Yc y yc yL ret n) (hv : Cond.static y ∈ z_T) (hlk : Cond.methodLink own idx y ∈ z_T)
    (hn : As.length = n) (hd : yd + 1 ≤ d) (hst : (st.map fun v => v.category).sum ≤ 8) (h0 : st0 = As.reverse ++ st) (hdg : decode cc pc = .ok (.invokestatic idx, 3))
    (k : ∀ (r : Int64) (μ' : z_M), μ'.2.2 = μ.2.2 → P r μ' → z_J E nL (pc + 3) L (.long r :: st) μ') : z_J E nL pc L st0 μ :=
  j_callS F hM hc hv hlk hn hd hst h0 hdg (fun v μ' hp => by obtain ⟨h1, r, rfl, h2⟩ := hp; exact k r μ' h1 h2)
theorem j_callSv (F : z_F E own cc nL d) {y : MethodName} {yc : ByteArray} {yL n yd idx : Nat} {ret : Option FieldType} {As : List Value} {P : z_M → Prop} (hM : z_Cv E.1 y yc yL ret yd As μ P) (hc : z_Yc y yc yL ret n) (hv : Cond.static y ∈ z_T) (hlk : Cond.methodLink own idx y ∈ z_T)
    (hn : As.length = n) (hd : yd + 1 ≤ d) (hst : (st.map fun v => v.category).sum ≤ 8) (h0 : st0 = As.reverse ++ st) (hdg : decode cc pc = .ok (.invokestatic idx, 3))
    (k : ∀ (μ' : z_M), μ'.2.2 = μ.2.2 → P μ' → z_J E nL (pc + 3) L st μ') : z_J E nL pc L st0 μ :=
  j_callS F hM hc hv hlk hn hd hst h0 hdg (fun v μ' hp => by obtain ⟨h1, rfl, h2⟩ := hp; exact k μ' h1 h2)
theorem j_callNi (F : z_F E own cc nL d) {y : MethodName} {yc : ByteArray} {yL n yd idx : Nat} {ret : Option FieldType} {As : List Value} {P : Int32 → z_M → Prop} (hM : z_Ci E.1 y yc yL ret yd As μ P) (hc : z_Yc y yc yL ret n) (hv : Cond.static y ∈ z_T) (hlk : (own, idx, y) ∈ z_NW)
    (hn : As.length = n) (hd : yd + 1 ≤ d) (hst : (st.map fun v => v.category).sum ≤ 8) (h0 : st0 = As.reverse ++ st) (hdg : decode cc pc = .ok (.invokestatic idx, 3))
    (k : ∀ (r : Int32) (μ' : z_M), μ'.2.2 = μ.2.2 → P r μ' → z_J E nL (pc + 3) L (.int r :: st) μ') : z_J E nL pc L st0 μ :=
  j_callSN F hM hc hv hlk hn hd hst h0 hdg (fun v μ' hp => by obtain ⟨h1, r, rfl, h2⟩ := hp; exact k r μ' h1 h2)
theorem j_callNv (F : z_F E own cc nL d) {y : MethodName} {yc : ByteArray} {yL n yd idx : Nat} {ret : Option FieldType} {As : List Value} {P : z_M → Prop} (hM : z_Cv E.1 y yc yL ret yd As μ P) (hc : z_Yc y yc yL ret n) (hv : Cond.static y ∈ z_T) (hlk : (own, idx, y) ∈ z_NW)
    (hn : As.length = n) (hd : yd + 1 ≤ d) (hst : (st.map fun v => v.category).sum ≤ 8) (h0 : st0 = As.reverse ++ st) (hdg : decode cc pc = .ok (.invokestatic idx, 3))
    (k : ∀ (μ' : z_M), μ'.2.2 = μ.2.2 → P μ' → z_J E nL (pc + 3) L st μ') : z_J E nL pc L st0 μ :=
  j_callSN F hM hc hv hlk hn hd hst h0 hdg (fun v μ' hp => by obtain ⟨h1, rfl, h2⟩ := hp; exact k μ' h1 h2)
/-! Math.max, min, abs; System.arraycopy of ints -/
theorem j_mmax (F : z_F E own cc nL d) {idx : Nat} {x y : Int32} (hw : Cond.methodLink own idx Lib.Math.max.name ∈ z_T ∧ Cond.static Lib.Math.max.name ∈ z_T ∧ Cond.initialized "java/lang/Math" ∈ z_T ∧ Cond.code Lib.Math.max.name Lib.Math.max.code 2 (some .int) ∈ z_T) (hd : 1 ≤ d) (hst : (st.map fun v => v.category).sum ≤ 8) (hdg : decode cc pc = .ok (.invokestatic idx, 3)) (k : z_J E nL (pc + 3) L (.int (if x < y then y else x) :: st) μ) : z_J E nL pc L (.int y :: .int x :: st) μ := by
  obtain ⟨⟨l, D, ad, dA, sh⟩, p, e, R, s, m, args, below, meth, c, Q, A, kc, ks⟩ := E
  obtain ⟨hx, hb, hml, hown, hts, hK, hD, hA, hX, hd1, hd2, hc1, hc2⟩ := F
  intro H locs ls hP hS hl
  exact va_mmax hx hb (hml.trans hl.1.symm) hown (hts _ hw.1) (hts _ hw.2.1) (hts _ hw.2.2.1) (hts _ hw.2.2.2) (by omega) (by rw [z_cats]; omega) hc1 hc2 hdg (k H locs ls hP hS hl)
theorem j_mmin (F : z_F E own cc nL d) {idx : Nat} {x y : Int32} (hw : Cond.methodLink own idx Lib.Math.min.name ∈ z_T ∧ Cond.static Lib.Math.min.name ∈ z_T ∧ Cond.initialized "java/lang/Math" ∈ z_T ∧ Cond.code Lib.Math.min.name Lib.Math.min.code 2 (some .int) ∈ z_T) (hd : 1 ≤ d) (hst : (st.map fun v => v.category).sum ≤ 8) (hdg : decode cc pc = .ok (.invokestatic idx, 3)) (k : z_J E nL (pc + 3) L (.int (if y < x then y else x) :: st) μ) : z_J E nL pc L (.int y :: .int x :: st) μ := by
  obtain ⟨⟨l, D, ad, dA, sh⟩, p, e, R, s, m, args, below, meth, c, Q, A, kc, ks⟩ := E
  obtain ⟨hx, hb, hml, hown, hts, hK, hD, hA, hX, hd1, hd2, hc1, hc2⟩ := F
  intro H locs ls hP hS hl
  exact va_mmin hx hb (hml.trans hl.1.symm) hown (hts _ hw.1) (hts _ hw.2.1) (hts _ hw.2.2.1) (hts _ hw.2.2.2) (by omega) (by rw [z_cats]; omega) hc1 hc2 hdg (k H locs ls hP hS hl)
theorem j_mabs (F : z_F E own cc nL d) {idx : Nat} {x : Int32} (hw : Cond.methodLink own idx Lib.Math.abs.name ∈ z_T ∧ Cond.static Lib.Math.abs.name ∈ z_T ∧ Cond.initialized "java/lang/Math" ∈ z_T ∧ Cond.code Lib.Math.abs.name Lib.Math.abs.code 1 (some .int) ∈ z_T) (hd : 1 ≤ d) (hst : (st.map fun v => v.category).sum ≤ 8) (hdg : decode cc pc = .ok (.invokestatic idx, 3)) (k : z_J E nL (pc + 3) L (.int (if 0 ≤ x then x else 0 - x) :: st) μ) : z_J E nL pc L (.int x :: st) μ := by
  obtain ⟨⟨l, D, ad, dA, sh⟩, p, e, R, s, m, args, below, meth, c, Q, A, kc, ks⟩ := E
  obtain ⟨hx, hb, hml, hown, hts, hK, hD, hA, hX, hd1, hd2, hc1, hc2⟩ := F
  intro H locs ls hP hS hl
  exact va_mabs hx hb (hml.trans hl.1.symm) hown (hts _ hw.1) (hts _ hw.2.1) (hts _ hw.2.2.1) (hts _ hw.2.2.2) (by omega) (by rw [z_cats]; omega) hc1 hc2 hdg (k H locs ls hP hS hl)
theorem j_acopy (F : z_F E own cc nL d) {idx a b n0 n1 : Nat} {sp dp n : Int32} (hw : Cond.methodLink own idx arraycopyName ∈ z_T ∧ Cond.native arraycopyName ∈ z_T ∧ Cond.static arraycopyName ∈ z_T ∧ Cond.initialized "java/lang/System" ∈ z_T) (hd : 1 ≤ d) (hst : (st.map fun v => v.category).sum ≤ 8) (ha : (z_sh E.1)[a]? = some (.inl (0, n0))) (hb0 : (z_sh E.1)[b]? = some (.inl (0, n1)))
    (h1 : ¬ sp < 0) (h2 : ¬ dp < 0) (h3 : ¬ n < 0) (h4 : sp.toNatClampNeg + n.toNatClampNeg ≤ n0) (h5 : dp.toNatClampNeg + n.toNatClampNeg ≤ n1) (hdg : decode cc pc = .ok (.invokestatic idx, 3)) (k : z_J E nL (pc + 3) L st (z_sw μ b (va_cpy (μ.1 a) (μ.1 b) sp.toNatClampNeg dp.toNatClampNeg n.toNatClampNeg))) : z_J E nL pc L (.int n :: .int dp :: .ref b :: .int sp :: .ref a :: st) μ := by
  obtain ⟨⟨l, D, ad, dA, sh⟩, p, e, R, s, m, args, below, meth, c, Q, A, kc, ks⟩ := E
  obtain ⟨hx, hb, hml, hown, hts, hK, hD, hA, hX, hd1, hd2, hc1, hc2⟩ := F
  intro H locs ls hP hS hl
  have hnw : nativeFrameWords "java/lang/System" "arraycopy" 5 ≤ 12 := by decide +kernel
  have hlo : ((st.map (z_v ad)).map fun v => v.category).sum + (nativeFrameWords "java/lang/System" "arraycopy" 5 + 11) ≤ R.locals := by
    rw [z_cats (ad := ad)]
    omega
  refine va_copyi (f := μ.1 a) (g := μ.1 b) (ty := .int) hx hb (hml.trans hl.1.symm) hown (hts _ hw.1) (hts _ hw.2.1) (hts _ hw.2.2.1) (hts _ hw.2.2.2) hK hP (hD μ) hS a b 0 0 (z_w_get ha) (z_w_get hb0) rfl rfl rfl h1 h2 h3 h4 h5 (fun _ _ => rfl) (by omega) hlo hdg (fun H1 locs1 hP1 hD1 hS1 => ?_)
  refine k H1 locs1 ls ?_ hS1 hl
  rw [← z_w_set hb0 z_e_sw]
  have e1 : z_e ad dA (z_sw μ b (va_cpy (μ.1 a) (μ.1 b) sp.toNatClampNeg dp.toNatClampNeg n.toNatClampNeg)) b (.inl (0, n1)) = .inl (dA 0, n1, .inl (va_cpy (μ.1 a) (μ.1 b) sp.toNatClampNeg dp.toNatClampNeg n.toNatClampNeg)) := by simp [z_e, z_sw]
  rw [e1]
  exact hP1
end ZCall
