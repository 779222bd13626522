/-! THE ENVIRONMENT of a method's run, the judgement z_J, the contract z_C -/
def z_T : List Cond := lw_tbl.filter goodWord
theorem z_T_in {w : Cond} (i : Nat) (h : lw_tbl[i]? = some w) (hg : goodWord w = true) : w ∈ z_T := List.mem_filter.mpr ⟨List.mem_of_getElem? h, hg⟩
theorem z_T_good : GoodIn z_T z_T := fun w h => ⟨h, good_of_word (List.mem_filter.mp h).2⟩
theorem z_T_tl {x y : Cond} (hy : y ∈ z_T) : GoodIn (x :: z_T) (y :: z_T) := by
  intro w h
  rcases List.mem_cons.mp h with rfl | h
  · exact ⟨List.mem_cons_of_mem _ hy, (z_T_good _ hy).2⟩
  · exact ⟨List.mem_cons_of_mem _ h, (z_T_good _ h).2⟩
def z_cl : List vw_C := [(RX0, TX0, 13), (RX1, TX1, 9), (RX2, TX2, 16), (RX3, TX3, 13), (RX4, TX4, 10), (RX5, TX5, 48)]
def z_tys (dA : Nat → ClassId) : List (ClassId × FieldType) := [(dA 0, .int), (dA 1, .boolean), (dA 2, .object "LastLent$Law"), (dA 3, .object "LastLent$Ship"), (dA 4, .array .int)]
def z_rm (d : Nat) : Room := { frames := d, cells := 0, slots := 0, locals := 36 * d }
/-- calls of nest mates -/
def z_NW : List (String × Nat × MethodName) := [("LastLent", 17, yX1_init), ("LastLent", 24, yX3_init), ("LastLent", 42, yX2_init), ("LastLent$LawText", 69, yX4_bit), ("LastLent$Law", 59, yX4_bit), ("LastLent$Ship", 93, yX4_bit), ("LastLent$PayOut", 114, yX4_bit), ("LastLent$PayOut", 63, yX4_copyRow), ("LastLent$Ship", 52, yX4_copyRow)]
/-- the texts of LawText: index in its pool, text -/
def z_SR : List (Nat × String) := [(56, "rides   ahead   first   behind  later   within  dies    leave   sale    costs   "), (157, "wage    rope    pilot   saved   need    pledge  harm    dues    "), (123, "ship    freight cargo   "), (134, "parts   later   sooner  ")]
def z_byt : List (List Int32) := z_SR.map (fun q => q.2.toList.map (fun c => Int32.ofNat c.toNat))
def z_len : List Nat := [80, 64, 24, 24]
/-- what is never written: links of nest mates, texts, statics of the JDK -/
def z_X (ad : Nat → Nat) (A : Nat → Prop) (U : State) (H : Heap) : Prop :=
  (∀ q ∈ z_NW, va_Nw (.methodLinkNest q.1 q.2.1 q.2.2 "LastLent") U) ∧
  (∀ i : Nat, ∀ q : Nat × String, z_SR[i]? = some q → vk_R "LastLent$LawText" q.1 q.2 (ad (1000 + i)) U) ∧
  vk_S 4 z_len z_byt (fun i => ad (1000 + i)) (fun i => ad (1010 + i)) A U H ∧
  va_Z "java/lang/String" "COMPACT_STRINGS" "Z" (.int 1) A U H ∧
  ∃ w : Value, (w = .null ∨ w = .ref 1020) ∧ va_Z "jdk/internal/util/Preconditions" "SIOOBE_FORMATTER" "Ljava/util/function/BiFunction;" (z_v ad w) A U H
theorem z_X.to {ad : Nat → Nat} {A B : Nat → Prop} {s U : State} {H0 H : Heap} (h : z_X ad A s H0) (hW : s.WarmedH U.vm) (hq : ∀ a : Nat, a < H0.size → ¬ A a → H[a]? = H0[a]?) (hB : ∀ q, B q → A q) : z_X ad B U H := by
  obtain ⟨h1, h2, h3, h4, w, hw, h5⟩ := h
  exact ⟨fun q hq => va_Nw.warmM hW (h1 q hq), fun i q hi => (h2 i q hi).warm hW, ((h3.kept hq).moved hW.alike).narrow hB, ((h4.kept hq).moved hW.alike).narrow hB, w, hw, ((h5.kept hq).moved hW.alike).narrow hB⟩
theorem z_X.same {ad : Nat → Nat} {A : Nat → Prop} {s U : State} {H : Heap} (h : z_X ad A s H) (hv : U.vm = s.vm) : z_X ad A U H := by
  obtain ⟨h1, h2, h3, h4, w, hw, h5⟩ := h
  have ha : s.vm.Alike U.vm := by rw [hv]; exact Vm.Alike.refl s.vm
  exact ⟨fun q hq => (h1 q hq).same rfl hv.symm, fun i q hi => (h2 i q hi).same hv, h3.moved ha, h4.moved ha, w, hw, h5.moved ha⟩
/-- launch, class numbers and slots, addresses, array classes, shapes -/
abbrev z_Gl : Type := Launch × va_G × (Nat → Nat) × (Nat → ClassId) × List z_H
abbrev z_sh (G : z_Gl) : List z_H := G.2.2.2.2
/-- a run of one method: the globals; machine, room, start, method, its end, the cells that may change, made cells and slots -/
abbrev z_E : Type := z_Gl × Program × Env × Room × State × MethodId × Array Value × List Frame × Method × Code × (State → Prop) × (Nat → Prop) × Nat × Nat
def z_J (E : z_E) (nL pc : Nat) (L : z_L) (st : List Value) (μ : z_M) : Prop := match E with
  | ((l, D, ad, dA, sh), p, e, R, s, m, args, below, meth, c, Q, A, kc, ks) =>
    ∀ (H : Heap) (locs : List Loc) (ls : Array Slot), va_P D z_cl (z_w ad dA sh μ) H → va_S A s.heap H locs → z_hl ls nL ad L → W p l e R s m args below meth c H locs kc ks Q (F0 m pc ls (st.map (z_v ad)))
/-- what holds all along the run: d levels of calls are free -/
def z_F (E : z_E) (own : String) (cc : ByteArray) (nL d : Nat) : Prop := match E with
  | ((l, D, ad, dA, sh), p, e, R, s, m, args, below, meth, c, Q, A, kc, ks) =>
    p.tables.exec = Jvm.exec ∧ c.code = cc ∧ c.maxLocals = nL ∧ s.vm.findClass own = some m.cls ∧ (∀ w ∈ z_T, w.before args s = true) ∧ va_K D z_cl (z_tys dA) s ∧ (∀ μ, va_D A (z_w ad dA sh μ)) ∧ (∀ q, s.heap.size ≤ q → A q) ∧ z_X ad A s s.heap ∧ d ≤ R.frames ∧ 36 * d ≤ R.locals ∧ kc ≤ R.cells ∧ ks ≤ R.slots
def z_Qc (G : z_Gl) (A : Nat → Prop) (P : Option Value → z_M → Prop) : Array Value → State → Outcome → State → Prop := match G with
  | (_, D, ad, dA, sh) => fun _ st oc t => (∃ (v : Option Value) (μ : z_M), oc = .returned (v.map (z_v ad)) ∧ P v μ ∧ va_P D z_cl (z_w ad dA sh μ) t.heap) ∧ va_F A st t
/-- the run's end: the method's type, and what its end must give -/
def z_R (E : z_E) (ret : Option FieldType) (P : Option Value → z_M → Prop) : Prop := match E with
  | (G, p, e, R, s, m, args, below, meth, c, Q, A, kc, ks) => meth.locks = false ∧ meth.sig.returnType = ret ∧ Q = MQ below (z_Qc G A P) args s kc ks A
def z_pre (G : z_Gl) (μ : z_M) (sz : Nat) (U : State) : Prop := match G with
  | (_, D, ad, dA, sh) => U.heap.size = sz ∧ va_P D z_cl (z_w ad dA sh μ) U.heap ∧ va_K D z_cl (z_tys dA) U ∧ va_D (fun _ => True) (z_w ad dA sh μ) ∧ z_X ad (va_A (z_w ad dA sh μ) sz) U U.heap
/-- the contract: called with av in memory μ, with d levels of calls free, it comes back with P -/
def z_C0 (G : z_Gl) (y : MethodName) (cc : ByteArray) (nL : Nat) (ret : Option FieldType) (d : Nat) (av : List Value) (μ : z_M) (P : Option Value → z_M → Prop) : Prop := match G with
  | (l, D, ad, dA, sh) => ∀ sz : Nat, Met l y (.code y cc nL ret :: z_T) (z_rm d) (va_Pc (av.map (z_v ad)) (z_pre (l, D, ad, dA, sh) μ sz)) (z_Qc (l, D, ad, dA, sh) (va_A (z_w ad dA sh μ) sz) P) 0 0 (va_A (z_w ad dA sh μ) sz)
/-- an answer that is an int; references stay -/
def z_Ci (G : z_Gl) (y : MethodName) (cc : ByteArray) (nL : Nat) (ret : Option FieldType) (d : Nat) (av : List Value) (μ : z_M) (P : Int32 → z_M → Prop) : Prop := z_C0 G y cc nL ret d av μ (fun v μ' => μ'.2.2 = μ.2.2 ∧ ∃ r, v = some (.int r) ∧ P r μ')
def z_Cl (G : z_Gl) (y : MethodName) (cc : ByteArray) (nL : Nat) (ret : Option FieldType) (d : Nat) (av : List Value) (μ : z_M) (P : Int64 → z_M → Prop) : Prop := z_C0 G y cc nL ret d av μ (fun v μ' => μ'.2.2 = μ.2.2 ∧ ∃ r, v = some (.long r) ∧ P r μ')
def z_Cv (G : z_Gl) (y : MethodName) (cc : ByteArray) (nL : Nat) (ret : Option FieldType) (d : Nat) (av : List Value) (μ : z_M) (P : z_M → Prop) : Prop := z_C0 G y cc nL ret d av μ (fun v μ' => μ'.2.2 = μ.2.2 ∧ v = none ∧ P μ')
theorem z_entry {nL : Nat} {ad : Nat → Nat} (av : List Value) (h : (lg_sl (av.map (z_v ad))).length ≤ nL) : z_hl ((lg_sl (av.map (z_v ad)) ++ List.replicate (nL - (lg_sl (av.map (z_v ad))).length) Slot.unset).toArray) nL ad (z_en nL av) := by
  obtain ⟨h1, h2, h3⟩ := lv_entry (av.map (z_v ad)) h
  refine ⟨h1, h2, fun i v hv => ?_⟩
  have := z_en_get (ad := ad) av nL 0 i v hv
  rw [Nat.zero_add] at this
  exact h3 _ this
def z_sl2 (av : List Value) : Nat := (av.map (fun v => v.category)).sum
theorem z_lgsl {ad : Nat → Nat} : ∀ av : List Value, (lg_sl (av.map (z_v ad))).length = z_sl2 av
  | [] => rfl
  | v :: av => by
    have ih := z_lgsl (ad := ad) av
    simp only [lg_sl, List.map_cons, List.flatMap_cons, List.length_append, z_sl2, List.sum_cons] at ih ⊢
    rw [ih, z_v_cat]
    rcases lv_cat v with h | h <;> simp [h]
/-- a method's contract out of its run from pc 0 on -/
theorem z_intro {G : z_Gl} {y : MethodName} {cc : ByteArray} {nL d : Nat} {ret : Option FieldType} {av : List Value} {μ : z_M} {P : Option Value → z_M → Prop} (hy : plainName y.cls = true) (hn : z_sl2 av ≤ nL) (h : ∀ E : z_E, E.1 = G → z_F E y.cls cc nL d → z_R E ret P → z_J E nL 0 (z_en nL av) [] μ) : z_C0 G y cc nL ret d av μ P := by
  obtain ⟨l, D, ad, dA, sh⟩ := G
  intro sz
  refine Met.ofW (cc := cc) (maxL := nL) (ret := ret) hy rfl ?_
  intro p e s m args below meth c s₁ B hml hv
  obtain ⟨rfl, hsz, hP, hK, hD0, hX⟩ := hv
  subst hsz
  have hts := atoms_spec (ws := Jvm.Cond.code y cc nL ret :: z_T) B.pre
  have hown : s.vm.findClass y.cls = some m.cls := findClass_of_methodNamed B.named
  have hD : ∀ μ', va_D (va_A (z_w ad dA sh μ) s.heap.size) (z_w ad dA sh μ') := fun μ' => z_D_any μ' (hD0.self (sz := s.heap.size))
  rw [lg_entry_eq]
  exact h ((l, D, ad, dA, sh), p, e, z_rm d, s, m, (av.map (z_v ad)).toArray, below, meth, c, MQ below (z_Qc (l, D, ad, dA, sh) (va_A (z_w ad dA sh μ) s.heap.size) P) (av.map (z_v ad)).toArray s 0 0 (va_A (z_w ad dA sh μ) s.heap.size), va_A (z_w ad dA sh μ) s.heap.size, 0, 0) rfl
    ⟨B.exec, B.bytes, hml, hown, fun w hw => hts w (List.mem_cons_of_mem _ hw), hK, hD, fun q hq => Or.inr hq, hX, Nat.le_refl _, Nat.le_refl _, Nat.zero_le _, Nat.zero_le _⟩ ⟨B.notSynchronized, B.returns, rfl⟩ s.heap [] _ hP va_S.rf (z_entry av (by rw [z_lgsl]; exact hn))
