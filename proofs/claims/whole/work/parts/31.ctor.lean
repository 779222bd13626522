/-! CONSTRUCTORS: contract, its proof, its call; new int[6][14] -/
def z_rmN (d mc ms : Nat) : Room := { frames := d, cells := mc, slots := ms, locals := 36 * d }
/-- array classes over the own classes -/
def z_Y (U : State) : Prop := va_AO "LastLent$Law" U ∧ va_AO "LastLent$Ship" U ∧ va_AOA .int U
theorem z_Y.moved {u U : State} (hvm : u.vm.Alike U.vm) (h : z_Y u) : z_Y U := ⟨h.1.moved hvm, h.2.1.moved hvm, h.2.2.moved hvm⟩
/-- behind a constructor: cells more, the memory μ' -/
def z_QN (G : z_Gl) (A : Nat → Prop) (shs : List z_H) (μ' : z_M) : Array Value → State → Outcome → State → Prop := match G with
  | (_, D, ad, dA, sh) => fun _ st oc t => (∃ ad' : Nat → Nat, (∀ i : Nat, i < sh.length ∨ 500 ≤ i → ad' i = ad i) ∧ oc = .returned none ∧ va_P D z_cl (z_w ad' dA (sh ++ shs) μ') t.heap ∧ va_D A (z_w ad' dA (sh ++ shs) μ')) ∧ va_F A st t
def z_CN (G : z_Gl) (y : MethodName) (cc : ByteArray) (nL d mc ms o : Nat) (μ : z_M) (shs : List z_H) (μ' : z_M) : Prop := match G with
  | (l, D, ad, dA, sh) => ∀ sz : Nat, Met l y (.code y cc nL none :: z_T) (z_rmN d mc ms) (va_Pc [.ref (ad o)] (fun U => z_pre (l, D, ad, dA, sh) μ sz U ∧ z_Y U)) (z_QN (l, D, ad, dA, sh) (va_A (z_w ad dA sh μ) sz) shs μ') mc ms (va_A (z_w ad dA sh μ) sz)
/-- a constructor's end, as it was at its start -/
def z_RN (E : z_E) (G0 : z_Gl) (shs : List z_H) (μ' : z_M) (mc ms : Nat) : Prop := match E with
  | ((_, D, ad, dA, _), p, e, R, s, m, args, below, meth, c, Q, A, kc, ks) => meth.locks = false ∧ meth.sig.returnType = none ∧ Q = MQ below (z_QN G0 A shs μ') args s mc ms A ∧ D = G0.2.1 ∧ dA = G0.2.2.2.1 ∧ (∀ i : Nat, i < (z_sh G0).length ∨ 500 ≤ i → ad i = z_ad G0 i)
theorem z_gr.rn {E E' : z_E} {G0 : z_Gl} {s1 shs : List z_H} {μ' : z_M} {a b mc ms : Nat} (g : z_gr E E' s1 a b) (hl : (z_sh G0).length ≤ (z_sh E.1).length) (h : z_RN E G0 shs μ' mc ms) : z_RN E' G0 shs μ' mc ms := by
  obtain ⟨ad', ha, rfl⟩ := g
  obtain ⟨⟨l, D, ad, dA, sh⟩, p, e, R, s, m, args, below, meth, c, Q, A, kc, ks⟩ := E
  obtain ⟨h1, h2, h3, h4, h5, h6⟩ := h
  refine ⟨h1, h2, h3, h4, h5, fun i hi => ?_⟩
  have h7 : i < (z_sh (l, D, ad, dA, sh)).length ∨ 500 ≤ i := by
    rcases hi with hi | hi
    · exact Or.inl (Nat.lt_of_lt_of_le hi hl)
    · exact Or.inr hi
  exact (ha i h7).trans (h6 i hi)
theorem z_introN {G : z_Gl} {y : MethodName} {cc : ByteArray} {nL d mc ms o : Nat} {μ μ' : z_M} {shs : List z_H} (hy : plainName y.cls = true) (hi : y.name = "<init>") (hn : 1 ≤ nL) (h : ∀ E : z_E, E.1 = G → z_F E y.cls cc nL d → z_RN E G shs μ' mc ms → z_cn E 0 0 mc ms → (z_Mt E).name = "<init>" → z_Y (z_St E) → z_J E nL 0 (z_en nL [.ref o]) [] μ) : z_CN G y cc nL d mc ms o μ shs μ' := by
  obtain ⟨l, D, ad, dA, sh⟩ := G
  intro sz
  refine Met.ofW (cc := cc) (maxL := nL) (ret := none) hy rfl ?_
  intro p e s m args below meth c s₁ B hml hv
  obtain ⟨rfl, ⟨hsz, hP, hK, hD0, hX⟩, hY⟩ := hv
  subst hsz
  have hts := atoms_spec (ws := Jvm.Cond.code y cc nL none :: z_T) B.pre
  have hown : s.vm.findClass y.cls = some m.cls := findClass_of_methodNamed B.named
  have hin : meth.name = "<init>" := (name_of_methodNamed B.named B.method).1.trans hi
  have hD : ∀ μ', va_D (va_A (z_w ad dA sh μ) s.heap.size) (z_w ad dA sh μ') := fun μ' => z_D_any μ' (hD0.self (sz := s.heap.size))
  have e0 : ([.ref (ad o)] : List Value) = [Value.ref o].map (z_v ad) := rfl
  rw [e0, lg_entry_eq]
  exact h ((l, D, ad, dA, sh), p, e, z_rmN d mc ms, s, m, ([Value.ref o].map (z_v ad)).toArray, below, meth, c, MQ below (z_QN (l, D, ad, dA, sh) (va_A (z_w ad dA sh μ) s.heap.size) shs μ') ([Value.ref o].map (z_v ad)).toArray s mc ms (va_A (z_w ad dA sh μ) s.heap.size), va_A (z_w ad dA sh μ) s.heap.size, 0, 0) rfl
    ⟨B.exec, B.bytes, hml, hown, fun w hw => hts w (List.mem_cons_of_mem _ hw), hK, hD, fun q hq => Or.inr hq, hX, Nat.le_refl _, Nat.le_refl _, Nat.zero_le _, Nat.zero_le _⟩ ⟨B.notSynchronized, B.returns, rfl, rfl, rfl, fun _ _ => rfl⟩ ⟨rfl, rfl, rfl, rfl⟩ hin hY s.heap [] _ hP va_S.rf (z_entry [.ref o] (by rw [z_lgsl]; exact hn))
section ZCtor
variable {E : z_E} {own : String} {cc : ByteArray} {nL d pc : Nat} {L : z_L} {st : List Value} {μ : z_M}
theorem j_nret (F : z_F E own cc nL d) {G0 : z_Gl} {shs : List z_H} {mc ms : Nat} (Rt : z_RN E G0 shs μ mc ms) (hc : z_cn E mc ms mc ms) (hsh : z_sh E.1 = z_sh G0 ++ shs) (hdg : decode cc pc = .ok (.return_, 1)) : z_J E nL pc L [] μ := by
  obtain ⟨⟨l, D, ad, dA, sh⟩, p, e, R, s, m, args, below, meth, c, Q, A, kc, ks⟩ := E
  obtain ⟨l0, D0, ad0, dA0, sh0⟩ := G0
  obtain ⟨hx, hb, hml, hown, hts, hK, hD, hA, hX, hd1, hd2, hc1, hc2⟩ := F
  have k1 : kc = mc := hc.1
  have k2 : ks = ms := hc.2.1
  have k3 : sh = sh0 ++ shs := hsh
  clear hc hsh
  subst k1; subst k2; subst k3
  obtain ⟨hlocks, hr, rfl, rfl, rfl, ha⟩ := Rt
  intro H locs ls hP hS hl
  exact W.vret hx hb hr (fun t ht hW => ⟨⟨ad, ha, rfl, by rw [ht]; exact hP, hD μ⟩, hS.F ht⟩) hS.2.2 hdg hlocks
theorem z_blindN {G : z_Gl} {av : List Value} {μ : z_M} {sz : Nat} : FrameBlind (va_Pc av (fun U => z_pre G μ sz U ∧ z_Y U)) := by
  obtain ⟨l, D, ad, dA, sh⟩ := G
  intro a U g mk h
  obtain ⟨q0, ⟨q1, qP, qK, qD, qX⟩, qY⟩ := h
  exact ⟨q0, ⟨q1, qP, va_K.moved (u := U) (U := U.calling g mk a) (Vm.Alike.refl U.vm) qK, qD, qX.same rfl⟩, qY.moved (u := U) (U := U.calling g mk a) (Vm.Alike.refl U.vm)⟩
theorem z_goN {l : Launch} {D : va_G} {ad : Nat → Nat} {dA : Nat → ClassId} {sh shs : List z_H} {p : Program} {e : Env} {R : Room} {s : State} {m : MethodId} {args : Array Value} {below : List Frame} {meth : Method} {c : Code} {H : Heap} {locs : List Loc} {kc ks mc ms pc : Nat} {Q : State → Prop} {A : Nat → Prop} {ls : Array Slot} {rest st0 : List Value} {a : Array Value} {A1 : Nat → Prop} {free : Addr → Prop} {μ' : z_M} (hr : va_Run p l e R s m args below meth c H locs kc ks mc ms (F0 m pc ls st0) rest (z_QN (l, D, ad, dA, sh) A1 shs μ' a) free) (hS : va_S A s.heap H locs) (hA : ∀ q, A1 q → A q) (hf : ∀ q, free q → A q)
    (kk : ∀ (ad' : Nat → Nat) (H1 : Heap) (locs1 : List Loc), (∀ i : Nat, i < sh.length ∨ 500 ≤ i → ad' i = ad i) → va_P D z_cl (z_w ad' dA (sh ++ shs) μ') H1 → va_D A (z_w ad' dA (sh ++ shs) μ') → va_S A s.heap H1 locs1 → W p l e R s m args below meth c H1 locs1 (kc + mc) (ks + ms) Q (F0 m (pc + 3) ls rest)) : W p l e R s m args below meth c H locs kc ks Q (F0 m pc ls st0) := by
  intro T hT X
  obtain ⟨v, st₀, t, T', L, h0, X', hL, e1, e2, ⟨⟨ad', ha, hv, hp, hd⟩, hz, hk⟩, st⟩ := hr T hT X
  cases hv
  rw [h0] at hz hk
  obtain ⟨t2, a1, b1⟩ := kk ad' T'.heap (locs ++ L) ha (by rw [e1]; exact hp) (hd.weaken (fun _ _ _ h => hA _ h))
    ⟨Nat.le_trans hS.1 (by rw [e1]; exact hz), fun q h1 h2 => by rw [e1, hk q (Nat.lt_of_lt_of_le h1 hS.1) (fun z => h2 (hA q z))]; exact hS.2.1 q h1 h2, fun q hq => by
      rcases List.mem_append.mp hq with h | h
      · exact hS.2.2 q h
      · exact hf _ (hL q h)⟩ T' rfl X'
  exact ⟨t2, st t2 a1, b1⟩
/-- a constructor is called: by its name, or as a nest mate's -/
theorem j_init (F : z_F E own cc nL d) {y : MethodName} {yc : ByteArray} {yL yd o idx n mc ms : Nat} {shs : List z_H} {μ' : z_M} (hM : z_CN E.1 y yc yL yd mc ms o μ shs μ') (hc : z_Yc y yc yL none 0) (hin : Cond.instanceMethod y ∈ z_T) (hy1 : y.name = "<init>") (hlk : Cond.methodLink own idx y ∈ z_T ∨ (own, idx, y) ∈ z_NW) (hY : z_Y (z_St E)) (hn : (z_sh E.1).length = n) (hL : z_olL n L) (hSt : z_olS n st) (hd : yd + 1 ≤ d) (hst : (st.map fun v => v.category).sum ≤ 8) (hrc : z_kc E + mc ≤ (z_Rm E).cells) (hrs : z_ks E + ms ≤ (z_Rm E).slots) (hdg : decode cc pc = .ok (.invokespecial idx, 3))
    (kk : ∀ E' : z_E, z_gr E E' shs mc ms → z_F E' own cc nL d → z_J E' nL (pc + 3) L st μ') : z_J E nL pc L (.ref o :: st) μ := by
  obtain ⟨⟨l, D, ad, dA, sh⟩, p, e, R, s, m, args, below, meth, c, Q, A, kc, ks⟩ := E
  obtain ⟨hx, hb, hml, hown, hts, hK, hD, hA, hX, hd1, hd2, hc1, hc2⟩ := F
  obtain ⟨y1, y2, y3, y4⟩ := hc
  have hn : sh.length = n := hn
  intro H locs ls hP hS hl
  have hpre : PreS s H (va_Pc [.ref (ad o)] (fun U => z_pre (l, D, ad, dA, sh) μ H.size U ∧ z_Y U)) (.ref (ad o) :: []) := ⟨z_blindN, fun U hU hW => by
    obtain ⟨h1, h2⟩ := z_start (l := l) (av := [.ref o]) hK (hD μ) hA hX hP hS hU hW
    exact ⟨rfl, h2, hY.moved hW.alike⟩⟩
  have hrun : va_Run p l e R s m args below meth c H locs kc ks mc ms (F0 m pc ls ((Value.ref o :: st).map (z_v ad))) (st.map (z_v ad)) (z_QN (l, D, ad, dA, sh) (va_A (z_w ad dA sh μ) H.size) shs μ' (Value.ref (ad o) :: []).toArray) (va_A (z_w ad dA sh μ) H.size) := by
    rcases hlk with hlk | hlk
    · exact va_runI (l := l) (e := e) (below := below) (meth := meth) (locs := locs) (cells := kc) (slots := ks) (p := p) (R := R) (g := F0 m pc ls ((Value.ref o :: st).map (z_v ad))) (As := []) (rest := st.map (z_v ad)) (b := ad o) (n := 0) (Ts := z_T) (own := own) (cc := cc) (nL := nL) (index := idx) ⟨hx, hb, hml, hown, hts⟩ (hM H.size)
        ⟨callB_of 0 hts (z_code_good y1) rfl rfl rfl (hts _ y2) (hts _ hlk) y3 ⟨by show yd + 1 ≤ _; omega, by show 8 + (yL + 11) + 36 * yd ≤ _; omega⟩, hy1, hts _ hin⟩ hpre rfl rfl hl.1 rfl (lv_room (by rw [z_cats]; exact hst)) hdg ⟨hrc, hrs⟩
    · exact va_runIN (l := l) (e := e) (below := below) (meth := meth) (locs := locs) (cells := kc) (slots := ks) (p := p) (R := R) (g := F0 m pc ls ((Value.ref o :: st).map (z_v ad))) (As := []) (rest := st.map (z_v ad)) (b := ad o) (n := 0) (Ts := z_T) (own := own) (cc := cc) (nL := nL) (index := idx) ⟨hx, hb, hml, hown, hts⟩ (hM H.size)
        ⟨va_cnB 0 hts (z_code_good y1) rfl rfl rfl (hX.1 _ hlk) (hts _ y2) y3 ⟨by show yd + 1 ≤ _; omega, by show 8 + (yL + 11) + 36 * yd ≤ _; omega⟩, hy1, hts _ hin⟩ hpre rfl rfl hl.1 rfl (lv_room (by rw [z_cats]; exact hst)) hdg ⟨hrc, hrs⟩
  refine z_goN hrun hS (fun q h => z_inA (hD μ) hA hS q h) (fun q h => z_inA (hD μ) hA hS q h) (fun ad' H1 locs1 ha hP1 hD1 hS1 => ?_)
  have ha2 : ∀ i : Nat, i < n ∨ 500 ≤ i → ad' i = ad i := fun i hi => ha i (by rw [hn]; exact hi)
  have hw := kk (z_up ((l, D, ad, dA, sh), p, e, R, s, m, args, below, meth, c, Q, A, kc, ks) ad' shs mc ms) ⟨ad', ha, rfl⟩
    ⟨hx, hb, hml, hown, hts, hK, fun ν => z_D_any ν (μ := μ') hD1, hA, hX.ad (fun i hi => ha2 i (Or.inr hi)), hd1, hd2, hrc, hrs⟩ H1 locs1 ls hP1 hS1 (z_ol_hl ha2 hL hl)
  rw [z_ol_st ha2 hSt] at hw
  exact hw
/-- new int[6][14]: the outer row at n, the six inner ones behind it -/
def z_rows (μ : z_M) (n : Nat) : z_M := (μ.1, μ.2.1, fun a => if a = n then (fun k => if k < 6 then some (n + 1 + k) else none) else μ.2.2 a)
def z_rowS : List z_H := [.inl (4, 6), .inl (0, 14), .inl (0, 14), .inl (0, 14), .inl (0, 14), .inl (0, 14), .inl (0, 14)]
theorem z_fr.rows {μ : z_M} {n : Nat} (h : z_fr μ n) : z_fr (z_rows μ n) (n + 7) := by
  refine ⟨fun i hi k => ?_, fun i k r hr => ?_⟩
  · have e : (z_rows μ n).2.2 i = μ.2.2 i := if_neg (by omega)
    refine ⟨(h.1 i (by omega) k).1, (h.1 i (by omega) k).2.1, ?_⟩
    rw [e]
    exact (h.1 i (by omega) k).2.2
  · by_cases hi : i = n
    · subst hi
      simp only [z_rows, if_true] at hr
      split at hr
      · cases hr; omega
      · cases hr
    · have e : (z_rows μ n).2.2 i = μ.2.2 i := if_neg hi
      rw [e] at hr
      have := h.2 i k r hr
      omega
theorem j_mna (F : z_F E own cc nL d) {n idx : Nat} (hov : va_AOA .int (z_St E)) (hwl : Cond.classLink own idx "[[I" ∈ z_T) (hwa : Cond.arrayClass .int ∈ z_T) (hn : (z_sh E.1).length = n) (h5 : n + 7 < 500) (hfr : z_fr μ n) (hL : z_olL n L) (hSt : z_olS n st) (hrc : z_kc E + 7 ≤ (z_Rm E).cells) (hrs : z_ks E + 90 ≤ (z_Rm E).slots) (hdg : decode cc pc = .ok (.multianewarray idx 2, 4))
    (kk : ∀ E' : z_E, z_gr E E' z_rowS 7 90 → z_F E' own cc nL d → z_J E' nL (pc + 4) L (.ref n :: st) (z_rows μ n)) : z_J E nL pc L (.int 14 :: .int 6 :: st) μ := by
  obtain ⟨⟨l, D, ad, dA, sh⟩, p, e, R, s, m, args, below, meth, c, Q, A, kc, ks⟩ := E
  obtain ⟨hx, hb, hml, hown, hts, hK, hD, hA, hX, hd1, hd2, hc1, hc2⟩ := F
  have hn : sh.length = n := hn
  intro H locs ls hP hS hl
  have hcy : s.vm.findClass (FieldType.array FieldType.int).toString = some (dA 0) := (hK.2 0 (dA 0, .int) rfl).2
  refine va_mna (X := z_w ad dA sh μ) (L := []) (f := fun _ => .inr (0, [])) (ty := .int) (cy := dA 0) (N' := 6) (K' := 14) (z := (14, .inl (fun _ => 0))) hx hb hown (hts _ hwl) hov (hts _ hwa) hcy hK (by simpa [va_pl] using hP) (by simpa [va_pl] using hD μ) hS hA (by decide) (by decide) rfl rfl (by decide) (by decide) (by decide) rfl rfl hrc hrs (fun c => by rw [vp_cell_i, ← arrV_new]; rfl) hdg (fun q r cA H1 hri hrn hK1 hP1 hD1 hS1 => ?_)
  have hcA : cA = dA 4 := by
    have h1 : va_RA s cA (.array .int) := (hK1.2 5 (cA, .array .int) rfl).2
    have h2 : va_RA s (dA 4) (.array .int) := (hK.2 4 (dA 4, .array .int) rfl).2
    exact Option.some.inj (h1.symm.trans h2)
  subst hcA
  generalize hade : (fun i => if i = n then q else if n < i ∧ i < n + 7 then r (i - (n + 1)) else ad i) = ad'
  have ha : ∀ i : Nat, i < n ∨ 500 ≤ i → ad' i = ad i := fun i hi => by
    rw [← hade]
    show (if i = n then q else if n < i ∧ i < n + 7 then r (i - (n + 1)) else ad i) = ad i
    rw [if_neg (by omega), if_neg (by omega)]
  have hq : ad' n = q := by rw [← hade]; exact if_pos rfl
  have hr : ∀ k : Nat, k < 6 → ad' (n + 1 + k) = r k := fun k hk => by
    rw [← hade]
    show (if n + 1 + k = n then q else if n < n + 1 + k ∧ n + 1 + k < n + 7 then r (n + 1 + k - (n + 1)) else ad (n + 1 + k)) = r k
    rw [if_neg (by omega), if_pos (by omega)]
    congr 1
    omega
  have hblank : ∀ i : Nat, n ≤ i → μ.1 i = fun _ => 0 := fun i hi => funext fun k => (hfr.1 i hi k).1
  have eW : z_w ad' dA (sh ++ z_rowS) (z_rows μ n) = (z_w ad dA sh μ ++ [(q, .inl (dA 4, 6, .inr (.inr (.inr (.inr (fun i => if i < 6 then some (r i) else none))))))]) ++ va_pl ([] ++ (List.range 6).map r) (vr_up (fun _ => .inr (0, [])) ((List.range 6).map r) (.inl (dA 0, 14, .inl (fun _ => 0)))) := by
    have hlen : (z_w ad dA sh μ).length = n := by simp [z_w, hn]
    have eold : ∀ (i : Nat) (h : z_H), i < n → z_e ad' dA (z_rows μ n) i h = z_e ad dA μ i h := by
      intro i h hi
      have e0 : (z_rows μ n).2.2 i = μ.2.2 i := if_neg (by omega)
      have e1 : z_e ad' dA (z_rows μ n) i h = z_e ad' dA μ i h := by
        rcases h with ⟨t, N⟩ | ⟨ci, ks⟩
        · simp only [z_e, e0]; rfl
        · have e2 : z_f ad' (z_rows μ n) i = z_f ad' μ i := by
            funext k q
            match q with
            | 0 => rfl
            | 1 => rfl
            | (j + 2) => simp only [z_f, e0]
          simp only [z_e, e2]
      rw [e1, z_e_ad ha hfr.2]
    have enew : z_e ad' dA (z_rows μ n) n (.inl (4, 6)) = .inl (dA 4, 6, .inr (.inr (.inr (.inr (fun i => if i < 6 then some (r i) else none))))) := by
      simp only [z_e]
      rw [if_neg (by omega)]
      have e3 : (fun k => ((z_rows μ n).2.2 n k).map ad') = fun i => if i < 6 then some (r i) else none := by
        funext k
        simp only [z_rows, if_true]
        by_cases hk : k < 6
        · simp [hk, hr k hk]
        · simp [hk]
      rw [e3]
    have erow : ∀ k : Nat, k < 6 → z_e ad' dA (z_rows μ n) (n + 1 + k) (.inl (0, 14)) = .inl (dA 0, 14, .inl (fun _ => 0)) := by
      intro k _
      have e4 : (z_rows μ n).1 (n + 1 + k) = fun _ => 0 := hblank _ (by omega)
      simp only [z_e, e4]
      rfl
    have epl : va_pl ([] ++ (List.range 6).map r) (vr_up (fun _ => .inr (0, [])) ((List.range 6).map r) (.inl (dA 0, 14, .inl (fun _ => 0)))) = ((List.range 6).map (fun k => ((r k, .inl (dA 0, 14, .inl (fun _ => 0))) : Nat × va_E))) := by
      unfold va_pl
      rw [List.nil_append, List.map_map]
      apply List.map_congr_left
      intro k hk
      have : r k ∈ (List.range 6).map r := List.mem_map.mpr ⟨k, hk, rfl⟩
      simp only [Function.comp, vr_up_in this]
    rw [epl]
    have e5 : (List.range 6).map (fun k => ((r k, .inl (dA 0, 14, .inl (fun _ => 0))) : Nat × va_E)) = [(r 0, .inl (dA 0, 14, .inl (fun _ => 0))), (r 1, .inl (dA 0, 14, .inl (fun _ => 0))), (r 2, .inl (dA 0, 14, .inl (fun _ => 0))), (r 3, .inl (dA 0, 14, .inl (fun _ => 0))), (r 4, .inl (dA 0, 14, .inl (fun _ => 0))), (r 5, .inl (dA 0, 14, .inl (fun _ => 0)))] := rfl
    rw [e5]
    apply List.ext_getElem?
    intro i
    by_cases hi : i < n
    · rw [List.append_assoc, List.getElem?_append_left (by rw [hlen]; exact hi)]
      simp only [z_w, List.getElem?_mapIdx]
      rw [List.getElem?_append_left (by rw [hn]; exact hi)]
      cases sh[i]? with
      | none => rfl
      | some x => simp only [Option.map_some]; rw [ha i (Or.inl hi), eold i x hi]
    · rw [List.append_assoc, List.getElem?_append_right (by rw [hlen]; omega), hlen]
      simp only [z_w, List.getElem?_mapIdx]
      rw [List.getElem?_append_right (by rw [hn]; omega), hn]
      obtain ⟨j, rfl⟩ : ∃ j, i = n + j := ⟨i - n, by omega⟩
      rw [Nat.add_sub_cancel_left]
      match j with
      | 0 => simp only [z_rowS, List.getElem?_cons_zero, Option.map_some, Nat.add_zero, enew, hq]; rfl
      | 1 => simp only [z_rowS, List.getElem?_cons_succ, List.getElem?_cons_zero, Option.map_some, List.cons_append, List.nil_append]; rw [show n + 1 = n + 1 + 0 from rfl, erow 0 (by omega), hr 0 (by omega)]
      | 2 => simp only [z_rowS, List.getElem?_cons_succ, List.getElem?_cons_zero, Option.map_some, List.cons_append, List.nil_append]; rw [show n + 2 = n + 1 + 1 from rfl, erow 1 (by omega), hr 1 (by omega)]
      | 3 => simp only [z_rowS, List.getElem?_cons_succ, List.getElem?_cons_zero, Option.map_some, List.cons_append, List.nil_append]; rw [show n + 3 = n + 1 + 2 by omega, erow 2 (by omega), hr 2 (by omega)]
      | 4 => simp only [z_rowS, List.getElem?_cons_succ, List.getElem?_cons_zero, Option.map_some, List.cons_append, List.nil_append]; rw [show n + 4 = n + 1 + 3 by omega, erow 3 (by omega), hr 3 (by omega)]
      | 5 => simp only [z_rowS, List.getElem?_cons_succ, List.getElem?_cons_zero, Option.map_some, List.cons_append, List.nil_append]; rw [show n + 5 = n + 1 + 4 by omega, erow 4 (by omega), hr 4 (by omega)]
      | 6 => simp only [z_rowS, List.getElem?_cons_succ, List.getElem?_cons_zero, Option.map_some, List.cons_append, List.nil_append]; rw [show n + 6 = n + 1 + 5 by omega, erow 5 (by omega), hr 5 (by omega)]
      | (j + 7) => simp [z_rowS]
  have hw := kk (z_up ((l, D, ad, dA, sh), p, e, R, s, m, args, below, meth, c, Q, A, kc, ks) ad' z_rowS 7 90) ⟨ad', fun i hi => ha i (by rw [← hn]; exact hi), rfl⟩
    ⟨hx, hb, hml, hown, hts, hK, fun ν => z_D_any ν (μ := z_rows μ n) (by rw [eW]; exact hD1), hA, hX.ad (fun i hi => ha i (Or.inr hi)), hd1, hd2, hrc, hrs⟩ H1 locs ls (by rw [eW]; exact hP1) hS1 (z_ol_hl ha hL hl)
  have e1 : (Value.ref n :: st).map (z_v ad') = .ref q :: st.map (z_v ad) := by
    rw [List.map_cons, z_ol_st ha hSt]
    simp only [z_v, hq]
  rw [e1] at hw
  exact hw
end ZCtor
