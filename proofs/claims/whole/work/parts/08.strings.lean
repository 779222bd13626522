/-! THE TEXTS of LawText: length and charAt, over the JDK's own code (written by wip/whole/strings.py) -/
/-- the sign at place i of text t -/
def z_ch (t i : Nat) : Int32 := (z_byt.getD t []).getD i 0
theorem z_ch_ok : ∀ t, t < 4 → ∀ i, i < z_len.getD t 0 → (((z_ch t i) &&& 255).toUInt32 % 65536).toInt32 = z_ch t i ∧ narrow .char (.int (z_ch t i)) = .int (z_ch t i) := by decide +kernel
theorem z_len_ok : ∀ t, t < 4 → Int32.ofNat (z_len.getD t 0) >>> ((0 : Int32) &&& 31) = Int32.ofNat (z_len.getD t 0) ∧ z_len.getD t 0 < 100 := by decide +kernel
theorem j_ldcS {E : z_E} {own : String} {cc : ByteArray} {nL d pc : Nat} {L : z_L} {st : List Value} {μ : z_M} (F : z_F E own cc nL d) {i idx : Nat} {tx : String} (ho : own = "LastLent$LawText") (hi : z_SR[i]? = some (idx, tx)) (hdg : decode cc pc = .ok (.ldc idx, 2)) (k : z_J E nL (pc + 2) L (.ref (1000 + i) :: st) μ) : z_J E nL pc L st μ := by
  subst ho
  obtain ⟨⟨l, D, ad, dA, sh⟩, p, e, R, s, m, args, below, meth, c, Q, A, kc, ks⟩ := E
  obtain ⟨hx, hb, hml, hown, hts, hK, hD, hA, hX, hd1, hd2, hc1, hc2⟩ := F
  intro H locs ls hP hS hl
  exact va_ldcS hx hb hown (hX.2.1 i _ hi) hdg (k H locs ls hP hS hl)
theorem j_getsC {E : z_E} {own : String} {cc : ByteArray} {nL d pc : Nat} {L : z_L} {st : List Value} {μ : z_M} (F : z_F E own cc nL d) {idx : Nat} (hlk : Cond.fieldLink own idx "java/lang/String" "COMPACT_STRINGS" "Z" ∈ z_T) (hdg : decode cc pc = .ok (.getstatic idx, 3)) (k : z_J E nL (pc + 3) L (.int 1 :: st) μ) : z_J E nL pc L st μ := by
  obtain ⟨⟨l, D, ad, dA, sh⟩, p, e, R, s, m, args, below, meth, c, Q, A, kc, ks⟩ := E
  obtain ⟨hx, hb, hml, hown, hts, hK, hD, hA, hX, hd1, hd2, hc1, hc2⟩ := F
  intro H locs ls hP hS hl
  exact va_gets hx hb hX.2.2.2.1 hS hown (hts _ hlk) (fun _ h9 => h9) hdg (k H locs ls hP hS hl)
theorem j_getsF {E : z_E} {own : String} {cc : ByteArray} {nL d pc : Nat} {L : z_L} {st : List Value} {μ : z_M} (F : z_F E own cc nL d) {idx : Nat} (hlk : Cond.fieldLink own idx "jdk/internal/util/Preconditions" "SIOOBE_FORMATTER" "Ljava/util/function/BiFunction;" ∈ z_T) (hdg : decode cc pc = .ok (.getstatic idx, 3)) (k : ∀ w : Value, (w = .null ∨ w = .ref 1020) → z_J E nL (pc + 3) L (w :: st) μ) : z_J E nL pc L st μ := by
  obtain ⟨⟨l, D, ad, dA, sh⟩, p, e, R, s, m, args, below, meth, c, Q, A, kc, ks⟩ := E
  obtain ⟨hx, hb, hml, hown, hts, hK, hD, hA, hX, hd1, hd2, hc1, hc2⟩ := F
  intro H locs ls hP hS hl
  obtain ⟨w, hw, hZ⟩ := hX.2.2.2.2
  exact va_gets hx hb hZ hS hown (hts _ hlk) (fun _ h9 => h9) hdg (k w hw H locs ls hP hS hl)
theorem j_getfV {E : z_E} {own : String} {cc : ByteArray} {nL d pc : Nat} {L : z_L} {st : List Value} {μ : z_M} (F : z_F E own cc nL d) {idx t : Nat} (ht : t < 4) (hlk : Cond.fieldLink own idx "java/lang/String" "value" "[B" ∈ z_T) (hdg : decode cc pc = .ok (.getfield idx, 3)) (k : z_J E nL (pc + 3) L (.ref (1010 + t) :: st) μ) : z_J E nL pc L (.ref (1000 + t) :: st) μ := by
  obtain ⟨⟨l, D, ad, dA, sh⟩, p, e, R, s, m, args, below, meth, c, Q, A, kc, ks⟩ := E
  obtain ⟨hx, hb, hml, hown, hts, hK, hD, hA, hX, hd1, hd2, hc1, hc2⟩ := F
  intro H locs ls hP hS hl
  exact vk_getf hx hb (hX.2.2.1.1 t ht).2.2.1 hS hown (hts _ hlk) (fun _ h9 => h9) hdg (k H locs ls hP hS hl)
theorem j_getfC {E : z_E} {own : String} {cc : ByteArray} {nL d pc : Nat} {L : z_L} {st : List Value} {μ : z_M} (F : z_F E own cc nL d) {idx t : Nat} (ht : t < 4) (hlk : Cond.fieldLink own idx "java/lang/String" "coder" "B" ∈ z_T) (hdg : decode cc pc = .ok (.getfield idx, 3)) (k : z_J E nL (pc + 3) L (.int 0 :: st) μ) : z_J E nL pc L (.ref (1000 + t) :: st) μ := by
  obtain ⟨⟨l, D, ad, dA, sh⟩, p, e, R, s, m, args, below, meth, c, Q, A, kc, ks⟩ := E
  obtain ⟨hx, hb, hml, hown, hts, hK, hD, hA, hX, hd1, hd2, hc1, hc2⟩ := F
  intro H locs ls hP hS hl
  exact vk_getf hx hb (hX.2.2.1.1 t ht).2.1 hS hown (hts _ hlk) (fun _ h9 => h9) hdg (k H locs ls hP hS hl)
theorem j_tlen {E : z_E} {own : String} {cc : ByteArray} {nL d pc : Nat} {L : z_L} {st : List Value} {μ : z_M} (F : z_F E own cc nL d) {t : Nat} (ht : t < 4) (hdg : decode cc pc = .ok (.arraylength, 1)) (k : z_J E nL (pc + 1) L (.int (Int32.ofNat (z_len.getD t 0)) :: st) μ) : z_J E nL pc L (.ref (1010 + t) :: st) μ := by
  obtain ⟨⟨l, D, ad, dA, sh⟩, p, e, R, s, m, args, below, meth, c, Q, A, kc, ks⟩ := E
  obtain ⟨hx, hb, hml, hown, hts, hK, hD, hA, hX, hd1, hd2, hc1, hc2⟩ := F
  intro H locs ls hP hS hl
  exact va_tlen hx hb (hX.2.2.1.1 t ht).2.2.2 hS rfl hdg (k H locs ls hP hS hl)
theorem j_tb {E : z_E} {own : String} {cc : ByteArray} {nL d pc : Nat} {L : z_L} {st : List Value} {μ : z_M} (F : z_F E own cc nL d) {t : Nat} {i : Int32} (ht : t < 4) (hin : vp_in i (z_len.getD t 0)) (hdg : decode cc pc = .ok (.baload, 1)) (k : z_J E nL (pc + 1) L (.int (z_ch t i.toNatClampNeg) :: st) μ) : z_J E nL pc L (.int i :: .ref (1010 + t) :: st) μ := by
  obtain ⟨⟨l, D, ad, dA, sh⟩, p, e, R, s, m, args, below, meth, c, Q, A, kc, ks⟩ := E
  obtain ⟨hx, hb, hml, hown, hts, hK, hD, hA, hX, hd1, hd2, hc1, hc2⟩ := F
  intro H locs ls hP hS hl
  exact va_tb hx hb (hX.2.2.1.1 t ht).2.2.2 hS hin rfl hdg (k H locs ls hP hS hl)
theorem j_i2c {E : z_E} {own : String} {cc : ByteArray} {nL d pc : Nat} {L : z_L} {st : List Value} {μ : z_M} (F : z_F E own cc nL d) {x : Int32} (hdg : decode cc pc = .ok (.i2c, 1)) (k : z_J E nL (pc + 1) L (.int (x.toUInt32 % 65536).toInt32 :: st) μ) : z_J E nL pc L (.int x :: st) μ := by
  obtain ⟨⟨l, D, ad, dA, sh⟩, p, e, R, s, m, args, below, meth, c, Q, A, kc, ks⟩ := E
  obtain ⟨hx, hb, hml, hown, hts, hK, hD, hA, hX, hd1, hd2, hc1, hc2⟩ := F
  intro H locs ls hP hS hl
  exact lv_i2c hx hb hdg rfl (k H locs ls hP hS hl)
theorem j_callVs {E : z_E} {own : String} {cc : ByteArray} {nL d pc : Nat} {L : z_L} {st st0 : List Value} {μ : z_M} (F : z_F E own cc nL d) {y : MethodName} {yc : ByteArray} {yL n yd t idx : Nat} {ret : Option FieldType} {As : List Value} {P : Int32 → z_M → Prop} (ht : t < 4) (hM : z_Ci E.1 y yc yL ret yd (.ref (1000 + t) :: As) μ P) (hc : z_Yc y yc yL ret n) (hv : z_Yv y) (hlk : Cond.methodLink own idx y ∈ z_T)
    (hcl : y.cls = "java/lang/String") (hn : As.length = n) (hd : yd + 1 ≤ d) (hst : (st.map fun v => v.category).sum ≤ 8) (h0 : st0 = As.reverse ++ .ref (1000 + t) :: st) (hdg : decode cc pc = .ok (.invokevirtual idx, 3))
    (k : ∀ (r : Int32) (μ' : z_M), μ'.2.2 = μ.2.2 → P r μ' → z_J E nL (pc + 3) L (.int r :: st) μ') : z_J E nL pc L st0 μ := by
  obtain ⟨⟨l, D, ad, dA, sh⟩, p, e, R, s, m, args, below, meth, c, Q, A, kc, ks⟩ := E
  obtain ⟨hx, hb, hml, hown, hts, hK, hD, hA, hX, hd1, hd2, hc1, hc2⟩ := F
  intro H locs ls hP hS hl
  obtain ⟨y1, y2, y3, y4⟩ := hc
  obtain ⟨v1, v2⟩ := hv
  subst h0
  have hrun := va_runV (l := l) (e := e) (below := below) (meth := meth) (locs := locs) (cells := kc) (slots := ks) (p := p) (R := R) (g := F0 m pc ls ((As.reverse ++ .ref (1000 + t) :: st).map (z_v ad))) (As := As.map (z_v ad)) (rest := st.map (z_v ad)) (b := ad (1000 + t)) (C := y.cls) (n := n) (Ts := z_T) (own := own) (cc := cc) (nL := nL) (index := idx) ⟨hx, hb, hml, hown, hts⟩ (hM H.size)
    ⟨callB_of n hts (z_code_good y1) rfl rfl rfl (hts _ y2) (hts _ hlk) y3 ⟨by show yd + 1 ≤ _; omega, by show 8 + (yL + 11) + 36 * yd ≤ _; omega⟩, hts _ v1, hts _ v2⟩
    ⟨z_blind, by rw [hcl]; exact vk_recv (i := t) (adK := fun i => ad (1000 + i)) hX.2.2.1 ht hS, fun U hU hW => z_start (av := .ref (1000 + t) :: As) hK (hD μ) hA hX hP hS hU hW⟩ rfl (by simpa using hn) hl.1 (by simp [List.map_reverse, z_v]) (lv_room (by rw [z_cats]; exact hst)) hdg ⟨hc1, hc2⟩
  refine z_go hrun hS (fun q _ h => z_inA (hD μ) hA hS q h) (fun q h => z_inA (hD μ) hA hS q h) (fun v μ' H1 locs1 hp hP1 hS1 => ?_)
  obtain ⟨h1, r, rfl, h2⟩ := hp
  exact k r μ' h1 h2 H1 locs1 ls hP1 hS1 hl
set_option maxHeartbeats 4000000 in
set_option maxRecDepth 100000 in
theorem t_coder {G : z_Gl} {μ : z_M} {t : Nat} (ht : t < 4) : z_Ci G yJ0_coder_7d493 cJ0_coder_7d493 1 (some .byte) 0 [.ref (1000 + t)] μ (fun r1 μ1 => 0 = r1 ∧ μ = μ1) := by
  unfold z_Ci
  refine z_intro (by decide +kernel) (Nat.le_of_ble_eq_true rfl) (fun E hE F Rt => ?_)
  subst hE
  have F : z_F E RJ0 cJ0_coder_7d493 1 0 := F
  show z_J E 1 0 [some (.ref (1000 + t))] [] μ
  refine j_getsC F (pc := 0) m_421 (by decide +kernel) ?_
  refine j_if_eq F (pc := 3) (off := 10) (tgt := 13) (by decide +kernel) (by decide) (fun c => absurd c (by decide)) (fun c => ?_)
  refine j_aload_n F (pc := 6) (q := 0) (by decide +kernel) rfl ?_
  refine j_getfC F (pc := 7) ht m_1347 (by decide +kernel) ?_
  refine j_goto F (pc := 10) (off := 4) (tgt := 14) (by decide +kernel) (by decide) ?_
  exact j_iret (st := []) F Rt rfl (by decide +kernel) ⟨rfl, _, rfl, rfl, rfl⟩
set_option maxHeartbeats 4000000 in
set_option maxRecDepth 100000 in
theorem t_isLatin1 {G : z_Gl} {μ : z_M} {t : Nat} (ht : t < 4) : z_Ci G yJ0_isLatin1_aae02 cJ0_isLatin1_aae02 1 (some .boolean) 0 [.ref (1000 + t)] μ (fun r1 μ1 => 1 = r1 ∧ μ = μ1) := by
  unfold z_Ci
  refine z_intro (by decide +kernel) (Nat.le_of_ble_eq_true rfl) (fun E hE F Rt => ?_)
  subst hE
  have F : z_F E RJ0 cJ0_isLatin1_aae02 1 0 := F
  show z_J E 1 0 [some (.ref (1000 + t))] [] μ
  refine j_getsC F (pc := 0) m_421 (by decide +kernel) ?_
  refine j_if_eq F (pc := 3) (off := 14) (tgt := 17) (by decide +kernel) (by decide) (fun c => absurd c (by decide)) (fun c => ?_)
  refine j_aload_n F (pc := 6) (q := 0) (by decide +kernel) rfl ?_
  refine j_getfC F (pc := 7) ht m_1347 (by decide +kernel) ?_
  refine j_if_ne F (pc := 10) (off := 7) (tgt := 17) (by decide +kernel) (by decide) (fun c => absurd rfl c) (fun c => ?_)
  refine j_iconst F (pc := 13) (n := 1) (v := 1) (by decide +kernel) (by decide +kernel) ?_
  refine j_goto F (pc := 14) (off := 4) (tgt := 18) (by decide +kernel) (by decide) ?_
  exact j_iret (st := []) F Rt rfl (by decide +kernel) ⟨rfl, _, rfl, rfl, rfl⟩
set_option maxHeartbeats 4000000 in
set_option maxRecDepth 100000 in
theorem t_length {G : z_Gl} {μ : z_M} {t : Nat} (ht : t < 4) : z_Ci G yJ0_length_8abf5 cJ0_length_8abf5 1 (some .int) 1 [.ref (1000 + t)] μ (fun r1 μ1 => Int32.ofNat (z_len.getD t 0) = r1 ∧ μ = μ1) := by
  unfold z_Ci
  refine z_intro (by decide +kernel) (Nat.le_of_ble_eq_true rfl) (fun E hE F Rt => ?_)
  subst hE
  have F : z_F E RJ0 cJ0_length_8abf5 1 1 := F
  show z_J E 1 0 [some (.ref (1000 + t))] [] μ
  refine j_aload_n F (pc := 0) (q := 0) (by decide +kernel) rfl ?_
  refine j_getfV F (pc := 1) ht m_1346 (by decide +kernel) ?_
  refine j_tlen F (pc := 4) ht (by decide +kernel) ?_
  refine j_aload_n F (pc := 5) (q := 0) (by decide +kernel) rfl ?_
  refine j_callVs F (pc := 6) (idx := 335) (As := []) (st := [.int (Int32.ofNat (z_len.getD t 0))]) ht (t_coder (G := E.1) ht) q_J0_coder_7d493 v_J0_coder_7d493 m_417 rfl rfl (by decide) (Nat.le_of_ble_eq_true rfl) rfl (by decide +kernel) (fun r ν hq hp => ?_)
  obtain ⟨rfl, rfl⟩ := hp
  refine j_ishr F (pc := 9) (by decide +kernel) ?_
  rw [(z_len_ok t ht).1]
  exact j_iret (st := []) F Rt rfl (by decide +kernel) ⟨rfl, _, rfl, rfl, rfl⟩
set_option maxHeartbeats 4000000 in
set_option maxRecDepth 100000 in
theorem t_pcheck {G : z_Gl} {μ : z_M} {w : Value} {i n : Int32} (hw : w = .null ∨ w = .ref 1020) (h0 : ¬ i < 0) (h1 : i < n) : z_Ci G yJ3_checkIndex_8e157 cJ3_checkIndex_8e157 3 (some .int) 0 [.int i, .int n, w] μ (fun r1 μ1 => i = r1 ∧ μ = μ1) := by
  unfold z_Ci
  refine z_intro (by decide +kernel) (by rcases hw with rfl | rfl <;> exact Nat.le_of_ble_eq_true rfl) (fun E hE F Rt => ?_)
  subst hE
  have F : z_F E RJ3 cJ3_checkIndex_8e157 3 0 := F
  have he : z_en 3 [.int i, .int n, w] = [some (.int i), some (.int n), some w] := by rcases hw with rfl | rfl <;> rfl
  rw [he]
  refine j_iload_n F (pc := 0) (q := 0) (by decide +kernel) rfl ?_
  refine j_if_lt F (pc := 1) (off := 8) (tgt := 9) (by decide +kernel) (by decide) (fun c => absurd c h0) (fun c => ?_)
  refine j_iload_n F (pc := 4) (q := 0) (by decide +kernel) rfl ?_
  refine j_iload_n F (pc := 5) (q := 1) (by decide +kernel) rfl ?_
  refine j_icmp_lt F (pc := 6) (off := 10) (tgt := 16) (by decide +kernel) (by decide) (fun c => ?_) (fun c => absurd h1 c)
  refine j_iload_n F (pc := 16) (q := 0) (by decide +kernel) rfl ?_
  exact j_iret (st := []) F Rt rfl (by decide +kernel) ⟨rfl, _, rfl, rfl, rfl⟩
set_option maxHeartbeats 4000000 in
set_option maxRecDepth 100000 in
theorem t_check {G : z_Gl} {μ : z_M} {i n : Int32} (h0 : ¬ i < 0) (h1 : i < n) : z_Cv G yJ0_checkIndex_df160 cJ0_checkIndex_df160 2 none 1 [.int i, .int n] μ (fun μ1 => μ = μ1) := by
  unfold z_Cv
  refine z_intro (by decide +kernel) (Nat.le_of_ble_eq_true rfl) (fun E hE F Rt => ?_)
  subst hE
  have F : z_F E RJ0 cJ0_checkIndex_df160 2 1 := F
  show z_J E 2 0 [some (.int i), some (.int n)] [] μ
  refine j_iload_n F (pc := 0) (q := 0) (by decide +kernel) rfl ?_
  refine j_iload_n F (pc := 1) (q := 1) (by decide +kernel) rfl ?_
  refine j_getsF F (pc := 2) m_441 (by decide +kernel) (fun w hw => ?_)
  refine j_callSi F (pc := 5) (idx := 1059) (As := [.int i, .int n, w]) (st := []) (t_pcheck (G := E.1) hw h0 h1) q_J3_checkIndex_8e157 m_444 m_443 rfl (by decide) (Nat.le_of_ble_eq_true rfl) rfl (by decide +kernel) (fun r ν hq hp => ?_)
  obtain ⟨rfl, rfl⟩ := hp
  refine j_pop F (pc := 8) (by decide +kernel) rfl ?_
  exact j_vret (st := []) F Rt (by decide +kernel) ⟨rfl, rfl, rfl⟩
set_option maxHeartbeats 4000000 in
set_option maxRecDepth 100000 in
theorem t_lchar {G : z_Gl} {μ : z_M} {t : Nat} {i : Int32} (ht : t < 4) (hi : z_in i (z_len.getD t 0)) : z_Ci G yJ1_charAt_3b067 cJ1_charAt_3b067 2 (some .char) 2 [.ref (1010 + t), .int i] μ (fun r1 μ1 => z_ch t i.toNatClampNeg = r1 ∧ μ = μ1) := by
  have hl := (z_len_ok t ht).2
  obtain ⟨j, hj, rfl⟩ := vp_in_of (show vp_in i (z_len.getD t 0) from hi) (by omega)
  have hcl : (nI j).toNatClampNeg = j := nI_clamp (by omega)
  unfold z_Ci
  refine z_intro (by decide +kernel) (Nat.le_of_ble_eq_true rfl) (fun E hE F Rt => ?_)
  subst hE
  have F : z_F E RJ1 cJ1_charAt_3b067 2 2 := F
  show z_J E 2 0 [some (.ref (1010 + t)), some (.int (nI j))] [] μ
  refine j_iload_n F (pc := 0) (q := 1) (by decide +kernel) rfl ?_
  refine j_aload_n F (pc := 1) (q := 0) (by decide +kernel) rfl ?_
  refine j_tlen F (pc := 2) ht (by decide +kernel) ?_
  refine j_callSv F (pc := 3) (idx := 9) (As := [.int (nI j), .int (Int32.ofNat (z_len.getD t 0))]) (st := []) (t_check (G := E.1) (nI_pos (by omega)) (nI_lt hj (by omega))) q_J0_checkIndex_df160 m_439 m_438 rfl (by decide) (Nat.le_of_ble_eq_true rfl) rfl (by decide +kernel) (fun ν hq hp => ?_)
  subst hp
  refine j_aload_n F (pc := 6) (q := 0) (by decide +kernel) rfl ?_
  refine j_iload_n F (pc := 7) (q := 1) (by decide +kernel) rfl ?_
  refine j_tb F (pc := 8) ht hi (by decide +kernel) ?_
  refine j_sipush F (pc := 9) (n := 255) (v := 255) (by decide +kernel) (by decide +kernel) ?_
  refine j_iand F (pc := 12) (by decide +kernel) ?_
  refine j_i2c F (pc := 13) (by decide +kernel) ?_
  rw [hcl] at Rt ⊢
  rw [(z_ch_ok t ht j hj).1]
  exact j_iret (st := []) F Rt (z_ch_ok t ht j hj).2 (by decide +kernel) ⟨rfl, _, rfl, rfl, rfl⟩
set_option maxHeartbeats 4000000 in
set_option maxRecDepth 100000 in
theorem t_charAt {G : z_Gl} {μ : z_M} {t : Nat} {i : Int32} (ht : t < 4) (hi : z_in i (z_len.getD t 0)) : z_Ci G yJ0_charAt_5068e cJ0_charAt_5068e 2 (some .char) 3 [.ref (1000 + t), .int i] μ (fun r1 μ1 => z_ch t i.toNatClampNeg = r1 ∧ μ = μ1) := by
  have hl := (z_len_ok t ht).2
  have hnc : narrow .char (.int (z_ch t i.toNatClampNeg)) = .int (z_ch t i.toNatClampNeg) := by
    obtain ⟨j, hj, rfl⟩ := vp_in_of (show vp_in i (z_len.getD t 0) from hi) (by omega)
    rw [nI_clamp (by omega)]
    exact (z_ch_ok t ht j hj).2
  unfold z_Ci
  refine z_intro (by decide +kernel) (Nat.le_of_ble_eq_true rfl) (fun E hE F Rt => ?_)
  subst hE
  have F : z_F E RJ0 cJ0_charAt_5068e 2 3 := F
  show z_J E 2 0 [some (.ref (1000 + t)), some (.int i)] [] μ
  refine j_aload_n F (pc := 0) (q := 0) (by decide +kernel) rfl ?_
  refine j_callVs F (pc := 1) (idx := 492) (As := []) (st := []) ht (t_isLatin1 (G := E.1) ht) q_J0_isLatin1_aae02 v_J0_isLatin1_aae02 m_431 rfl rfl (by decide) (Nat.le_of_ble_eq_true rfl) rfl (by decide +kernel) (fun r ν hq hp => ?_)
  obtain ⟨rfl, rfl⟩ := hp
  refine j_if_eq F (pc := 4) (off := 12) (tgt := 16) (by decide +kernel) (by decide) (fun c => absurd c (by decide)) (fun c => ?_)
  refine j_aload_n F (pc := 7) (q := 0) (by decide +kernel) rfl ?_
  refine j_getfV F (pc := 8) ht m_1346 (by decide +kernel) ?_
  refine j_iload_n F (pc := 11) (q := 1) (by decide +kernel) rfl ?_
  refine j_callSi F (pc := 12) (idx := 495) (As := [.ref (1010 + t), .int i]) (st := []) (t_lchar (G := E.1) ht hi) q_J1_charAt_3b067 m_436 m_435 rfl (by decide) (Nat.le_of_ble_eq_true rfl) rfl (by decide +kernel) (fun r ν hq hp => ?_)
  obtain ⟨rfl, rfl⟩ := hp
  exact j_iret (st := []) F Rt hnc (by decide +kernel) ⟨rfl, _, rfl, rfl, rfl⟩
theorem j_slen {E : z_E} {own : String} {cc : ByteArray} {nL d pc : Nat} {L : z_L} {st : List Value} {μ : z_M} (F : z_F E own cc nL d) {t idx : Nat} (ht : t < 4) (mlk : Cond.methodLink own idx yJ0_length_8abf5 ∈ z_T) (hd : 5 ≤ d) (hst : (st.map fun v => v.category).sum ≤ 8) (hdg : decode cc pc = .ok (.invokevirtual idx, 3)) (k : z_J E nL (pc + 3) L (.int (Int32.ofNat (z_len.getD t 0)) :: st) μ) : z_J E nL pc L (.ref (1000 + t) :: st) μ :=
  j_callVs F (As := []) ht (t_length (G := E.1) ht) q_J0_length_8abf5 v_J0_length_8abf5 mlk rfl rfl (by omega) hst rfl hdg (fun r ν hq hp => by obtain ⟨rfl, rfl⟩ := hp; exact k)
theorem j_schar {E : z_E} {own : String} {cc : ByteArray} {nL d pc : Nat} {L : z_L} {st : List Value} {μ : z_M} (F : z_F E own cc nL d) {t idx : Nat} {i : Int32} (ht : t < 4) (mlk : Cond.methodLink own idx yJ0_charAt_5068e ∈ z_T) (hi : z_in i (z_len.getD t 0)) (hd : 5 ≤ d) (hst : (st.map fun v => v.category).sum ≤ 8) (hdg : decode cc pc = .ok (.invokevirtual idx, 3)) (k : z_J E nL (pc + 3) L (.int (z_ch t i.toNatClampNeg) :: st) μ) : z_J E nL pc L (.int i :: .ref (1000 + t) :: st) μ :=
  j_callVs F (As := [.int i]) ht (t_charAt (G := E.1) ht hi) q_J0_charAt_5068e v_J0_charAt_5068e mlk rfl rfl (by omega) hst rfl hdg (fun r ν hq hp => by obtain ⟨rfl, rfl⟩ := hp; exact k)
