/-! THE LAW'S START: the world before anything is made, both constructors, then the loop; all over z_goal, which speaks of functions alone -/
/-- the blank memory -/
def z_mz : z_M := (fun _ _ => 0, fun _ _ => 0, fun _ _ => none)
/-- WHAT IS LEFT: an invariant of the functions -/
def z_goal : Prop := ∃ (Inv : z_M → Prop) (μ1 μ2 : z_M), f_X4_init z_mz = some μ1 ∧ z_okC μ1.2.2 ∧ f_X5_init μ1 = some μ2 ∧ Inv μ2 ∧ zs_all Inv
theorem z_fr_mz : z_fr z_mz 0 := ⟨fun _ _ _ => ⟨rfl, rfl, rfl⟩, fun _ _ _ h => by cases h⟩
theorem z_aoa_spec {args : Array Value} {s : State} {ty : FieldType} (h : (Cond.arrayOver (.array ty)).before args s = true) : ∃ comp c k, s.vm.findClass (FieldType.array ty).toString = some comp ∧ s.vm.classes[c]? = some k ∧ k.kind = .array comp (.array ty) ∧ s.vm.findClass ("[" ++ (FieldType.array ty).toString) = some c := by
  simp only [Cond.before, Cond.holds, Cond.value, beq_iff_eq] at h
  cases hc : s.vm.findClass (FieldType.array ty).toString with
  | none => simp [hc] at h
  | some comp =>
    simp only [hc, Option.bind_some, Option.bind_eq_some_iff, Option.map_eq_some_iff] at h
    obtain ⟨c, hi, k, hk, hb⟩ := h
    obtain ⟨hlt, hp, -⟩ := Array.findIdx?_eq_some_iff_getElem.mp hi
    have hkk : s.vm.classes[c] = k := (Array.getElem?_eq_some_iff.mp hk).2
    rw [hkk] at hp
    cases hkind : k.kind with
    | array component ty =>
      rw [hkind] at hb hp
      simp at hb hp
      exact ⟨comp, c, k, rfl, hk, by rw [hkind, hp, hb.1], hb.2⟩
    | _ => rw [hkind] at hb; simp at hb
def z_tm (i : Nat) : Term := Term.string "LastLent$LawText" ((z_SR.map (fun q => q.1)).getD i 0)
theorem z_n1 : ∀ i, i < 4 → Cond.exactly (z_tm i) "java/lang/String" ∈ flatC (Jvm.Cond.and given_1 narrow_1) := by decide +kernel
theorem z_n2 : ∀ i, i < 4 → Cond.eq (.field (z_tm i) "java/lang/String" "coder" "B") (.int 0) ∈ flatC (Jvm.Cond.and given_1 narrow_1) := by decide +kernel
theorem z_n3 : ∀ i, i < 4 → Cond.arrayOf (.field (z_tm i) "java/lang/String" "value" "[B") .byte ∈ flatC (Jvm.Cond.and given_1 narrow_1) := by decide +kernel
theorem z_n4 : ∀ i, i < 4 → Cond.eq (.length (.field (z_tm i) "java/lang/String" "value" "[B")) (.int (Int32.ofNat (z_len.getD i 0))) ∈ flatC (Jvm.Cond.and given_1 narrow_1) := by decide +kernel
def z_FC : List Cond := flatC (Jvm.Cond.and given_1 narrow_1)
def z_el (i j : Nat) : Cond := Cond.eq (.elem (.field (z_tm i) "java/lang/String" "value" "[B") (.int (Int32.ofNat j))) (.int ((z_byt.getD i []).getD j 0))
theorem z_n5_0 : (z_FC.drop 25).take 80 = (List.range 80).map (z_el 0) := by decide +kernel
theorem z_n5_1 : (z_FC.drop 109).take 64 = (List.range 64).map (z_el 1) := by decide +kernel
theorem z_n5_2 : (z_FC.drop 178).take 24 = (List.range 24).map (z_el 2) := by decide +kernel
theorem z_n5_3 : (z_FC.drop 208).take 24 = (List.range 24).map (z_el 3) := by decide +kernel
theorem z_n5_in {a n i j : Nat} (h : (z_FC.drop a).take n = (List.range n).map (z_el i)) (hj : j < n) : z_el i j ∈ z_FC := by
  have h1 : z_el i j ∈ (List.range n).map (z_el i) := List.mem_map.mpr ⟨j, List.mem_range.mpr hj, rfl⟩
  rw [← h] at h1
  exact List.mem_of_mem_drop (List.mem_of_mem_take h1)
theorem z_n5 : ∀ i, i < 4 → ∀ j, j < z_len.getD i 0 → Cond.eq (.elem (.field (z_tm i) "java/lang/String" "value" "[B") (.int (Int32.ofNat j))) (.int ((z_byt.getD i []).getD j 0)) ∈ flatC (Jvm.Cond.and given_1 narrow_1) := by
  intro i hi j hj
  match i, hi with
  | 0, _ => exact z_n5_in z_n5_0 hj
  | 1, _ => exact z_n5_in z_n5_1 hj
  | 2, _ => exact z_n5_in z_n5_2 hj
  | 3, _ => exact z_n5_in z_n5_3 hj
theorem z_n6 : ∀ i, i < 4 → ∀ j, j < 4 → i ≠ j → Cond.not (Cond.eq (z_tm i) (z_tm j)) ∈ flatC (Jvm.Cond.and given_1 narrow_1) ∨ Cond.not (Cond.eq (z_tm j) (z_tm i)) ∈ flatC (Jvm.Cond.and given_1 narrow_1) := by decide +kernel
theorem z_n7 : Cond.eq (.static "java/lang/String" "COMPACT_STRINGS" "Z") (.int 1) ∈ flatC (Jvm.Cond.and given_1 narrow_1) := by decide +kernel
theorem z_n8 : Cond.isRef (.static "jdk/internal/util/Preconditions" "SIOOBE_FORMATTER" "Ljava/util/function/BiFunction;") ∈ flatC (Jvm.Cond.and given_1 narrow_1) := by decide +kernel
theorem z_w1 : ∀ q ∈ z_NW, Cond.methodLinkNest q.1 q.2.1 q.2.2 "LastLent" ∈ lw_tbl := by decide +kernel
theorem z_w2 : ∀ q ∈ z_SR, Cond.stringRef "LastLent$LawText" q.1 q.2 ∈ lw_tbl := by decide +kernel
theorem z_w3 : Cond.laysStatic "java/lang/String" "COMPACT_STRINGS" "Z" ∈ lw_tbl ∧ Cond.laysStatic "jdk/internal/util/Preconditions" "SIOOBE_FORMATTER" "Ljava/util/function/BiFunction;" ∈ lw_tbl ∧ Cond.initialized "java/lang/String" ∈ lw_tbl ∧ Cond.initialized "jdk/internal/util/Preconditions" ∈ lw_tbl ∧ Cond.arrayOver (.object "LastLent$Law") ∈ lw_tbl ∧ Cond.arrayOver (.object "LastLent$Ship") ∈ lw_tbl ∧ Cond.arrayOver (.array .int) ∈ lw_tbl ∧ Cond.arrayClass .int ∈ lw_tbl ∧ Cond.arrayClass .boolean ∈ lw_tbl := by decide +kernel
theorem z_w4 : Cond.instantiable RX0 13 ∈ z_T ∧ Cond.instantiable RX1 9 ∈ z_T ∧ Cond.instantiable RX2 16 ∈ z_T ∧ Cond.instantiable RX3 13 ∈ z_T ∧ Cond.instantiable RX4 10 ∈ z_T ∧ Cond.instantiable RX5 48 ∈ z_T := by decide +kernel
theorem z_w5 : Cond.classLink RL 7 RX4 ∈ z_T ∧ Cond.initialized RX4 ∈ z_T ∧ Cond.classLink RL 10 RX5 ∈ z_T ∧ Cond.initialized RX5 ∈ z_T ∧ Cond.methodLink RL 9 yX4_init ∈ z_T ∧ Cond.methodLink RL 12 yX5_init ∈ z_T ∧ Cond.instanceMethod yX4_init ∈ z_T ∧ Cond.instanceMethod yX5_init ∈ z_T := by decide +kernel
theorem z_y4 : z_Yc yX4_init cX4_init 2 none 0 := by
  refine ⟨?_, z_w5.2.1, ⟨by decide +kernel, by decide +kernel, by decide +kernel⟩, by decide⟩
  decide +kernel
theorem z_y5 : z_Yc yX5_init cX5_init 2 none 0 := by
  refine ⟨?_, z_w5.2.2.2.1, ⟨by decide +kernel, by decide +kernel, by decide +kernel⟩, by decide⟩
  decide +kernel
/-- the array classes as the tables have them -/
theorem z_arrs {args : Array Value} {s : State} (hts : ∀ w ∈ lw_tbl, w.before args s = true) : ∃ dA : Nat → ClassId, ∀ (k : Nat) (q : ClassId × FieldType), (z_tys dA)[k]? = some q → ArrOfT s q.1 q.2 ∧ va_RA s q.1 q.2 := by
  obtain ⟨-, -, -, -, w5, w6, w7, w8, w9⟩ := z_w3
  obtain ⟨a0, k0, m0, p1, p2, p3⟩ := Cond.arrayClass_spec (hts _ w8)
  obtain ⟨a1, k1, m1, q1, q2, q3⟩ := Cond.arrayClass_spec (hts _ w9)
  obtain ⟨m2, a2, k2, r1, -, r2, r3, r4⟩ := Cond.arrayOver_spec (hts _ w5)
  obtain ⟨m3, a3, k3, s1, -, s2, s3, s4⟩ := Cond.arrayOver_spec (hts _ w6)
  obtain ⟨m4, a4, k4, t1, t2, t3, t4⟩ := z_aoa_spec (hts _ w7)
  refine ⟨fun i => match i with | 0 => a0 | 1 => a1 | 2 => a2 | 3 => a3 | _ => a4, fun k q hq => ?_⟩
  match k, hq with
  | 0, hq => cases hq; exact ⟨fun n z => ⟨fun _ h => (by cases h), k0, p2, m0, p3⟩, p1⟩
  | 1, hq => cases hq; exact ⟨fun n z => ⟨fun _ h => (by cases h), k1, q2, m1, q3⟩, q1⟩
  | 2, hq => cases hq; exact ⟨fun n z => ⟨fun _ h => (by cases h), k2, r2, m2, r3⟩, k2, m2, r2, r3, r1, r4⟩
  | 3, hq => cases hq; exact ⟨fun n z => ⟨fun _ h => (by cases h), k3, s2, m3, s3⟩, k3, m3, s2, s3, s1, s4⟩
  | 4, hq => cases hq; exact ⟨fun n z => ⟨fun _ h => (by cases h), k4, t2, m4, t3⟩, t4⟩
  | k + 5, hq => simp [z_tys] at hq
theorem z_cls {args : Array Value} {s : State} (hts : ∀ w ∈ z_T, w.before args s = true) : ∃ D : va_G, ∀ (c : Nat) (q : vw_C), z_cl[c]? = some q → u_Kn s q.1 q.2.1 q.2.2 (D.1 c) (D.2 c) := by
  obtain ⟨w0, w1, w2, w3, w4, w5⟩ := z_w4
  obtain ⟨c0, i0, h0⟩ := u_known (C := RX0) (T := TX0) (N := 13) (n := 13) hts iX0 (hts _ w0)
  obtain ⟨c1, i1, h1⟩ := u_known (C := RX1) (T := TX1) (N := 9) (n := 9) hts iX1 (hts _ w1)
  obtain ⟨c2, i2, h2⟩ := u_known (C := RX2) (T := TX2) (N := 16) (n := 16) hts iX2 (hts _ w2)
  obtain ⟨c3, i3, h3⟩ := u_known (C := RX3) (T := TX3) (N := 13) (n := 13) hts iX3 (hts _ w3)
  obtain ⟨c4, i4, h4⟩ := u_known (C := RX4) (T := TX4) (N := 10) (n := 10) hts iX4 (hts _ w4)
  obtain ⟨c5, i5, h5⟩ := u_known (C := RX5) (T := TX5) (N := 48) (n := 48) hts iX5 (hts _ w5)
  refine ⟨(fun k => match k with | 0 => c0 | 1 => c1 | 2 => c2 | 3 => c3 | 4 => c4 | _ => c5, fun k => match k with | 0 => i0 | 1 => i1 | 2 => i2 | 3 => i3 | 4 => i4 | _ => i5), fun k q hq => ?_⟩
  match k, hq with
  | 0, hq => cases hq; exact h0
  | 1, hq => cases hq; exact h1
  | 2, hq => cases hq; exact h2
  | 3, hq => cases hq; exact h3
  | 4, hq => cases hq; exact h4
  | 5, hq => cases hq; exact h5
  | k + 6, hq => simp [z_cl] at hq
/-- texts and statics, with addresses from 1000 on -/
theorem z_Xof {args : Array Value} {s : State} {A : Nat → Prop} {b : Nat} (hts : ∀ w ∈ lw_tbl, w.before args s = true) (hgv : (Jvm.Cond.and given_1 narrow_1).before args s = true) (hA : ∀ a : Nat, a < s.heap.size → ¬ A a) : ∃ ad : Nat → Nat, ad 999 = b ∧ z_X ad A s s.heap := by
  have hs := flat_of_before _ hgv
  obtain ⟨adK, adV, hS, hR⟩ := vk_Sof (args := args) (s := s) (N := 4) (tm := z_tm) (len := z_len) (byt := z_byt) (A := A) (by decide +kernel) (fun i hi => hs _ (z_n1 i hi)) (fun i hi => hs _ (z_n2 i hi)) (fun i hi => hs _ (z_n3 i hi)) (fun i hi => hs _ (z_n4 i hi)) (fun i hi j hj => hs _ (z_n5 i hi j hj)) (fun i j hi hj hij => (z_n6 i hi j hj hij).imp (hs _) (hs _)) hA
  obtain ⟨w1, w2, w3, w4, -⟩ := z_w3
  obtain ⟨t0, hZ⟩ : ∃ t0 : Nat, va_Z "jdk/internal/util/Preconditions" "SIOOBE_FORMATTER" "Ljava/util/function/BiFunction;" .null A s s.heap ∨ va_Z "jdk/internal/util/Preconditions" "SIOOBE_FORMATTER" "Ljava/util/function/BiFunction;" (.ref t0) A s s.heap := by
    rcases va_Zqof (A := A) (hts _ w2) (hts _ w4) (hs _ z_n8) hA with h | ⟨t, h⟩
    · exact ⟨0, Or.inl h⟩
    · exact ⟨t, Or.inr h⟩
  have hC := va_Zof (A := A) (hts _ w1) (hts _ w3) (va_eqi (hs _ z_n7)) hA
  refine ⟨fun i => if i = 999 then b else if i = 1020 then t0 else if i < 1010 then adK (i - 1000) else adV (i - 1010), rfl, fun q hq => va_Nw.of rfl (hts _ (z_w1 q hq)), fun i q hi => ?_, ?_, hC, ?_⟩
  · have hi4 : i < 4 := by have := (List.getElem?_eq_some_iff.mp hi).1; simpa [z_SR] using this
    have hm : q ∈ z_SR := List.mem_of_getElem? hi
    have e1 : z_tm i = Term.string "LastLent$LawText" q.1 := by
      unfold z_tm
      rw [List.getD_eq_getElem?_getD, List.getElem?_map, hi]
      rfl
    have e2 := hR i hi4
    rw [e1] at e2
    refine vk_R.of (hts _ (z_w2 q hm)) ?_
    simp only [show ¬ (1000 + i = 999) by omega, show ¬ (1000 + i = 1020) by omega, show 1000 + i < 1010 by omega, if_true, if_false, Nat.add_sub_cancel_left]
    exact e2
  · have eK : ∀ i : Nat, i < 4 → (fun j : Nat => if j = 999 then b else if j = 1020 then t0 else if j < 1010 then adK (j - 1000) else adV (j - 1010)) (1000 + i) = adK i := fun i hi => by
      simp only [show ¬ (1000 + i = 999) by omega, show ¬ (1000 + i = 1020) by omega, show 1000 + i < 1010 by omega, if_true, if_false, Nat.add_sub_cancel_left]
    have eV : ∀ i : Nat, i < 4 → (fun j : Nat => if j = 999 then b else if j = 1020 then t0 else if j < 1010 then adK (j - 1000) else adV (j - 1010)) (1010 + i) = adV i := fun i hi => by
      simp only [show ¬ (1010 + i = 999) by omega, show ¬ (1010 + i = 1020) by omega, show ¬ (1010 + i < 1010) by omega, if_false, Nat.add_sub_cancel_left]
    refine ⟨fun i hi => ?_, fun i j hi hj e => ?_⟩
    · have g := hS.1 i hi
      simp only [eK i hi, eV i hi]
      exact g
    · simp only [eK i hi, eK j hj] at e
      exact hS.2 i j hi hj e
  · rcases hZ with hZ | hZ
    · exact ⟨.null, Or.inl rfl, hZ⟩
    · exact ⟨.ref 1020, Or.inr rfl, hZ⟩
set_option maxHeartbeats 4000000 in
set_option maxRecDepth 100000 in
theorem whole_open (hG : z_goal) {p : Program} {e : Env} {s : State} {m : MethodId} {below : List Frame} {meth : Method} {c : Code} (l : Launch) {b Ls : Nat} {xs : Nat → Int32} (hL : Ls ≤ 5120) (C0 : lw_At p s m meth c b Ls xs) : W p l e room_1 s m #[Value.ref b] below meth c s.heap [] 0 0 (lw_Z below #[Value.ref b] s) (entryFrame m ([Value.ref b] : List Value).toArray 4) := by
  obtain ⟨Inv, μ1, μ2, hi1, hokC, hi2, hI, HS⟩ := hG
  obtain ⟨hx, hb, hr, hml, hown, hts, hX, hbl, hlocks, hgv⟩ := C0
  have htsT : ∀ w ∈ z_T, w.before #[Value.ref b] s = true := fun w h => hts w (List.mem_filter.mp h).1
  obtain ⟨D, hD⟩ := z_cls htsT
  obtain ⟨dA, hdA⟩ := z_arrs hts
  obtain ⟨ad, h999, hZX⟩ := z_Xof (A := fun q : Nat => s.heap.size ≤ q) (b := b) hts hgv (fun a h => Nat.not_le.mpr h)
  obtain ⟨-, -, -, -, w5, w6, w7, -⟩ := z_w3
  have hY : z_Y s := ⟨hts _ w5, hts _ w6, hts _ w7⟩
  have F : z_F ((l, D, ad, dA, []), p, e, room_1, s, m, #[Value.ref b], below, meth, c, lw_Z below #[Value.ref b] s, fun q : Nat => s.heap.size ≤ q, 0, 0) RL cL_law 4 14 :=
    ⟨hx, hb, hml, hown, htsT, ⟨hD, hdA⟩, fun μ => ⟨fun i j p q h => by simp [z_w] at h, fun k q h => by simp [z_w] at h⟩, fun q h => h, hZX, Nat.le_of_ble_eq_true rfl, Nat.le_of_ble_eq_true rfl, Nat.zero_le _, Nat.zero_le _⟩
  generalize hE : (((l, D, ad, dA, []), p, e, room_1, s, m, #[Value.ref b], below, meth, c, lw_Z below #[Value.ref b] s, fun q : Nat => s.heap.size ≤ q, 0, 0) : z_E) = E at F
  have S : z_SC E b Ls xs := by rw [← hE]; exact ⟨hX, hbl, Nat.not_le.mpr hbl, h999⟩
  have Z : z_LE E b := by rw [← hE]; exact ⟨rfl, rfl, rfl, hr, hlocks, fun q h => h⟩
  have hc : z_cn E 0 0 600000 7302250 := by rw [← hE]; exact ⟨rfl, rfl, rfl, rfl⟩
  have hYE : z_Y (z_St E) := by rw [← hE]; exact hY
  have hn : (z_sh E.1).length = 0 := by rw [← hE]; rfl
  have hsh : z_sh E.1 = [] := by rw [← hE]
  have key : z_J E 4 0 [some (.ref 999), none, none, none] [] z_mz := by
    refine j_new F (pc := 0) (n := 0) (N := 10) (ci := 4) (idx := 7) (ks0 := [2, 2, 2, 2, 2, 2, 2, 2, 2, 2]) tyX4 rfl iX4 tyX4_ok z_w5.1 z_w4.2.2.2.2.1 z_w5.2.1 (by decide +kernel) hn (by decide) z_fr_mz ⟨Or.inr (by decide), trivial⟩ trivial (by rw [hc.1, hc.2.2.1]; exact Nat.le_of_ble_eq_true rfl) (by rw [hc.2.1, hc.2.2.2]; exact Nat.le_of_ble_eq_true rfl) (by decide +kernel) (fun E1 g1 F1 => ?_)
    have hn1 : (z_sh E1.1).length = 1 := g1.len hn
    have hc1 := g1.cn hc
    have S1 := g1.sc S
    have Z1 := g1.le Z
    have hY1 : z_Y (z_St E1) := by rw [g1.st]; exact hYE
    have hs1 : (z_sh E1.1)[0]? = some (.inr (4, [2, 2, 2, 2, 2, 2, 2, 2, 2, 2])) := by rw [g1.sh, hsh]; rfl
    refine j_dup F1 (pc := 3) (by decide +kernel) rfl ?_
    refine j_init F1 (pc := 4) (idx := 9) (n := 1) (t_X4_init (G := E1.1) hn1 (by decide) hs1 (z_fr_mz.up (by decide)) hi1) z_y4 z_w5.2.2.2.2.2.2.1 rfl (Or.inl z_w5.2.2.2.2.1) hY1 hn1 ⟨Or.inr (by decide), trivial⟩ ⟨Or.inl (by decide), trivial⟩ (by decide) (Nat.le_of_ble_eq_true rfl) (by rw [hc1.1, hc1.2.2.1]; exact Nat.le_of_ble_eq_true rfl) (by rw [hc1.2.1, hc1.2.2.2]; exact Nat.le_of_ble_eq_true rfl) (by decide +kernel) (fun E2 g2 F2 => ?_)
    have hn2 : (z_sh E2.1).length = 98 := g2.len hn1
    have hc2 := g2.cn hc1
    have S2 := g2.sc S1
    have Z2 := g2.le Z1
    have hY2 : z_Y (z_St E2) := by rw [g2.st]; exact hY1
    have hfr1 : z_fr μ1 98 := fr_X4_init (z_fr_mz.up (by decide)) hi1
    refine j_astore_n F2 (pc := 7) (q := 1) (L' := [some (.ref 999), some (.ref 0), none, none]) (by decide +kernel) (by decide) rfl rfl ?_
    refine j_new F2 (pc := 8) (n := 98) (N := 48) (ci := 5) (idx := 10) (ks0 := [2, 2, 2, 2, 2, 2, 2, 2, 2, 2, 2, 2, 2, 0, 0, 0, 1, 0, 0, 0, 0, 0, 2, 2, 0, 2, 2, 0, 2, 2, 2, 2, 2, 2, 2, 2, 2, 2, 2, 2, 2, 2, 2, 2, 2, 2, 2, 2]) tyX5 rfl iX5 tyX5_ok z_w5.2.2.1 z_w4.2.2.2.2.2 z_w5.2.2.2.1 (by decide +kernel) hn2 (by decide) hfr1 ⟨Or.inr (by decide), Or.inl (by decide), trivial⟩ trivial (by rw [hc2.1, hc2.2.2.1]; exact Nat.le_of_ble_eq_true rfl) (by rw [hc2.2.1, hc2.2.2.2]; exact Nat.le_of_ble_eq_true rfl) (by decide +kernel) (fun E3 g3 F3 => ?_)
    have hn3 : (z_sh E3.1).length = 99 := g3.len hn2
    have hc3 := g3.cn hc2
    have S3 := g3.sc S2
    have Z3 := g3.le Z2
    have hY3 : z_Y (z_St E3) := by rw [g3.st]; exact hY2
    have hsh3 : z_sh E3.1 = z_SH.take 99 := by
      rw [g3.sh, g2.sh, g1.sh, hsh]
      decide +kernel
    have hs3 : (z_sh E3.1)[98]? = some (.inr (5, [2, 2, 2, 2, 2, 2, 2, 2, 2, 2, 2, 2, 2, 0, 0, 0, 1, 0, 0, 0, 0, 0, 2, 2, 0, 2, 2, 0, 2, 2, 2, 2, 2, 2, 2, 2, 2, 2, 2, 2, 2, 2, 2, 2, 2, 2, 2, 2])) := by rw [hsh3]; rfl
    refine j_dup F3 (pc := 11) (by decide +kernel) rfl ?_
    refine j_init F3 (pc := 12) (idx := 12) (n := 99) (t_X5_init (G := E3.1) hn3 (by decide) hs3 (hfr1.up (by decide)) hsh3 hokC hi2) z_y5 z_w5.2.2.2.2.2.2.2 rfl (Or.inl z_w5.2.2.2.2.2.1) hY3 hn3 ⟨Or.inr (by decide), Or.inl (by decide), trivial⟩ ⟨Or.inl (by decide), trivial⟩ (by decide) (Nat.le_of_ble_eq_true rfl) (by rw [hc3.1, hc3.2.2.1]; exact Nat.le_of_ble_eq_true rfl) (by rw [hc3.2.1, hc3.2.2.2]; exact Nat.le_of_ble_eq_true rfl) (by decide +kernel) (fun E4 g4 F4 => ?_)
    have S4 := g4.sc S3
    have Z4 := g4.le Z3
    have hsh4 : z_sh E4.1 = z_SH := by
      rw [g4.sh, hsh3]
      decide +kernel
    refine j_astore_n F4 (pc := 15) (q := 2) (L' := [some (.ref 999), some (.ref 0), some (.ref 98), none]) (by decide +kernel) (by decide) rfl rfl ?_
    refine j_iconst F4 (pc := 16) (n := 0) (v := 0) (by decide +kernel) (by decide +kernel) ?_
    refine j_istore_n F4 (pc := 17) (q := 3) (L' := [some (.ref 999), some (.ref 0), some (.ref 98), some (.int (nI 0))]) (by decide +kernel) (by decide) rfl rfl ?_
    exact law_loop hL F4 S4 Z4 hsh4 HS (Ls + 11) 0 μ2 (by omega) (by omega) hI
  subst hE
  have e0 : ([Value.ref b] : List Value) = [Value.ref 999].map (z_v ad) := by
    show [Value.ref b] = [Value.ref (ad 999)]
    rw [h999]
  have hent := z_entry (nL := 4) (ad := ad) [.ref 999] (by rw [z_lgsl]; exact Nat.le_of_ble_eq_true rfl)
  rw [← e0] at hent
  rw [lg_entry_eq]
  exact key s.heap [] _ (fun k q h => by simp [z_w] at h) va_S.rf hent
