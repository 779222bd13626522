/-! THE ROWS: an instruction each, over z_J -/
theorem j_iconst {E : z_E} {own : String} {cc : ByteArray} {nL d pc : Nat} {L : z_L} {st : List Value} {μ : z_M} (F : z_F E own cc nL d) {n : Int} {v : Int32} (hdg : decode cc pc = .ok (.iconst n, 1)) (hv : Int32.ofInt n = v) (k : z_J E nL (pc + 1) L (.int v :: st) μ) : z_J E nL pc L st μ := by
  obtain ⟨⟨l, D, ad, dA, sh⟩, p, e, R, s, m, args, below, meth, c, Q, A, kc, ks⟩ := E
  obtain ⟨hx, hb, hml, hown, hts, hK, hD, hA, hX, hd1, hd2, hc1, hc2⟩ := F
  intro H locs ls hP hS hl
  exact lv_iconst hx hb hdg hv (k H locs ls hP hS hl)
theorem j_bipush {E : z_E} {own : String} {cc : ByteArray} {nL d pc : Nat} {L : z_L} {st : List Value} {μ : z_M} (F : z_F E own cc nL d) {n : Int} {v : Int32} (hdg : decode cc pc = .ok (.bipush n, 2)) (hv : (Int8.ofInt n).toInt32 = v) (k : z_J E nL (pc + 2) L (.int v :: st) μ) : z_J E nL pc L st μ := by
  obtain ⟨⟨l, D, ad, dA, sh⟩, p, e, R, s, m, args, below, meth, c, Q, A, kc, ks⟩ := E
  obtain ⟨hx, hb, hml, hown, hts, hK, hD, hA, hX, hd1, hd2, hc1, hc2⟩ := F
  intro H locs ls hP hS hl
  exact lv_bipush hx hb hdg hv (k H locs ls hP hS hl)
theorem j_sipush {E : z_E} {own : String} {cc : ByteArray} {nL d pc : Nat} {L : z_L} {st : List Value} {μ : z_M} (F : z_F E own cc nL d) {n : Int} {v : Int32} (hdg : decode cc pc = .ok (.sipush n, 3)) (hv : (Int16.ofInt n).toInt32 = v) (k : z_J E nL (pc + 3) L (.int v :: st) μ) : z_J E nL pc L st μ := by
  obtain ⟨⟨l, D, ad, dA, sh⟩, p, e, R, s, m, args, below, meth, c, Q, A, kc, ks⟩ := E
  obtain ⟨hx, hb, hml, hown, hts, hK, hD, hA, hX, hd1, hd2, hc1, hc2⟩ := F
  intro H locs ls hP hS hl
  exact lv_sipush hx hb hdg hv (k H locs ls hP hS hl)
theorem j_lconst {E : z_E} {own : String} {cc : ByteArray} {nL d pc : Nat} {L : z_L} {st : List Value} {μ : z_M} (F : z_F E own cc nL d) {n : Fin 2} {v : Int64} (hdg : decode cc pc = .ok (.lconst n, 1)) (hv : Int64.ofNat (n : Nat) = v) (k : z_J E nL (pc + 1) L (.long v :: st) μ) : z_J E nL pc L st μ := by
  obtain ⟨⟨l, D, ad, dA, sh⟩, p, e, R, s, m, args, below, meth, c, Q, A, kc, ks⟩ := E
  obtain ⟨hx, hb, hml, hown, hts, hK, hD, hA, hX, hd1, hd2, hc1, hc2⟩ := F
  intro H locs ls hP hS hl
  exact lv_lconst hx hb hdg hv (k H locs ls hP hS hl)
theorem j_iadd {E : z_E} {own : String} {cc : ByteArray} {nL d pc : Nat} {L : z_L} {st : List Value} {μ : z_M} (F : z_F E own cc nL d) {x y : Int32} (hdg : decode cc pc = .ok (.iadd, 1))  (k : z_J E nL (pc + 1) L (.int (x + y) :: st) μ) : z_J E nL pc L (.int y :: .int x :: st) μ := by
  obtain ⟨⟨l, D, ad, dA, sh⟩, p, e, R, s, m, args, below, meth, c, Q, A, kc, ks⟩ := E
  obtain ⟨hx, hb, hml, hown, hts, hK, hD, hA, hX, hd1, hd2, hc1, hc2⟩ := F
  intro H locs ls hP hS hl
  exact lv_iadd hx hb hdg  (k H locs ls hP hS hl)
theorem j_isub {E : z_E} {own : String} {cc : ByteArray} {nL d pc : Nat} {L : z_L} {st : List Value} {μ : z_M} (F : z_F E own cc nL d) {x y : Int32} (hdg : decode cc pc = .ok (.isub, 1))  (k : z_J E nL (pc + 1) L (.int (x - y) :: st) μ) : z_J E nL pc L (.int y :: .int x :: st) μ := by
  obtain ⟨⟨l, D, ad, dA, sh⟩, p, e, R, s, m, args, below, meth, c, Q, A, kc, ks⟩ := E
  obtain ⟨hx, hb, hml, hown, hts, hK, hD, hA, hX, hd1, hd2, hc1, hc2⟩ := F
  intro H locs ls hP hS hl
  exact lv_isub hx hb hdg  (k H locs ls hP hS hl)
theorem j_imul {E : z_E} {own : String} {cc : ByteArray} {nL d pc : Nat} {L : z_L} {st : List Value} {μ : z_M} (F : z_F E own cc nL d) {x y : Int32} (hdg : decode cc pc = .ok (.imul, 1))  (k : z_J E nL (pc + 1) L (.int (x * y) :: st) μ) : z_J E nL pc L (.int y :: .int x :: st) μ := by
  obtain ⟨⟨l, D, ad, dA, sh⟩, p, e, R, s, m, args, below, meth, c, Q, A, kc, ks⟩ := E
  obtain ⟨hx, hb, hml, hown, hts, hK, hD, hA, hX, hd1, hd2, hc1, hc2⟩ := F
  intro H locs ls hP hS hl
  exact lv_imul hx hb hdg  (k H locs ls hP hS hl)
theorem j_iand {E : z_E} {own : String} {cc : ByteArray} {nL d pc : Nat} {L : z_L} {st : List Value} {μ : z_M} (F : z_F E own cc nL d) {x y : Int32} (hdg : decode cc pc = .ok (.iand, 1))  (k : z_J E nL (pc + 1) L (.int (x &&& y) :: st) μ) : z_J E nL pc L (.int y :: .int x :: st) μ := by
  obtain ⟨⟨l, D, ad, dA, sh⟩, p, e, R, s, m, args, below, meth, c, Q, A, kc, ks⟩ := E
  obtain ⟨hx, hb, hml, hown, hts, hK, hD, hA, hX, hd1, hd2, hc1, hc2⟩ := F
  intro H locs ls hP hS hl
  exact lv_iand hx hb hdg  (k H locs ls hP hS hl)
theorem j_ior {E : z_E} {own : String} {cc : ByteArray} {nL d pc : Nat} {L : z_L} {st : List Value} {μ : z_M} (F : z_F E own cc nL d) {x y : Int32} (hdg : decode cc pc = .ok (.ior, 1))  (k : z_J E nL (pc + 1) L (.int (x ||| y) :: st) μ) : z_J E nL pc L (.int y :: .int x :: st) μ := by
  obtain ⟨⟨l, D, ad, dA, sh⟩, p, e, R, s, m, args, below, meth, c, Q, A, kc, ks⟩ := E
  obtain ⟨hx, hb, hml, hown, hts, hK, hD, hA, hX, hd1, hd2, hc1, hc2⟩ := F
  intro H locs ls hP hS hl
  exact lv_ior hx hb hdg  (k H locs ls hP hS hl)
theorem j_ixor {E : z_E} {own : String} {cc : ByteArray} {nL d pc : Nat} {L : z_L} {st : List Value} {μ : z_M} (F : z_F E own cc nL d) {x y : Int32} (hdg : decode cc pc = .ok (.ixor, 1))  (k : z_J E nL (pc + 1) L (.int (x ^^^ y) :: st) μ) : z_J E nL pc L (.int y :: .int x :: st) μ := by
  obtain ⟨⟨l, D, ad, dA, sh⟩, p, e, R, s, m, args, below, meth, c, Q, A, kc, ks⟩ := E
  obtain ⟨hx, hb, hml, hown, hts, hK, hD, hA, hX, hd1, hd2, hc1, hc2⟩ := F
  intro H locs ls hP hS hl
  exact lv_ixor hx hb hdg  (k H locs ls hP hS hl)
theorem j_ishl {E : z_E} {own : String} {cc : ByteArray} {nL d pc : Nat} {L : z_L} {st : List Value} {μ : z_M} (F : z_F E own cc nL d) {x y : Int32} (hdg : decode cc pc = .ok (.ishl, 1))  (k : z_J E nL (pc + 1) L (.int (x <<< (y &&& 31)) :: st) μ) : z_J E nL pc L (.int y :: .int x :: st) μ := by
  obtain ⟨⟨l, D, ad, dA, sh⟩, p, e, R, s, m, args, below, meth, c, Q, A, kc, ks⟩ := E
  obtain ⟨hx, hb, hml, hown, hts, hK, hD, hA, hX, hd1, hd2, hc1, hc2⟩ := F
  intro H locs ls hP hS hl
  exact lv_ishl hx hb hdg  (k H locs ls hP hS hl)
theorem j_ishr {E : z_E} {own : String} {cc : ByteArray} {nL d pc : Nat} {L : z_L} {st : List Value} {μ : z_M} (F : z_F E own cc nL d) {x y : Int32} (hdg : decode cc pc = .ok (.ishr, 1))  (k : z_J E nL (pc + 1) L (.int (x >>> (y &&& 31)) :: st) μ) : z_J E nL pc L (.int y :: .int x :: st) μ := by
  obtain ⟨⟨l, D, ad, dA, sh⟩, p, e, R, s, m, args, below, meth, c, Q, A, kc, ks⟩ := E
  obtain ⟨hx, hb, hml, hown, hts, hK, hD, hA, hX, hd1, hd2, hc1, hc2⟩ := F
  intro H locs ls hP hS hl
  exact lv_ishr hx hb hdg  (k H locs ls hP hS hl)
theorem j_ineg {E : z_E} {own : String} {cc : ByteArray} {nL d pc : Nat} {L : z_L} {st : List Value} {μ : z_M} (F : z_F E own cc nL d) {x : Int32} (hdg : decode cc pc = .ok (.ineg, 1))  (k : z_J E nL (pc + 1) L (.int (-x) :: st) μ) : z_J E nL pc L (.int x :: st) μ := by
  obtain ⟨⟨l, D, ad, dA, sh⟩, p, e, R, s, m, args, below, meth, c, Q, A, kc, ks⟩ := E
  obtain ⟨hx, hb, hml, hown, hts, hK, hD, hA, hX, hd1, hd2, hc1, hc2⟩ := F
  intro H locs ls hP hS hl
  exact lv_ineg hx hb hdg  (k H locs ls hP hS hl)
theorem j_idiv {E : z_E} {own : String} {cc : ByteArray} {nL d pc : Nat} {L : z_L} {st : List Value} {μ : z_M} (F : z_F E own cc nL d) {x y : Int32} (hdg : decode cc pc = .ok (.idiv, 1)) (hne : ¬ y = 0) (k : z_J E nL (pc + 1) L (.int (x / y) :: st) μ) : z_J E nL pc L (.int y :: .int x :: st) μ := by
  obtain ⟨⟨l, D, ad, dA, sh⟩, p, e, R, s, m, args, below, meth, c, Q, A, kc, ks⟩ := E
  obtain ⟨hx, hb, hml, hown, hts, hK, hD, hA, hX, hd1, hd2, hc1, hc2⟩ := F
  intro H locs ls hP hS hl
  exact lv_idiv hx hb hdg hne (k H locs ls hP hS hl)
theorem j_irem {E : z_E} {own : String} {cc : ByteArray} {nL d pc : Nat} {L : z_L} {st : List Value} {μ : z_M} (F : z_F E own cc nL d) {x y : Int32} (hdg : decode cc pc = .ok (.irem, 1)) (hne : ¬ y = 0) (k : z_J E nL (pc + 1) L (.int (x - x / y * y) :: st) μ) : z_J E nL pc L (.int y :: .int x :: st) μ := by
  obtain ⟨⟨l, D, ad, dA, sh⟩, p, e, R, s, m, args, below, meth, c, Q, A, kc, ks⟩ := E
  obtain ⟨hx, hb, hml, hown, hts, hK, hD, hA, hX, hd1, hd2, hc1, hc2⟩ := F
  intro H locs ls hP hS hl
  exact lv_irem hx hb hdg hne (k H locs ls hP hS hl)
theorem j_ladd {E : z_E} {own : String} {cc : ByteArray} {nL d pc : Nat} {L : z_L} {st : List Value} {μ : z_M} (F : z_F E own cc nL d) {x y : Int64} (hdg : decode cc pc = .ok (.ladd, 1))  (k : z_J E nL (pc + 1) L (.long (x + y) :: st) μ) : z_J E nL pc L (.long y :: .long x :: st) μ := by
  obtain ⟨⟨l, D, ad, dA, sh⟩, p, e, R, s, m, args, below, meth, c, Q, A, kc, ks⟩ := E
  obtain ⟨hx, hb, hml, hown, hts, hK, hD, hA, hX, hd1, hd2, hc1, hc2⟩ := F
  intro H locs ls hP hS hl
  exact lv_ladd hx hb hdg  (k H locs ls hP hS hl)
theorem j_lsub {E : z_E} {own : String} {cc : ByteArray} {nL d pc : Nat} {L : z_L} {st : List Value} {μ : z_M} (F : z_F E own cc nL d) {x y : Int64} (hdg : decode cc pc = .ok (.lsub, 1))  (k : z_J E nL (pc + 1) L (.long (x - y) :: st) μ) : z_J E nL pc L (.long y :: .long x :: st) μ := by
  obtain ⟨⟨l, D, ad, dA, sh⟩, p, e, R, s, m, args, below, meth, c, Q, A, kc, ks⟩ := E
  obtain ⟨hx, hb, hml, hown, hts, hK, hD, hA, hX, hd1, hd2, hc1, hc2⟩ := F
  intro H locs ls hP hS hl
  exact lv_lsub hx hb hdg  (k H locs ls hP hS hl)
theorem j_lmul {E : z_E} {own : String} {cc : ByteArray} {nL d pc : Nat} {L : z_L} {st : List Value} {μ : z_M} (F : z_F E own cc nL d) {x y : Int64} (hdg : decode cc pc = .ok (.lmul, 1))  (k : z_J E nL (pc + 1) L (.long (x * y) :: st) μ) : z_J E nL pc L (.long y :: .long x :: st) μ := by
  obtain ⟨⟨l, D, ad, dA, sh⟩, p, e, R, s, m, args, below, meth, c, Q, A, kc, ks⟩ := E
  obtain ⟨hx, hb, hml, hown, hts, hK, hD, hA, hX, hd1, hd2, hc1, hc2⟩ := F
  intro H locs ls hP hS hl
  exact lv_lmul hx hb hdg  (k H locs ls hP hS hl)
theorem j_land {E : z_E} {own : String} {cc : ByteArray} {nL d pc : Nat} {L : z_L} {st : List Value} {μ : z_M} (F : z_F E own cc nL d) {x y : Int64} (hdg : decode cc pc = .ok (.land, 1))  (k : z_J E nL (pc + 1) L (.long (x &&& y) :: st) μ) : z_J E nL pc L (.long y :: .long x :: st) μ := by
  obtain ⟨⟨l, D, ad, dA, sh⟩, p, e, R, s, m, args, below, meth, c, Q, A, kc, ks⟩ := E
  obtain ⟨hx, hb, hml, hown, hts, hK, hD, hA, hX, hd1, hd2, hc1, hc2⟩ := F
  intro H locs ls hP hS hl
  exact lv_land hx hb hdg  (k H locs ls hP hS hl)
theorem j_lor {E : z_E} {own : String} {cc : ByteArray} {nL d pc : Nat} {L : z_L} {st : List Value} {μ : z_M} (F : z_F E own cc nL d) {x y : Int64} (hdg : decode cc pc = .ok (.lor, 1))  (k : z_J E nL (pc + 1) L (.long (x ||| y) :: st) μ) : z_J E nL pc L (.long y :: .long x :: st) μ := by
  obtain ⟨⟨l, D, ad, dA, sh⟩, p, e, R, s, m, args, below, meth, c, Q, A, kc, ks⟩ := E
  obtain ⟨hx, hb, hml, hown, hts, hK, hD, hA, hX, hd1, hd2, hc1, hc2⟩ := F
  intro H locs ls hP hS hl
  exact lv_lor hx hb hdg  (k H locs ls hP hS hl)
theorem j_lshr {E : z_E} {own : String} {cc : ByteArray} {nL d pc : Nat} {L : z_L} {st : List Value} {μ : z_M} (F : z_F E own cc nL d) {x : Int64} {y : Int32} (hdg : decode cc pc = .ok (.lshr, 1))  (k : z_J E nL (pc + 1) L (.long (x >>> (y.toInt64 &&& 63)) :: st) μ) : z_J E nL pc L (.int y :: .long x :: st) μ := by
  obtain ⟨⟨l, D, ad, dA, sh⟩, p, e, R, s, m, args, below, meth, c, Q, A, kc, ks⟩ := E
  obtain ⟨hx, hb, hml, hown, hts, hK, hD, hA, hX, hd1, hd2, hc1, hc2⟩ := F
  intro H locs ls hP hS hl
  exact lv_lshr hx hb hdg rfl (k H locs ls hP hS hl)
theorem j_lshl {E : z_E} {own : String} {cc : ByteArray} {nL d pc : Nat} {L : z_L} {st : List Value} {μ : z_M} (F : z_F E own cc nL d) {x : Int64} {y : Int32} (hdg : decode cc pc = .ok (.lshl, 1))  (k : z_J E nL (pc + 1) L (.long (x <<< (y.toInt64 &&& 63)) :: st) μ) : z_J E nL pc L (.int y :: .long x :: st) μ := by
  obtain ⟨⟨l, D, ad, dA, sh⟩, p, e, R, s, m, args, below, meth, c, Q, A, kc, ks⟩ := E
  obtain ⟨hx, hb, hml, hown, hts, hK, hD, hA, hX, hd1, hd2, hc1, hc2⟩ := F
  intro H locs ls hP hS hl
  exact lv_lshl hx hb hdg rfl (k H locs ls hP hS hl)
theorem j_lushr {E : z_E} {own : String} {cc : ByteArray} {nL d pc : Nat} {L : z_L} {st : List Value} {μ : z_M} (F : z_F E own cc nL d) {x : Int64} {y : Int32} (hdg : decode cc pc = .ok (.lushr, 1))  (k : z_J E nL (pc + 1) L (.long (x.toUInt64 >>> (y.toInt64.toUInt64 &&& Int64.toUInt64 63)).toInt64 :: st) μ) : z_J E nL pc L (.int y :: .long x :: st) μ := by
  obtain ⟨⟨l, D, ad, dA, sh⟩, p, e, R, s, m, args, below, meth, c, Q, A, kc, ks⟩ := E
  obtain ⟨hx, hb, hml, hown, hts, hK, hD, hA, hX, hd1, hd2, hc1, hc2⟩ := F
  intro H locs ls hP hS hl
  exact lv_lushr hx hb hdg rfl (k H locs ls hP hS hl)
theorem j_i2l {E : z_E} {own : String} {cc : ByteArray} {nL d pc : Nat} {L : z_L} {st : List Value} {μ : z_M} (F : z_F E own cc nL d) {x : Int32} (hdg : decode cc pc = .ok (.i2l, 1))  (k : z_J E nL (pc + 1) L (.long x.toInt64 :: st) μ) : z_J E nL pc L (.int x :: st) μ := by
  obtain ⟨⟨l, D, ad, dA, sh⟩, p, e, R, s, m, args, below, meth, c, Q, A, kc, ks⟩ := E
  obtain ⟨hx, hb, hml, hown, hts, hK, hD, hA, hX, hd1, hd2, hc1, hc2⟩ := F
  intro H locs ls hP hS hl
  exact lv_i2l hx hb hdg rfl (k H locs ls hP hS hl)
theorem j_l2i {E : z_E} {own : String} {cc : ByteArray} {nL d pc : Nat} {L : z_L} {st : List Value} {μ : z_M} (F : z_F E own cc nL d) {x : Int64} (hdg : decode cc pc = .ok (.l2i, 1))  (k : z_J E nL (pc + 1) L (.int x.toInt32 :: st) μ) : z_J E nL pc L (.long x :: st) μ := by
  obtain ⟨⟨l, D, ad, dA, sh⟩, p, e, R, s, m, args, below, meth, c, Q, A, kc, ks⟩ := E
  obtain ⟨hx, hb, hml, hown, hts, hK, hD, hA, hX, hd1, hd2, hc1, hc2⟩ := F
  intro H locs ls hP hS hl
  exact lv_l2i hx hb hdg rfl (k H locs ls hP hS hl)
theorem j_lcmp {E : z_E} {own : String} {cc : ByteArray} {nL d pc : Nat} {L : z_L} {st : List Value} {μ : z_M} (F : z_F E own cc nL d) {x y : Int64} (hdg : decode cc pc = .ok (.lcmp, 1))  (k : z_J E nL (pc + 1) L (.int (lg_cmp x y) :: st) μ) : z_J E nL pc L (.long y :: .long x :: st) μ := by
  obtain ⟨⟨l, D, ad, dA, sh⟩, p, e, R, s, m, args, below, meth, c, Q, A, kc, ks⟩ := E
  obtain ⟨hx, hb, hml, hown, hts, hK, hD, hA, hX, hd1, hd2, hc1, hc2⟩ := F
  intro H locs ls hP hS hl
  exact W.lcmp hx hb hdg  (k H locs ls hP hS hl)
theorem j_dup {E : z_E} {own : String} {cc : ByteArray} {nL d pc : Nat} {L : z_L} {st : List Value} {μ : z_M} (F : z_F E own cc nL d) {v : Value} (hdg : decode cc pc = .ok (.dup, 1)) (hv : v.category = 1) (k : z_J E nL (pc + 1) L (v :: v :: st) μ) : z_J E nL pc L (v :: st) μ := by
  obtain ⟨⟨l, D, ad, dA, sh⟩, p, e, R, s, m, args, below, meth, c, Q, A, kc, ks⟩ := E
  obtain ⟨hx, hb, hml, hown, hts, hK, hD, hA, hX, hd1, hd2, hc1, hc2⟩ := F
  intro H locs ls hP hS hl
  exact lv_dup hx hb hdg (z_v_cat.trans hv) (k H locs ls hP hS hl)
theorem j_pop {E : z_E} {own : String} {cc : ByteArray} {nL d pc : Nat} {L : z_L} {st : List Value} {μ : z_M} (F : z_F E own cc nL d) {v : Value} (hdg : decode cc pc = .ok (.pop, 1)) (hv : v.category = 1) (k : z_J E nL (pc + 1) L st μ) : z_J E nL pc L (v :: st) μ := by
  obtain ⟨⟨l, D, ad, dA, sh⟩, p, e, R, s, m, args, below, meth, c, Q, A, kc, ks⟩ := E
  obtain ⟨hx, hb, hml, hown, hts, hK, hD, hA, hX, hd1, hd2, hc1, hc2⟩ := F
  intro H locs ls hP hS hl
  exact lv_pop hx hb hdg (z_v_cat.trans hv) (k H locs ls hP hS hl)
theorem j_dup2 {E : z_E} {own : String} {cc : ByteArray} {nL d pc : Nat} {L : z_L} {st : List Value} {μ : z_M} (F : z_F E own cc nL d) {v w : Value} (hdg : decode cc pc = .ok (.dup2, 1)) (hv : v.category = 1) (hw : w.category = 1) (k : z_J E nL (pc + 1) L (v :: w :: v :: w :: st) μ) : z_J E nL pc L (v :: w :: st) μ := by
  obtain ⟨⟨l, D, ad, dA, sh⟩, p, e, R, s, m, args, below, meth, c, Q, A, kc, ks⟩ := E
  obtain ⟨hx, hb, hml, hown, hts, hK, hD, hA, hX, hd1, hd2, hc1, hc2⟩ := F
  intro H locs ls hP hS hl
  exact lv_dup2_11 hx hb hdg (z_v_cat.trans hv) (z_v_cat.trans hw) (k H locs ls hP hS hl)
theorem j_iload {E : z_E} {own : String} {cc : ByteArray} {nL d pc : Nat} {L : z_L} {st : List Value} {μ : z_M} (F : z_F E own cc nL d) {i : Nat} {x : Int32} (hdg : decode cc pc = .ok (.iload i, 2)) (hi : L[i]? = some (some (.int x))) (k : z_J E nL (pc + 2) L (.int x :: st) μ) : z_J E nL pc L st μ := by
  obtain ⟨⟨l, D, ad, dA, sh⟩, p, e, R, s, m, args, below, meth, c, Q, A, kc, ks⟩ := E
  obtain ⟨hx, hb, hml, hown, hts, hK, hD, hA, hX, hd1, hd2, hc1, hc2⟩ := F
  intro H locs ls hP hS hl
  exact lv_iload hx hb hdg (hl.at hi) (k H locs ls hP hS hl)
theorem j_iload_n {E : z_E} {own : String} {cc : ByteArray} {nL d pc : Nat} {L : z_L} {st : List Value} {μ : z_M} (F : z_F E own cc nL d) {q : Fin 4} {x : Int32} (hdg : decode cc pc = .ok (.iload_n q, 1)) (hi : L[(q : Nat)]? = some (some (.int x))) (k : z_J E nL (pc + 1) L (.int x :: st) μ) : z_J E nL pc L st μ := by
  obtain ⟨⟨l, D, ad, dA, sh⟩, p, e, R, s, m, args, below, meth, c, Q, A, kc, ks⟩ := E
  obtain ⟨hx, hb, hml, hown, hts, hK, hD, hA, hX, hd1, hd2, hc1, hc2⟩ := F
  intro H locs ls hP hS hl
  exact lv_iload_n hx hb hdg rfl (hl.at hi) (k H locs ls hP hS hl)
theorem j_lload {E : z_E} {own : String} {cc : ByteArray} {nL d pc : Nat} {L : z_L} {st : List Value} {μ : z_M} (F : z_F E own cc nL d) {i : Nat} {x : Int64} (hdg : decode cc pc = .ok (.lload i, 2)) (hi : L[i]? = some (some (.long x))) (k : z_J E nL (pc + 2) L (.long x :: st) μ) : z_J E nL pc L st μ := by
  obtain ⟨⟨l, D, ad, dA, sh⟩, p, e, R, s, m, args, below, meth, c, Q, A, kc, ks⟩ := E
  obtain ⟨hx, hb, hml, hown, hts, hK, hD, hA, hX, hd1, hd2, hc1, hc2⟩ := F
  intro H locs ls hP hS hl
  exact lv_lload hx hb hdg (hl.at hi) (k H locs ls hP hS hl)
theorem j_lload_n {E : z_E} {own : String} {cc : ByteArray} {nL d pc : Nat} {L : z_L} {st : List Value} {μ : z_M} (F : z_F E own cc nL d) {q : Fin 4} {x : Int64} (hdg : decode cc pc = .ok (.lload_n q, 1)) (hi : L[(q : Nat)]? = some (some (.long x))) (k : z_J E nL (pc + 1) L (.long x :: st) μ) : z_J E nL pc L st μ := by
  obtain ⟨⟨l, D, ad, dA, sh⟩, p, e, R, s, m, args, below, meth, c, Q, A, kc, ks⟩ := E
  obtain ⟨hx, hb, hml, hown, hts, hK, hD, hA, hX, hd1, hd2, hc1, hc2⟩ := F
  intro H locs ls hP hS hl
  exact lv_lload_n hx hb hdg rfl (hl.at hi) (k H locs ls hP hS hl)
theorem j_aload {E : z_E} {own : String} {cc : ByteArray} {nL d pc : Nat} {L : z_L} {st : List Value} {μ : z_M} (F : z_F E own cc nL d) {i : Nat} {x : Nat} (hdg : decode cc pc = .ok (.aload i, 2)) (hi : L[i]? = some (some (.ref x))) (k : z_J E nL (pc + 2) L (.ref x :: st) μ) : z_J E nL pc L st μ := by
  obtain ⟨⟨l, D, ad, dA, sh⟩, p, e, R, s, m, args, below, meth, c, Q, A, kc, ks⟩ := E
  obtain ⟨hx, hb, hml, hown, hts, hK, hD, hA, hX, hd1, hd2, hc1, hc2⟩ := F
  intro H locs ls hP hS hl
  exact lv_aload hx hb hdg (hl.at hi) (k H locs ls hP hS hl)
theorem j_aload_n {E : z_E} {own : String} {cc : ByteArray} {nL d pc : Nat} {L : z_L} {st : List Value} {μ : z_M} (F : z_F E own cc nL d) {q : Fin 4} {x : Nat} (hdg : decode cc pc = .ok (.aload_n q, 1)) (hi : L[(q : Nat)]? = some (some (.ref x))) (k : z_J E nL (pc + 1) L (.ref x :: st) μ) : z_J E nL pc L st μ := by
  obtain ⟨⟨l, D, ad, dA, sh⟩, p, e, R, s, m, args, below, meth, c, Q, A, kc, ks⟩ := E
  obtain ⟨hx, hb, hml, hown, hts, hK, hD, hA, hX, hd1, hd2, hc1, hc2⟩ := F
  intro H locs ls hP hS hl
  exact lv_aload_n hx hb hdg rfl (hl.at hi) (k H locs ls hP hS hl)
theorem j_istore {E : z_E} {own : String} {cc : ByteArray} {nL d pc : Nat} {L : z_L} {st : List Value} {μ : z_M} (F : z_F E own cc nL d) {i : Nat} {x : Int32} {L' : z_L} (hdg : decode cc pc = .ok (.istore i, 2)) (hn : i < nL) (hz : z_nl L i = true) (hL : L.set i (some (.int x)) = L') (k : z_J E nL (pc + 2) L' st μ) : z_J E nL pc L (.int x :: st) μ := by
  obtain ⟨⟨l, D, ad, dA, sh⟩, p, e, R, s, m, args, below, meth, c, Q, A, kc, ks⟩ := E
  obtain ⟨hx, hb, hml, hown, hts, hK, hD, hA, hX, hd1, hd2, hc1, hc2⟩ := F
  intro H locs ls hP hS hl
  exact lv_istore hx hb hdg hl.has hn rfl (fun ls' h' => k H locs ls' hP hS (hL ▸ z_store1 (v := .int x) hz h'))
theorem j_istore_n {E : z_E} {own : String} {cc : ByteArray} {nL d pc : Nat} {L : z_L} {st : List Value} {μ : z_M} (F : z_F E own cc nL d) {q : Fin 4} {x : Int32} {L' : z_L} (hdg : decode cc pc = .ok (.istore_n q, 1)) (hn : (q : Nat) < nL) (hz : z_nl L (q : Nat) = true) (hL : L.set (q : Nat) (some (.int x)) = L') (k : z_J E nL (pc + 1) L' st μ) : z_J E nL pc L (.int x :: st) μ := by
  obtain ⟨⟨l, D, ad, dA, sh⟩, p, e, R, s, m, args, below, meth, c, Q, A, kc, ks⟩ := E
  obtain ⟨hx, hb, hml, hown, hts, hK, hD, hA, hX, hd1, hd2, hc1, hc2⟩ := F
  intro H locs ls hP hS hl
  exact lv_istore_n hx hb hdg rfl hl.has hn rfl (fun ls' h' => k H locs ls' hP hS (hL ▸ z_store1 (v := .int x) hz h'))
theorem j_astore {E : z_E} {own : String} {cc : ByteArray} {nL d pc : Nat} {L : z_L} {st : List Value} {μ : z_M} (F : z_F E own cc nL d) {i : Nat} {x : Nat} {L' : z_L} (hdg : decode cc pc = .ok (.astore i, 2)) (hn : i < nL) (hz : z_nl L i = true) (hL : L.set i (some (.ref x)) = L') (k : z_J E nL (pc + 2) L' st μ) : z_J E nL pc L (.ref x :: st) μ := by
  obtain ⟨⟨l, D, ad, dA, sh⟩, p, e, R, s, m, args, below, meth, c, Q, A, kc, ks⟩ := E
  obtain ⟨hx, hb, hml, hown, hts, hK, hD, hA, hX, hd1, hd2, hc1, hc2⟩ := F
  intro H locs ls hP hS hl
  exact lv_astore hx hb hdg hl.has hn rfl (fun ls' h' => k H locs ls' hP hS (hL ▸ z_store1 (v := .ref x) hz h'))
theorem j_astore_n {E : z_E} {own : String} {cc : ByteArray} {nL d pc : Nat} {L : z_L} {st : List Value} {μ : z_M} (F : z_F E own cc nL d) {q : Fin 4} {x : Nat} {L' : z_L} (hdg : decode cc pc = .ok (.astore_n q, 1)) (hn : (q : Nat) < nL) (hz : z_nl L (q : Nat) = true) (hL : L.set (q : Nat) (some (.ref x)) = L') (k : z_J E nL (pc + 1) L' st μ) : z_J E nL pc L (.ref x :: st) μ := by
  obtain ⟨⟨l, D, ad, dA, sh⟩, p, e, R, s, m, args, below, meth, c, Q, A, kc, ks⟩ := E
  obtain ⟨hx, hb, hml, hown, hts, hK, hD, hA, hX, hd1, hd2, hc1, hc2⟩ := F
  intro H locs ls hP hS hl
  exact lv_astore_n hx hb hdg rfl hl.has hn rfl (fun ls' h' => k H locs ls' hP hS (hL ▸ z_store1 (v := .ref x) hz h'))
theorem j_lstore_n {E : z_E} {own : String} {cc : ByteArray} {nL d pc : Nat} {L : z_L} {st : List Value} {μ : z_M} (F : z_F E own cc nL d) {q : Fin 4} {x : Int64} {L' : z_L} (hdg : decode cc pc = .ok (.lstore_n q, 1)) (hn : (q : Nat) + 1 < nL) (hz : z_nl L (q : Nat) = true) (hL : (L.set (q : Nat) (some (.long x))).set ((q : Nat) + 1) none = L') (k : z_J E nL (pc + 1) L' st μ) : z_J E nL pc L (.long x :: st) μ := by
  obtain ⟨⟨l, D, ad, dA, sh⟩, p, e, R, s, m, args, below, meth, c, Q, A, kc, ks⟩ := E
  obtain ⟨hx, hb, hml, hown, hts, hK, hD, hA, hX, hd1, hd2, hc1, hc2⟩ := F
  intro H locs ls hP hS hl
  exact lv_lstore_n hx hb hdg rfl hl.has hn rfl (fun ls' h' => k H locs ls' hP hS (hL ▸ z_store2 (v := .long x) hz h'))
theorem j_iinc {E : z_E} {own : String} {cc : ByteArray} {nL d pc : Nat} {L : z_L} {st : List Value} {μ : z_M} (F : z_F E own cc nL d) {i : Nat} {n : Int} {x v : Int32} {L' : z_L} (hdg : decode cc pc = .ok (.iinc i n, 3)) (hi : L[i]? = some (some (.int x))) (hv : Int32.ofInt n = v) (hn : i < nL) (hz : z_nl L i = true) (hL : L.set i (some (.int (x + v))) = L') (k : z_J E nL (pc + 3) L' st μ) : z_J E nL pc L st μ := by
  obtain ⟨⟨l, D, ad, dA, sh⟩, p, e, R, s, m, args, below, meth, c, Q, A, kc, ks⟩ := E
  obtain ⟨hx, hb, hml, hown, hts, hK, hD, hA, hX, hd1, hd2, hc1, hc2⟩ := F
  intro H locs ls hP hS hl
  obtain ⟨q, hq⟩ := List.getElem?_of_mem (z_lv_mem (ad := ad) hi)
  exact lv_iinc hx hb hdg hl.has hq (by rw [hv]) hn rfl (fun ls' h' => k H locs ls' hP hS (hL ▸ z_store1 (v := .int (x + v)) hz h'))
theorem j_if_eq {E : z_E} {own : String} {cc : ByteArray} {nL d pc : Nat} {L : z_L} {st : List Value} {μ : z_M} (F : z_F E own cc nL d) {x : Int32} {off : Int} {tgt : Nat} (hdg : decode cc pc = .ok (.ifCond .eq off, 3)) (ht : (pc : Int) + off = (tgt : Int)) (kt : x = 0 → z_J E nL tgt L st μ) (kf : ¬ x = 0 → z_J E nL (pc + 3) L st μ) : z_J E nL pc L (.int x :: st) μ := by
  obtain ⟨⟨l, D, ad, dA, sh⟩, p, e, R, s, m, args, below, meth, c, Q, A, kc, ks⟩ := E
  obtain ⟨hx, hb, hml, hown, hts, hK, hD, hA, hX, hd1, hd2, hc1, hc2⟩ := F
  intro H locs ls hP hS hl
  exact lv_if_eq hx hb hdg ht (fun q => kt q H locs ls hP hS hl) (fun q => kf q H locs ls hP hS hl)
theorem j_icmp_eq {E : z_E} {own : String} {cc : ByteArray} {nL d pc : Nat} {L : z_L} {st : List Value} {μ : z_M} (F : z_F E own cc nL d) {x y : Int32} {off : Int} {tgt : Nat} (hdg : decode cc pc = .ok (.if_icmp .eq off, 3)) (ht : (pc : Int) + off = (tgt : Int)) (kt : x = y → z_J E nL tgt L st μ) (kf : ¬ x = y → z_J E nL (pc + 3) L st μ) : z_J E nL pc L (.int y :: .int x :: st) μ := by
  obtain ⟨⟨l, D, ad, dA, sh⟩, p, e, R, s, m, args, below, meth, c, Q, A, kc, ks⟩ := E
  obtain ⟨hx, hb, hml, hown, hts, hK, hD, hA, hX, hd1, hd2, hc1, hc2⟩ := F
  intro H locs ls hP hS hl
  exact lv_icmp_eq hx hb hdg ht (fun q => kt q H locs ls hP hS hl) (fun q => kf q H locs ls hP hS hl)
theorem j_if_ne {E : z_E} {own : String} {cc : ByteArray} {nL d pc : Nat} {L : z_L} {st : List Value} {μ : z_M} (F : z_F E own cc nL d) {x : Int32} {off : Int} {tgt : Nat} (hdg : decode cc pc = .ok (.ifCond .ne off, 3)) (ht : (pc : Int) + off = (tgt : Int)) (kt : ¬ x = 0 → z_J E nL tgt L st μ) (kf : x = 0 → z_J E nL (pc + 3) L st μ) : z_J E nL pc L (.int x :: st) μ := by
  obtain ⟨⟨l, D, ad, dA, sh⟩, p, e, R, s, m, args, below, meth, c, Q, A, kc, ks⟩ := E
  obtain ⟨hx, hb, hml, hown, hts, hK, hD, hA, hX, hd1, hd2, hc1, hc2⟩ := F
  intro H locs ls hP hS hl
  exact lv_if_ne hx hb hdg ht (fun q => kt q H locs ls hP hS hl) (fun q => kf q H locs ls hP hS hl)
theorem j_icmp_ne {E : z_E} {own : String} {cc : ByteArray} {nL d pc : Nat} {L : z_L} {st : List Value} {μ : z_M} (F : z_F E own cc nL d) {x y : Int32} {off : Int} {tgt : Nat} (hdg : decode cc pc = .ok (.if_icmp .ne off, 3)) (ht : (pc : Int) + off = (tgt : Int)) (kt : ¬ x = y → z_J E nL tgt L st μ) (kf : x = y → z_J E nL (pc + 3) L st μ) : z_J E nL pc L (.int y :: .int x :: st) μ := by
  obtain ⟨⟨l, D, ad, dA, sh⟩, p, e, R, s, m, args, below, meth, c, Q, A, kc, ks⟩ := E
  obtain ⟨hx, hb, hml, hown, hts, hK, hD, hA, hX, hd1, hd2, hc1, hc2⟩ := F
  intro H locs ls hP hS hl
  exact lv_icmp_ne hx hb hdg ht (fun q => kt q H locs ls hP hS hl) (fun q => kf q H locs ls hP hS hl)
theorem j_if_lt {E : z_E} {own : String} {cc : ByteArray} {nL d pc : Nat} {L : z_L} {st : List Value} {μ : z_M} (F : z_F E own cc nL d) {x : Int32} {off : Int} {tgt : Nat} (hdg : decode cc pc = .ok (.ifCond .lt off, 3)) (ht : (pc : Int) + off = (tgt : Int)) (kt : x < 0 → z_J E nL tgt L st μ) (kf : ¬ x < 0 → z_J E nL (pc + 3) L st μ) : z_J E nL pc L (.int x :: st) μ := by
  obtain ⟨⟨l, D, ad, dA, sh⟩, p, e, R, s, m, args, below, meth, c, Q, A, kc, ks⟩ := E
  obtain ⟨hx, hb, hml, hown, hts, hK, hD, hA, hX, hd1, hd2, hc1, hc2⟩ := F
  intro H locs ls hP hS hl
  exact lv_if_lt hx hb hdg ht (fun q => kt q H locs ls hP hS hl) (fun q => kf q H locs ls hP hS hl)
theorem j_icmp_lt {E : z_E} {own : String} {cc : ByteArray} {nL d pc : Nat} {L : z_L} {st : List Value} {μ : z_M} (F : z_F E own cc nL d) {x y : Int32} {off : Int} {tgt : Nat} (hdg : decode cc pc = .ok (.if_icmp .lt off, 3)) (ht : (pc : Int) + off = (tgt : Int)) (kt : x < y → z_J E nL tgt L st μ) (kf : ¬ x < y → z_J E nL (pc + 3) L st μ) : z_J E nL pc L (.int y :: .int x :: st) μ := by
  obtain ⟨⟨l, D, ad, dA, sh⟩, p, e, R, s, m, args, below, meth, c, Q, A, kc, ks⟩ := E
  obtain ⟨hx, hb, hml, hown, hts, hK, hD, hA, hX, hd1, hd2, hc1, hc2⟩ := F
  intro H locs ls hP hS hl
  exact lv_icmp_lt hx hb hdg ht (fun q => kt q H locs ls hP hS hl) (fun q => kf q H locs ls hP hS hl)
theorem j_if_ge {E : z_E} {own : String} {cc : ByteArray} {nL d pc : Nat} {L : z_L} {st : List Value} {μ : z_M} (F : z_F E own cc nL d) {x : Int32} {off : Int} {tgt : Nat} (hdg : decode cc pc = .ok (.ifCond .ge off, 3)) (ht : (pc : Int) + off = (tgt : Int)) (kt : 0 ≤ x → z_J E nL tgt L st μ) (kf : ¬ 0 ≤ x → z_J E nL (pc + 3) L st μ) : z_J E nL pc L (.int x :: st) μ := by
  obtain ⟨⟨l, D, ad, dA, sh⟩, p, e, R, s, m, args, below, meth, c, Q, A, kc, ks⟩ := E
  obtain ⟨hx, hb, hml, hown, hts, hK, hD, hA, hX, hd1, hd2, hc1, hc2⟩ := F
  intro H locs ls hP hS hl
  exact lv_if_ge hx hb hdg ht (fun q => kt q H locs ls hP hS hl) (fun q => kf q H locs ls hP hS hl)
theorem j_icmp_ge {E : z_E} {own : String} {cc : ByteArray} {nL d pc : Nat} {L : z_L} {st : List Value} {μ : z_M} (F : z_F E own cc nL d) {x y : Int32} {off : Int} {tgt : Nat} (hdg : decode cc pc = .ok (.if_icmp .ge off, 3)) (ht : (pc : Int) + off = (tgt : Int)) (kt : y ≤ x → z_J E nL tgt L st μ) (kf : ¬ y ≤ x → z_J E nL (pc + 3) L st μ) : z_J E nL pc L (.int y :: .int x :: st) μ := by
  obtain ⟨⟨l, D, ad, dA, sh⟩, p, e, R, s, m, args, below, meth, c, Q, A, kc, ks⟩ := E
  obtain ⟨hx, hb, hml, hown, hts, hK, hD, hA, hX, hd1, hd2, hc1, hc2⟩ := F
  intro H locs ls hP hS hl
  exact lv_icmp_ge hx hb hdg ht (fun q => kt q H locs ls hP hS hl) (fun q => kf q H locs ls hP hS hl)
theorem j_if_gt {E : z_E} {own : String} {cc : ByteArray} {nL d pc : Nat} {L : z_L} {st : List Value} {μ : z_M} (F : z_F E own cc nL d) {x : Int32} {off : Int} {tgt : Nat} (hdg : decode cc pc = .ok (.ifCond .gt off, 3)) (ht : (pc : Int) + off = (tgt : Int)) (kt : 0 < x → z_J E nL tgt L st μ) (kf : ¬ 0 < x → z_J E nL (pc + 3) L st μ) : z_J E nL pc L (.int x :: st) μ := by
  obtain ⟨⟨l, D, ad, dA, sh⟩, p, e, R, s, m, args, below, meth, c, Q, A, kc, ks⟩ := E
  obtain ⟨hx, hb, hml, hown, hts, hK, hD, hA, hX, hd1, hd2, hc1, hc2⟩ := F
  intro H locs ls hP hS hl
  exact lv_if_gt hx hb hdg ht (fun q => kt q H locs ls hP hS hl) (fun q => kf q H locs ls hP hS hl)
theorem j_icmp_gt {E : z_E} {own : String} {cc : ByteArray} {nL d pc : Nat} {L : z_L} {st : List Value} {μ : z_M} (F : z_F E own cc nL d) {x y : Int32} {off : Int} {tgt : Nat} (hdg : decode cc pc = .ok (.if_icmp .gt off, 3)) (ht : (pc : Int) + off = (tgt : Int)) (kt : y < x → z_J E nL tgt L st μ) (kf : ¬ y < x → z_J E nL (pc + 3) L st μ) : z_J E nL pc L (.int y :: .int x :: st) μ := by
  obtain ⟨⟨l, D, ad, dA, sh⟩, p, e, R, s, m, args, below, meth, c, Q, A, kc, ks⟩ := E
  obtain ⟨hx, hb, hml, hown, hts, hK, hD, hA, hX, hd1, hd2, hc1, hc2⟩ := F
  intro H locs ls hP hS hl
  exact lv_icmp_gt hx hb hdg ht (fun q => kt q H locs ls hP hS hl) (fun q => kf q H locs ls hP hS hl)
theorem j_if_le {E : z_E} {own : String} {cc : ByteArray} {nL d pc : Nat} {L : z_L} {st : List Value} {μ : z_M} (F : z_F E own cc nL d) {x : Int32} {off : Int} {tgt : Nat} (hdg : decode cc pc = .ok (.ifCond .le off, 3)) (ht : (pc : Int) + off = (tgt : Int)) (kt : x ≤ 0 → z_J E nL tgt L st μ) (kf : ¬ x ≤ 0 → z_J E nL (pc + 3) L st μ) : z_J E nL pc L (.int x :: st) μ := by
  obtain ⟨⟨l, D, ad, dA, sh⟩, p, e, R, s, m, args, below, meth, c, Q, A, kc, ks⟩ := E
  obtain ⟨hx, hb, hml, hown, hts, hK, hD, hA, hX, hd1, hd2, hc1, hc2⟩ := F
  intro H locs ls hP hS hl
  exact lv_if_le hx hb hdg ht (fun q => kt q H locs ls hP hS hl) (fun q => kf q H locs ls hP hS hl)
theorem j_icmp_le {E : z_E} {own : String} {cc : ByteArray} {nL d pc : Nat} {L : z_L} {st : List Value} {μ : z_M} (F : z_F E own cc nL d) {x y : Int32} {off : Int} {tgt : Nat} (hdg : decode cc pc = .ok (.if_icmp .le off, 3)) (ht : (pc : Int) + off = (tgt : Int)) (kt : x ≤ y → z_J E nL tgt L st μ) (kf : ¬ x ≤ y → z_J E nL (pc + 3) L st μ) : z_J E nL pc L (.int y :: .int x :: st) μ := by
  obtain ⟨⟨l, D, ad, dA, sh⟩, p, e, R, s, m, args, below, meth, c, Q, A, kc, ks⟩ := E
  obtain ⟨hx, hb, hml, hown, hts, hK, hD, hA, hX, hd1, hd2, hc1, hc2⟩ := F
  intro H locs ls hP hS hl
  exact lv_icmp_le hx hb hdg ht (fun q => kt q H locs ls hP hS hl) (fun q => kf q H locs ls hP hS hl)
theorem j_goto {E : z_E} {own : String} {cc : ByteArray} {nL d pc : Nat} {L : z_L} {st : List Value} {μ : z_M} (F : z_F E own cc nL d) {off : Int} {tgt : Nat} (hdg : decode cc pc = .ok (.goto off, 3)) (ht : (pc : Int) + off = (tgt : Int)) (k : z_J E nL tgt L st μ) : z_J E nL pc L st μ := by
  obtain ⟨⟨l, D, ad, dA, sh⟩, p, e, R, s, m, args, below, meth, c, Q, A, kc, ks⟩ := E
  obtain ⟨hx, hb, hml, hown, hts, hK, hD, hA, hX, hd1, hd2, hc1, hc2⟩ := F
  intro H locs ls hP hS hl
  exact lv_goto hx hb hdg ht (k H locs ls hP hS hl)
theorem j_tableIn {E : z_E} {own : String} {cc : ByteArray} {nL d pc : Nat} {L : z_L} {st : List Value} {μ : z_M} (F : z_F E own cc nL d) {dflt lo hi : Int} {offs : Array Int} {len : Nat} {x : Int32} {off : Int} {tgt : Nat} (hdg : decode cc pc = .ok (.tableswitch dflt lo hi offs, len)) (h1 : ¬ x.toInt < lo) (h2 : ¬ hi < x.toInt) (ho : offs[(x.toInt - lo).toNat]? = some off) (ht : (pc : Int) + off = (tgt : Int)) (k : z_J E nL tgt L st μ) : z_J E nL pc L (.int x :: st) μ := by
  obtain ⟨⟨l, D, ad, dA, sh⟩, p, e, R, s, m, args, below, meth, c, Q, A, kc, ks⟩ := E
  obtain ⟨hx, hb, hml, hown, hts, hK, hD, hA, hX, hd1, hd2, hc1, hc2⟩ := F
  intro H locs ls hP hS hl
  exact lv_tableIn hx hb hdg h1 h2 ho ht (k H locs ls hP hS hl)
theorem j_tableOut {E : z_E} {own : String} {cc : ByteArray} {nL d pc : Nat} {L : z_L} {st : List Value} {μ : z_M} (F : z_F E own cc nL d) {dflt lo hi : Int} {offs : Array Int} {len : Nat} {x : Int32} {tgt : Nat} (hdg : decode cc pc = .ok (.tableswitch dflt lo hi offs, len)) (h : x.toInt < lo ∨ hi < x.toInt) (ht : (pc : Int) + dflt = (tgt : Int)) (k : z_J E nL tgt L st μ) : z_J E nL pc L (.int x :: st) μ := by
  obtain ⟨⟨l, D, ad, dA, sh⟩, p, e, R, s, m, args, below, meth, c, Q, A, kc, ks⟩ := E
  obtain ⟨hx, hb, hml, hown, hts, hK, hD, hA, hX, hd1, hd2, hc1, hc2⟩ := F
  intro H locs ls hP hS hl
  exact lv_tableOut hx hb hdg h ht (k H locs ls hP hS hl)
theorem j_mk {E : z_E} {own : String} {cc : ByteArray} {nL d pc : Nat} {L : z_L} {st : List Value} {μ : z_M} (F : z_F E own cc nL d) (b : List Bool) {L' : z_L} (hL : z_mk b L = L') (k : z_J E nL pc L' st μ) : z_J E nL pc L st μ := by
  obtain ⟨⟨l, D, ad, dA, sh⟩, p, e, R, s, m, args, below, meth, c, Q, A, kc, ks⟩ := E
  obtain ⟨hx, hb, hml, hown, hts, hK, hD, hA, hX, hd1, hd2, hc1, hc2⟩ := F
  intro H locs ls hP hS hl
  exact k H locs ls hP hS (hL ▸ hl.mk b)
theorem j_ldc2 {E : z_E} {own : String} {cc : ByteArray} {nL d pc : Nat} {L : z_L} {st : List Value} {μ : z_M} (F : z_F E own cc nL d) {index : Nat} {v : Int64} (hw : Cond.constantLong own index v ∈ z_T) (hdg : decode cc pc = .ok (.ldc2_w index, 3)) (k : z_J E nL (pc + 3) L (.long v :: st) μ) : z_J E nL pc L st μ := by
  obtain ⟨⟨l, D, ad, dA, sh⟩, p, e, R, s, m, args, below, meth, c, Q, A, kc, ks⟩ := E
  obtain ⟨hx, hb, hml, hown, hts, hK, hD, hA, hX, hd1, hd2, hc1, hc2⟩ := F
  intro H locs ls hP hS hl
  exact lv_ldc2 hx hb hown (hts _ hw) hdg (k H locs ls hP hS hl)
/-- field k of class ci, as own's pool spells it at idx -/
def z_fl (own : String) (idx ci k : Nat) : Prop := ∃ (C : String) (T : u_T) (N : Nat), z_cl[ci]? = some (C, T, N) ∧ k < N ∧ (∀ w ∈ u_ws C T N, w ∈ z_T) ∧ Cond.fieldLink own idx (T k).1 (T k).2.1 (T k).2.2.1 ∈ z_T
/-- it may be written; its type -/
def z_fp (ci k : Nat) (fin : Bool) (ty : FieldType) : Prop := ∃ (C : String) (T : u_T) (N : Nat) (tn : Nat → FieldType), z_cl[ci]? = some (C, T, N) ∧ (T k).2.2.2 = fin ∧ (T k).1 = C ∧ parseFieldDescriptor (T k).2.2.1 = some ty ∧ (∀ k, k < N → parseFieldDescriptor (T k).2.2.1 = some (tn k)) ∧ (∀ a, a < N → ∀ b, b < N → a ≠ b → (T a).2.1 ≠ (T b).2.1)
theorem z_fs_get {ad : Nat → Nat} {μ : z_M} {i k q : Nat} {ks : List Nat} (hk : ks[k]? = some q) : (ks.mapIdx (fun k q => z_f ad μ i k q))[k]? = some (z_f ad μ i k q) := by
  simp [List.getElem?_mapIdx, hk]
theorem j_getI {E : z_E} {own : String} {cc : ByteArray} {nL d pc : Nat} {L : z_L} {st : List Value} {μ : z_M} (F : z_F E own cc nL d) {o k ci idx : Nat} {fs : List Nat}  (hf : z_fl own idx ci k) (hs : (z_sh E.1)[o]? = some (.inr (ci, fs))) (hk : fs[k]? = some 0) (hdg : decode cc pc = .ok (.getfield idx, 3)) (kk : z_J E nL (pc + 3) L (.int (μ.1 o k) :: st) μ) : z_J E nL pc L (.ref o :: st) μ := by
  obtain ⟨⟨l, D, ad, dA, sh⟩, p, e, R, s, m, args, below, meth, c, Q, A, kc, ks⟩ := E
  obtain ⟨hx, hb, hml, hown, hts, hK, hD, hA, hX, hd1, hd2, hc1, hc2⟩ := F
  intro H locs ls hP hS hl
  obtain ⟨C, T, N, g1, g2, g3, g4⟩ := hf
  exact va_get (D := D) hx hb hts g3 hown hK hP o (z_w_get hs) g1 k g2 (hts _ g4) (fun _ h9 => h9) (z_fs_get hk) hdg (kk H locs ls hP hS hl)
theorem j_getL {E : z_E} {own : String} {cc : ByteArray} {nL d pc : Nat} {L : z_L} {st : List Value} {μ : z_M} (F : z_F E own cc nL d) {o k ci idx : Nat} {fs : List Nat}  (hf : z_fl own idx ci k) (hs : (z_sh E.1)[o]? = some (.inr (ci, fs))) (hk : fs[k]? = some 1) (hdg : decode cc pc = .ok (.getfield idx, 3)) (kk : z_J E nL (pc + 3) L (.long (μ.2.1 o k) :: st) μ) : z_J E nL pc L (.ref o :: st) μ := by
  obtain ⟨⟨l, D, ad, dA, sh⟩, p, e, R, s, m, args, below, meth, c, Q, A, kc, ks⟩ := E
  obtain ⟨hx, hb, hml, hown, hts, hK, hD, hA, hX, hd1, hd2, hc1, hc2⟩ := F
  intro H locs ls hP hS hl
  obtain ⟨C, T, N, g1, g2, g3, g4⟩ := hf
  exact va_get (D := D) hx hb hts g3 hown hK hP o (z_w_get hs) g1 k g2 (hts _ g4) (fun _ h9 => h9) (z_fs_get hk) hdg (kk H locs ls hP hS hl)
theorem j_getR {E : z_E} {own : String} {cc : ByteArray} {nL d pc : Nat} {L : z_L} {st : List Value} {μ : z_M} (F : z_F E own cc nL d) {o k ci idx : Nat} {fs : List Nat} {r : Nat} (hr : μ.2.2 o k = some r) (hf : z_fl own idx ci k) (hs : (z_sh E.1)[o]? = some (.inr (ci, fs))) (hk : fs[k]? = some 2) (hdg : decode cc pc = .ok (.getfield idx, 3)) (kk : z_J E nL (pc + 3) L (.ref r :: st) μ) : z_J E nL pc L (.ref o :: st) μ := by
  obtain ⟨⟨l, D, ad, dA, sh⟩, p, e, R, s, m, args, below, meth, c, Q, A, kc, ks⟩ := E
  obtain ⟨hx, hb, hml, hown, hts, hK, hD, hA, hX, hd1, hd2, hc1, hc2⟩ := F
  intro H locs ls hP hS hl
  obtain ⟨C, T, N, g1, g2, g3, g4⟩ := hf
  have hv : z_f ad μ o k 2 = .ref (ad r) := by simp [z_f, hr, va_rf]
  exact va_get (D := D) hx hb hts g3 hown hK hP o (z_w_get hs) g1 k g2 (hts _ g4) (fun _ h9 => h9) ((z_fs_get hk).trans (congrArg some hv)) hdg (kk H locs ls hP hS hl)
theorem j_putI {E : z_E} {own : String} {cc : ByteArray} {nL d pc : Nat} {L : z_L} {st : List Value} {μ : z_M} (F : z_F E own cc nL d) {o k ci idx : Nat} {fs : List Nat} {x : Int32}  (hf : z_fl own idx ci k) (hp : z_fp ci k false .int) (hs : (z_sh E.1)[o]? = some (.inr (ci, fs))) (hk : fs[k]? = some 0) (hdg : decode cc pc = .ok (.putfield idx, 3)) (kk : z_J E nL (pc + 3) L st (z_si μ o k x)) : z_J E nL pc L (.int x :: .ref o :: st) μ := by
  obtain ⟨⟨l, D, ad, dA, sh⟩, p, e, R, s, m, args, below, meth, c, Q, A, kc, ks⟩ := E
  obtain ⟨hx, hb, hml, hown, hts, hK, hD, hA, hX, hd1, hd2, hc1, hc2⟩ := F
  intro H locs ls hP hS hl
  obtain ⟨C, T, N, g1, g2, g3, g4⟩ := hf
  obtain ⟨C', T', N', tn, f1, f2, f3, f4, f5, f6⟩ := hp
  cases g1.symm.trans f1
  have hv : z_f ad (z_si μ o k x) o k 0 = z_v ad (.int x) := by simp [z_f, z_si, upd, z_v]
  refine va_put (D := D) hx hb hts g3 tn f5 f6 hown hK hP (hD μ) hS o (z_w_get hs) g1 k g2 (hts _ g4) (fun _ h9 => h9) f2 f4 rfl rfl (by have := (List.getElem?_eq_some_iff.mp hk).1; simpa using this) hdg (fun H1 locs1 hP1 hD1 hS1 => ?_)
  refine kk H1 locs1 ls ?_ hS1 hl
  rw [← z_w_set hs z_e_si]
  rw [← hv, z_fs_set hk z_f_si] at hP1
  exact hP1
theorem j_putZ {E : z_E} {own : String} {cc : ByteArray} {nL d pc : Nat} {L : z_L} {st : List Value} {μ : z_M} (F : z_F E own cc nL d) {o k ci idx : Nat} {fs : List Nat} {x : Int32} (hz : x = 0 ∨ x = 1)  (hf : z_fl own idx ci k) (hp : z_fp ci k false .boolean) (hs : (z_sh E.1)[o]? = some (.inr (ci, fs))) (hk : fs[k]? = some 0) (hdg : decode cc pc = .ok (.putfield idx, 3)) (kk : z_J E nL (pc + 3) L st (z_si μ o k x)) : z_J E nL pc L (.int x :: .ref o :: st) μ := by
  obtain ⟨⟨l, D, ad, dA, sh⟩, p, e, R, s, m, args, below, meth, c, Q, A, kc, ks⟩ := E
  obtain ⟨hx, hb, hml, hown, hts, hK, hD, hA, hX, hd1, hd2, hc1, hc2⟩ := F
  intro H locs ls hP hS hl
  obtain ⟨C, T, N, g1, g2, g3, g4⟩ := hf
  obtain ⟨C', T', N', tn, f1, f2, f3, f4, f5, f6⟩ := hp
  cases g1.symm.trans f1
  have hv : z_f ad (z_si μ o k x) o k 0 = z_v ad (.int x) := by simp [z_f, z_si, upd, z_v]
  refine va_put (D := D) hx hb hts g3 tn f5 f6 hown hK hP (hD μ) hS o (z_w_get hs) g1 k g2 (hts _ g4) (fun _ h9 => h9) f2 f4 (by rcases hz with rfl | rfl <;> rfl) (by rcases hz with rfl | rfl <;> rfl) (by have := (List.getElem?_eq_some_iff.mp hk).1; simpa using this) hdg (fun H1 locs1 hP1 hD1 hS1 => ?_)
  refine kk H1 locs1 ls ?_ hS1 hl
  rw [← z_w_set hs z_e_si]
  rw [← hv, z_fs_set hk z_f_si] at hP1
  exact hP1
theorem j_putL {E : z_E} {own : String} {cc : ByteArray} {nL d pc : Nat} {L : z_L} {st : List Value} {μ : z_M} (F : z_F E own cc nL d) {o k ci idx : Nat} {fs : List Nat} {x : Int64}  (hf : z_fl own idx ci k) (hp : z_fp ci k false .long) (hs : (z_sh E.1)[o]? = some (.inr (ci, fs))) (hk : fs[k]? = some 1) (hdg : decode cc pc = .ok (.putfield idx, 3)) (kk : z_J E nL (pc + 3) L st (z_sl μ o k x)) : z_J E nL pc L (.long x :: .ref o :: st) μ := by
  obtain ⟨⟨l, D, ad, dA, sh⟩, p, e, R, s, m, args, below, meth, c, Q, A, kc, ks⟩ := E
  obtain ⟨hx, hb, hml, hown, hts, hK, hD, hA, hX, hd1, hd2, hc1, hc2⟩ := F
  intro H locs ls hP hS hl
  obtain ⟨C, T, N, g1, g2, g3, g4⟩ := hf
  obtain ⟨C', T', N', tn, f1, f2, f3, f4, f5, f6⟩ := hp
  cases g1.symm.trans f1
  have hv : z_f ad (z_sl μ o k x) o k 1 = z_v ad (.long x) := by simp [z_f, z_sl, vp_updL, z_v]
  refine va_put (D := D) hx hb hts g3 tn f5 f6 hown hK hP (hD μ) hS o (z_w_get hs) g1 k g2 (hts _ g4) (fun _ h9 => h9) f2 f4 rfl rfl (by have := (List.getElem?_eq_some_iff.mp hk).1; simpa using this) hdg (fun H1 locs1 hP1 hD1 hS1 => ?_)
  refine kk H1 locs1 ls ?_ hS1 hl
  rw [← z_w_set hs z_e_sl]
  rw [← hv, z_fs_set hk z_f_sl] at hP1
  exact hP1
theorem j_putR {E : z_E} {own : String} {cc : ByteArray} {nL d pc : Nat} {L : z_L} {st : List Value} {μ : z_M} (F : z_F E own cc nL d) {o k ci idx : Nat} {fs : List Nat} {r : Nat} {tr : FieldType} (htr : (∃ C, tr = .object C) ∨ ∃ t, tr = .array t)  (hf : z_fl own idx ci k) (hp : z_fp ci k false tr) (hs : (z_sh E.1)[o]? = some (.inr (ci, fs))) (hk : fs[k]? = some 2) (hdg : decode cc pc = .ok (.putfield idx, 3)) (kk : z_J E nL (pc + 3) L st (z_sr μ o k (some r))) : z_J E nL pc L (.ref r :: .ref o :: st) μ := by
  obtain ⟨⟨l, D, ad, dA, sh⟩, p, e, R, s, m, args, below, meth, c, Q, A, kc, ks⟩ := E
  obtain ⟨hx, hb, hml, hown, hts, hK, hD, hA, hX, hd1, hd2, hc1, hc2⟩ := F
  intro H locs ls hP hS hl
  obtain ⟨C, T, N, g1, g2, g3, g4⟩ := hf
  obtain ⟨C', T', N', tn, f1, f2, f3, f4, f5, f6⟩ := hp
  cases g1.symm.trans f1
  have hv : z_f ad (z_sr μ o k (some r)) o k 2 = z_v ad (.ref r) := by simp [z_f, z_sr, va_up, va_rf, z_v]
  refine va_put (D := D) hx hb hts g3 tn f5 f6 hown hK hP (hD μ) hS o (z_w_get hs) g1 k g2 (hts _ g4) (fun _ h9 => h9) f2 f4 (by rcases htr with ⟨C, rfl⟩ | ⟨t, rfl⟩ <;> rfl) (by rcases htr with ⟨C, rfl⟩ | ⟨t, rfl⟩ <;> rfl) (by have := (List.getElem?_eq_some_iff.mp hk).1; simpa using this) hdg (fun H1 locs1 hP1 hD1 hS1 => ?_)
  refine kk H1 locs1 ls ?_ hS1 hl
  rw [← z_w_set hs z_e_sr]
  rw [← hv, z_fs_set hk z_f_sr] at hP1
  exact hP1
theorem j_putRF {E : z_E} {own : String} {cc : ByteArray} {nL d pc : Nat} {L : z_L} {st : List Value} {μ : z_M} (F : z_F E own cc nL d) {o k ci idx : Nat} {fs : List Nat} {r : Nat} {tr : FieldType} (htr : (∃ C, tr = .object C) ∨ ∃ t, tr = .array t) (hinit : E.2.2.2.2.2.2.2.2.1.name = "<init>") (hC : ∀ C T N, z_cl[ci]? = some (C, T, N) → C = own) (hf : z_fl own idx ci k) (hp : z_fp ci k true tr) (hs : (z_sh E.1)[o]? = some (.inr (ci, fs))) (hk : fs[k]? = some 2) (hdg : decode cc pc = .ok (.putfield idx, 3)) (kk : z_J E nL (pc + 3) L st (z_sr μ o k (some r))) : z_J E nL pc L (.ref r :: .ref o :: st) μ := by
  obtain ⟨⟨l, D, ad, dA, sh⟩, p, e, R, s, m, args, below, meth, c, Q, A, kc, ks⟩ := E
  obtain ⟨hx, hb, hml, hown, hts, hK, hD, hA, hX, hd1, hd2, hc1, hc2⟩ := F
  intro H locs ls hP hS hl
  obtain ⟨C, T, N, g1, g2, g3, g4⟩ := hf
  obtain ⟨C', T', N', tn, f1, f2, f3, f4, f5, f6⟩ := hp
  cases g1.symm.trans f1
  have hv : z_f ad (z_sr μ o k (some r)) o k 2 = z_v ad (.ref r) := by simp [z_f, z_sr, va_up, va_rf, z_v]
  refine va_putF (D := D) hx hb hts g3 tn f5 f6 hown hK hP (hD μ) hS o (z_w_get hs) g1 k g2 (hts _ g4) (fun _ h9 => h9) f2 hinit (f3.trans (hC _ _ _ g1)) f4 (by rcases htr with ⟨C, rfl⟩ | ⟨t, rfl⟩ <;> rfl) (by rcases htr with ⟨C, rfl⟩ | ⟨t, rfl⟩ <;> rfl) (by have := (List.getElem?_eq_some_iff.mp hk).1; simpa using this) hdg (fun H1 locs1 hP1 hD1 hS1 => ?_)
  refine kk H1 locs1 ls ?_ hS1 hl
  rw [← z_w_set hs z_e_sr]
  rw [← hv, z_fs_set hk z_f_sr] at hP1
  exact hP1
theorem j_iald {E : z_E} {own : String} {cc : ByteArray} {nL d pc : Nat} {L : z_L} {st : List Value} {μ : z_M} (F : z_F E own cc nL d) {a n : Nat} {i : Int32} (hs : (z_sh E.1)[a]? = some (.inl (0, n))) (hin : vp_in i n) (hdg : decode cc pc = .ok (.iaload, 1)) (kk : z_J E nL (pc + 1) L (.int (μ.1 a i.toNatClampNeg) :: st) μ) : z_J E nL pc L (.int i :: .ref a :: st) μ := by
  obtain ⟨⟨l, D, ad, dA, sh⟩, p, e, R, s, m, args, below, meth, c, Q, A, kc, ks⟩ := E
  obtain ⟨hx, hb, hml, hown, hts, hK, hD, hA, hX, hd1, hd2, hc1, hc2⟩ := F
  intro H locs ls hP hS hl
  exact va_iald (f := μ.1 a) hx hb hK hP a 0 (z_w_get hs) rfl hin hdg (kk H locs ls hP hS hl)
theorem j_zald {E : z_E} {own : String} {cc : ByteArray} {nL d pc : Nat} {L : z_L} {st : List Value} {μ : z_M} (F : z_F E own cc nL d) {a n : Nat} {i : Int32} (hs : (z_sh E.1)[a]? = some (.inl (1, n))) (hin : vp_in i n) (hdg : decode cc pc = .ok (.baload, 1)) (kk : z_J E nL (pc + 1) L (.int (μ.1 a i.toNatClampNeg) :: st) μ) : z_J E nL pc L (.int i :: .ref a :: st) μ := by
  obtain ⟨⟨l, D, ad, dA, sh⟩, p, e, R, s, m, args, below, meth, c, Q, A, kc, ks⟩ := E
  obtain ⟨hx, hb, hml, hown, hts, hK, hD, hA, hX, hd1, hd2, hc1, hc2⟩ := F
  intro H locs ls hP hS hl
  exact va_zald (f := μ.1 a) hx hb hK hP a 1 (z_w_get hs) rfl hin hdg (kk H locs ls hP hS hl)
theorem j_iast {E : z_E} {own : String} {cc : ByteArray} {nL d pc : Nat} {L : z_L} {st : List Value} {μ : z_M} (F : z_F E own cc nL d) {a n : Nat} {i x : Int32} (hs : (z_sh E.1)[a]? = some (.inl (0, n))) (hin : vp_in i n) (hdg : decode cc pc = .ok (.iastore, 1)) (kk : z_J E nL (pc + 1) L st (z_si μ a i.toNatClampNeg x)) : z_J E nL pc L (.int x :: .int i :: .ref a :: st) μ := by
  obtain ⟨⟨l, D, ad, dA, sh⟩, p, e, R, s, m, args, below, meth, c, Q, A, kc, ks⟩ := E
  obtain ⟨hx, hb, hml, hown, hts, hK, hD, hA, hX, hd1, hd2, hc1, hc2⟩ := F
  intro H locs ls hP hS hl
  refine va_iast (f := μ.1 a) hx hb hK hP (hD μ) hS a 0 (z_w_get hs) rfl hin hdg (fun H1 locs1 hP1 hD1 hS1 => ?_)
  refine kk H1 locs1 ls ?_ hS1 hl
  rw [← z_w_set hs z_e_si]
  have e : z_e ad dA (z_si μ a i.toNatClampNeg x) a (.inl (0, n)) = .inl (dA 0, n, .inl (upd (μ.1 a) i.toNatClampNeg x)) := by simp [z_e, z_si]
  rw [e]
  exact hP1
theorem j_zast {E : z_E} {own : String} {cc : ByteArray} {nL d pc : Nat} {L : z_L} {st : List Value} {μ : z_M} (F : z_F E own cc nL d) {a n : Nat} {i x : Int32} (hs : (z_sh E.1)[a]? = some (.inl (1, n))) (hin : vp_in i n) (hdg : decode cc pc = .ok (.bastore, 1)) (kk : z_J E nL (pc + 1) L st (z_si μ a i.toNatClampNeg (x &&& 1))) : z_J E nL pc L (.int x :: .int i :: .ref a :: st) μ := by
  obtain ⟨⟨l, D, ad, dA, sh⟩, p, e, R, s, m, args, below, meth, c, Q, A, kc, ks⟩ := E
  obtain ⟨hx, hb, hml, hown, hts, hK, hD, hA, hX, hd1, hd2, hc1, hc2⟩ := F
  intro H locs ls hP hS hl
  refine va_zast (f := μ.1 a) hx hb hK hP (hD μ) hS a 1 (z_w_get hs) rfl hin hdg (fun H1 locs1 hP1 hD1 hS1 => ?_)
  refine kk H1 locs1 ls ?_ hS1 hl
  rw [← z_w_set hs z_e_si]
  have e : z_e ad dA (z_si μ a i.toNatClampNeg (x &&& 1)) a (.inl (1, n)) = .inl (dA 1, n, .inl (upd (μ.1 a) i.toNatClampNeg (x &&& 1))) := by simp [z_e, z_si]
  rw [e]
  exact hP1
theorem j_alen {E : z_E} {own : String} {cc : ByteArray} {nL d pc : Nat} {L : z_L} {st : List Value} {μ : z_M} (F : z_F E own cc nL d) {a n t : Nat} {v : Int32} (hs : (z_sh E.1)[a]? = some (.inl (t, n))) (ht : t < 5) (hv : Int32.ofNat n = v) (hdg : decode cc pc = .ok (.arraylength, 1)) (kk : z_J E nL (pc + 1) L (.int v :: st) μ) : z_J E nL pc L (.ref a :: st) μ := by
  obtain ⟨⟨l, D, ad, dA, sh⟩, p, e, R, s, m, args, below, meth, c, Q, A, kc, ks⟩ := E
  obtain ⟨hx, hb, hml, hown, hts, hK, hD, hA, hX, hd1, hd2, hc1, hc2⟩ := F
  intro H locs ls hP hS hl
  have hq : ∃ ty, (z_tys dA)[t]? = some (dA t, ty) := by
    match t, ht with
    | 0, _ => exact ⟨_, rfl⟩
    | 1, _ => exact ⟨_, rfl⟩
    | 2, _ => exact ⟨_, rfl⟩
    | 3, _ => exact ⟨_, rfl⟩
    | 4, _ => exact ⟨_, rfl⟩
  obtain ⟨ty, hq⟩ := hq
  exact va_alen hx hb hK hP a t (z_w_get hs) hq hv hdg (kk H locs ls hP hS hl)
theorem j_aald {E : z_E} {own : String} {cc : ByteArray} {nL d pc : Nat} {L : z_L} {st : List Value} {μ : z_M} (F : z_F E own cc nL d) {a n t r : Nat} {i : Int32} (hs : (z_sh E.1)[a]? = some (.inl (t, n))) (ht : 2 ≤ t ∧ t < 5) (hin : vp_in i n) (hr : μ.2.2 a i.toNatClampNeg = some r) (hdg : decode cc pc = .ok (.aaload, 1)) (kk : z_J E nL (pc + 1) L (.ref r :: st) μ) : z_J E nL pc L (.int i :: .ref a :: st) μ := by
  obtain ⟨⟨l, D, ad, dA, sh⟩, p, e, R, s, m, args, below, meth, c, Q, A, kc, ks⟩ := E
  obtain ⟨hx, hb, hml, hown, hts, hK, hD, hA, hX, hd1, hd2, hc1, hc2⟩ := F
  intro H locs ls hP hS hl
  have hq : ∃ ty, (z_tys dA)[t]? = some (dA t, ty) ∧ ty.isReference = true := by
    match t, ht with
    | 2, _ => exact ⟨_, rfl, rfl⟩
    | 3, _ => exact ⟨_, rfl, rfl⟩
    | 4, _ => exact ⟨_, rfl, rfl⟩
  obtain ⟨ty, hq, hty⟩ := hq
  have hlt : i.toNatClampNeg < n := Nat.not_le.mp fun q => hin (Or.inr q)
  have e : z_e ad dA μ a (.inl (t, n)) = .inl (dA t, n, .inr (.inr (.inr (.inr (fun k => (μ.2.2 a k).map ad))))) := by
    simp only [z_e]
    rw [if_neg (by omega)]
  have hc := hP a _ (z_w_get hs)
  rw [e] at hc
  refine W.aald (v := .ref (ad r)) (ty := ty) hx hb hc ((hK.2 t _ hq).1 n (fun j => va_rf ((μ.2.2 a j).map ad))) hty (fun q => by cases q) (by show ¬ (i < 0 ∨ (arrV _ _ _).slots.size ≤ _); rw [arrV_size]; exact hin) (by show (arrV _ _ _).slots[_]? = _; rw [arrV_read _ _ hlt]; simp [hr, va_rf]) rfl rfl hdg (kk H locs ls hP hS hl)
theorem j_aast {E : z_E} {own : String} {cc : ByteArray} {nL d pc : Nat} {L : z_L} {st : List Value} {μ : z_M} (F : z_F E own cc nL d) {a n t r ci : Nat} {fs : List Nat} {i : Int32} (q0 : vw_C) (hs : (z_sh E.1)[a]? = some (.inl (t, n))) (ht : (t = 2 ∧ ci = 0) ∨ (t = 3 ∧ ci = 3)) (hin : vp_in i n) (hr : (z_sh E.1)[r]? = some (.inr (ci, fs))) (hdg : decode cc pc = .ok (.aastore, 1)) (kk : z_J E nL (pc + 1) L st (z_sr μ a i.toNatClampNeg (some r))) : z_J E nL pc L (.ref r :: .int i :: .ref a :: st) μ := by
  obtain ⟨⟨l, D, ad, dA, sh⟩, p, e, R, s, m, args, below, meth, c, Q, A, kc, ks⟩ := E
  obtain ⟨hx, hb, hml, hown, hts, hK, hD, hA, hX, hd1, hd2, hc1, hc2⟩ := F
  intro H locs ls hP hS hl
  have hq : ∃ q0 : vw_C, z_cl[ci]? = some q0 ∧ (z_tys dA)[t]? = some (dA t, .object q0.1) ∧ 2 ≤ t := by
    rcases ht with ⟨rfl, rfl⟩ | ⟨rfl, rfl⟩
    · exact ⟨_, rfl, rfl, by omega⟩
    · exact ⟨_, rfl, rfl, by omega⟩
  obtain ⟨q0, hq1, hq2, hq3⟩ := hq
  have e : ∀ ν : z_M, z_e ad dA ν a (.inl (t, n)) = .inl (dA t, n, .inr (.inr (.inr (.inr (fun k => (ν.2.2 a k).map ad))))) := by
    intro ν
    simp only [z_e]
    rw [if_neg (by omega)]
  refine va_astq (r := q0) hx hb hK hP (hD μ) hS a t r ci (by rw [z_w_get hs, e]) hq2 (z_w_get hr) hq1 hin hdg (fun H1 locs1 hP1 hD1 hS1 => ?_)
  refine kk H1 locs1 ls ?_ hS1 hl
  rw [← z_w_set hs z_e_sr, e]
  have e2 : (fun k => ((z_sr μ a i.toNatClampNeg (some r)).2.2 a k).map ad) = va_up (fun k => (μ.2.2 a k).map ad) i.toNatClampNeg (some (ad r)) := by
    funext k
    by_cases hk : k = i.toNatClampNeg
    · simp [z_sr, va_up, hk]
    · simp [z_sr, va_up, hk]
  rw [e2]
  exact hP1
theorem j_iret {E : z_E} {own : String} {cc : ByteArray} {nL d pc : Nat} {L : z_L} {st : List Value} {μ : z_M} (F : z_F E own cc nL d) {ret : FieldType} {P : Option Value → z_M → Prop} (Rt : z_R E (some ret) P) {x : Int32} (hn : narrow ret (.int x) = .int x) (hdg : decode cc pc = .ok (.ireturn, 1)) (h : P (some (.int x)) μ) : z_J E nL pc L [.int x] μ := by
  obtain ⟨⟨l, D, ad, dA, sh⟩, p, e, R, s, m, args, below, meth, c, Q, A, kc, ks⟩ := E
  obtain ⟨hx, hb, hml, hown, hts, hK, hD, hA, hX, hd1, hd2, hc1, hc2⟩ := F
  obtain ⟨hlocks, hr, rfl⟩ := Rt
  intro H locs ls hP hS hl
  exact W.zret hx hb hr hn (fun t ht hW => ⟨⟨some (.int x), μ, rfl, h, by rw [ht]; exact hP⟩, hS.F ht⟩) hS.2.2 hdg hlocks
theorem j_lret {E : z_E} {own : String} {cc : ByteArray} {nL d pc : Nat} {L : z_L} {st : List Value} {μ : z_M} (F : z_F E own cc nL d) {P : Option Value → z_M → Prop} (Rt : z_R E (some .long) P) {x : Int64} (hdg : decode cc pc = .ok (.lreturn, 1)) (h : P (some (.long x)) μ) : z_J E nL pc L [.long x] μ := by
  obtain ⟨⟨l, D, ad, dA, sh⟩, p, e, R, s, m, args, below, meth, c, Q, A, kc, ks⟩ := E
  obtain ⟨hx, hb, hml, hown, hts, hK, hD, hA, hX, hd1, hd2, hc1, hc2⟩ := F
  obtain ⟨hlocks, hr, rfl⟩ := Rt
  intro H locs ls hP hS hl
  exact W.lret hx hb hr (fun t ht hW => ⟨⟨some (.long x), μ, rfl, h, by rw [ht]; exact hP⟩, hS.F ht⟩) hS.2.2 hdg hlocks
theorem j_vret {E : z_E} {own : String} {cc : ByteArray} {nL d pc : Nat} {L : z_L} {st : List Value} {μ : z_M} (F : z_F E own cc nL d) {P : Option Value → z_M → Prop} (Rt : z_R E none P) (hdg : decode cc pc = .ok (.return_, 1)) (h : P none μ) : z_J E nL pc L [] μ := by
  obtain ⟨⟨l, D, ad, dA, sh⟩, p, e, R, s, m, args, below, meth, c, Q, A, kc, ks⟩ := E
  obtain ⟨hx, hb, hml, hown, hts, hK, hD, hA, hX, hd1, hd2, hc1, hc2⟩ := F
  obtain ⟨hlocks, hr, rfl⟩ := Rt
  intro H locs ls hP hS hl
  exact W.vret hx hb hr (fun t ht hW => ⟨⟨none, μ, rfl, h, by rw [ht]; exact hP⟩, hS.F ht⟩) hS.2.2 hdg hlocks
