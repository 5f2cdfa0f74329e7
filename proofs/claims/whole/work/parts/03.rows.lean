section VR2
variable {G : Rg} {X : Ct} {cc : ByteArray} {nL fr lo : Nat} {own : String} {ret : Option FieldType} {cw : Cond} {ov : Option Value} {Mf M : Mm} {pc : Nat} {lv lv' : List (Nat × Value)} {st : List Value}
def jshl (x y : Int32) : Int32 := x <<< (y &&& 31)
def jshr (x y : Int32) : Int32 := x >>> (y &&& 31)
def jrem (x y : Int32) : Int32 := x - x / y * y
def jlrem (x y : Int64) : Int64 := x - x / y * y
theorem V.iadd (C : Cx G X cc nL own ret fr lo cw) {x y : Int32} (hd : decode cc pc = .ok (.iadd, 1)) (k : V G X nL ov Mf (pc + 1) lv (.int (x + y) :: st) M) : V G X nL ov Mf pc lv (.int y :: .int x :: st) M := by
  obtain ⟨p, l, e, R, s, m, args, below, meth, cd⟩ := X
  obtain ⟨hx, hb, hml, hr, hlk, hown, hts, hK, hR⟩ := C
  intro H locs ls hP hS hl
  exact lv_iadd hx hb hd (k H locs ls hP hS hl)
theorem V.isub (C : Cx G X cc nL own ret fr lo cw) {x y : Int32} (hd : decode cc pc = .ok (.isub, 1)) (k : V G X nL ov Mf (pc + 1) lv (.int (x - y) :: st) M) : V G X nL ov Mf pc lv (.int y :: .int x :: st) M := by
  obtain ⟨p, l, e, R, s, m, args, below, meth, cd⟩ := X
  obtain ⟨hx, hb, hml, hr, hlk, hown, hts, hK, hR⟩ := C
  intro H locs ls hP hS hl
  exact lv_isub hx hb hd (k H locs ls hP hS hl)
theorem V.imul (C : Cx G X cc nL own ret fr lo cw) {x y : Int32} (hd : decode cc pc = .ok (.imul, 1)) (k : V G X nL ov Mf (pc + 1) lv (.int (x * y) :: st) M) : V G X nL ov Mf pc lv (.int y :: .int x :: st) M := by
  obtain ⟨p, l, e, R, s, m, args, below, meth, cd⟩ := X
  obtain ⟨hx, hb, hml, hr, hlk, hown, hts, hK, hR⟩ := C
  intro H locs ls hP hS hl
  exact lv_imul hx hb hd (k H locs ls hP hS hl)
theorem V.iand (C : Cx G X cc nL own ret fr lo cw) {x y : Int32} (hd : decode cc pc = .ok (.iand, 1)) (k : V G X nL ov Mf (pc + 1) lv (.int (x &&& y) :: st) M) : V G X nL ov Mf pc lv (.int y :: .int x :: st) M := by
  obtain ⟨p, l, e, R, s, m, args, below, meth, cd⟩ := X
  obtain ⟨hx, hb, hml, hr, hlk, hown, hts, hK, hR⟩ := C
  intro H locs ls hP hS hl
  exact lv_iand hx hb hd (k H locs ls hP hS hl)
theorem V.ior (C : Cx G X cc nL own ret fr lo cw) {x y : Int32} (hd : decode cc pc = .ok (.ior, 1)) (k : V G X nL ov Mf (pc + 1) lv (.int (x ||| y) :: st) M) : V G X nL ov Mf pc lv (.int y :: .int x :: st) M := by
  obtain ⟨p, l, e, R, s, m, args, below, meth, cd⟩ := X
  obtain ⟨hx, hb, hml, hr, hlk, hown, hts, hK, hR⟩ := C
  intro H locs ls hP hS hl
  exact lv_ior hx hb hd (k H locs ls hP hS hl)
theorem V.ixor (C : Cx G X cc nL own ret fr lo cw) {x y : Int32} (hd : decode cc pc = .ok (.ixor, 1)) (k : V G X nL ov Mf (pc + 1) lv (.int (x ^^^ y) :: st) M) : V G X nL ov Mf pc lv (.int y :: .int x :: st) M := by
  obtain ⟨p, l, e, R, s, m, args, below, meth, cd⟩ := X
  obtain ⟨hx, hb, hml, hr, hlk, hown, hts, hK, hR⟩ := C
  intro H locs ls hP hS hl
  exact lv_ixor hx hb hd (k H locs ls hP hS hl)
theorem V.ishl (C : Cx G X cc nL own ret fr lo cw) {x y : Int32} (hd : decode cc pc = .ok (.ishl, 1)) (k : V G X nL ov Mf (pc + 1) lv (.int (jshl x y) :: st) M) : V G X nL ov Mf pc lv (.int y :: .int x :: st) M := by
  obtain ⟨p, l, e, R, s, m, args, below, meth, cd⟩ := X
  obtain ⟨hx, hb, hml, hr, hlk, hown, hts, hK, hR⟩ := C
  intro H locs ls hP hS hl
  exact lv_ishl hx hb hd (k H locs ls hP hS hl)
theorem V.ishr (C : Cx G X cc nL own ret fr lo cw) {x y : Int32} (hd : decode cc pc = .ok (.ishr, 1)) (k : V G X nL ov Mf (pc + 1) lv (.int (jshr x y) :: st) M) : V G X nL ov Mf pc lv (.int y :: .int x :: st) M := by
  obtain ⟨p, l, e, R, s, m, args, below, meth, cd⟩ := X
  obtain ⟨hx, hb, hml, hr, hlk, hown, hts, hK, hR⟩ := C
  intro H locs ls hP hS hl
  exact lv_ishr hx hb hd (k H locs ls hP hS hl)
theorem V.ladd (C : Cx G X cc nL own ret fr lo cw) {x y : Int64} (hd : decode cc pc = .ok (.ladd, 1)) (k : V G X nL ov Mf (pc + 1) lv (.long (x + y) :: st) M) : V G X nL ov Mf pc lv (.long y :: .long x :: st) M := by
  obtain ⟨p, l, e, R, s, m, args, below, meth, cd⟩ := X
  obtain ⟨hx, hb, hml, hr, hlk, hown, hts, hK, hR⟩ := C
  intro H locs ls hP hS hl
  exact lv_ladd hx hb hd (k H locs ls hP hS hl)
theorem V.lsub (C : Cx G X cc nL own ret fr lo cw) {x y : Int64} (hd : decode cc pc = .ok (.lsub, 1)) (k : V G X nL ov Mf (pc + 1) lv (.long (x - y) :: st) M) : V G X nL ov Mf pc lv (.long y :: .long x :: st) M := by
  obtain ⟨p, l, e, R, s, m, args, below, meth, cd⟩ := X
  obtain ⟨hx, hb, hml, hr, hlk, hown, hts, hK, hR⟩ := C
  intro H locs ls hP hS hl
  exact lv_lsub hx hb hd (k H locs ls hP hS hl)
theorem V.lmul (C : Cx G X cc nL own ret fr lo cw) {x y : Int64} (hd : decode cc pc = .ok (.lmul, 1)) (k : V G X nL ov Mf (pc + 1) lv (.long (x * y) :: st) M) : V G X nL ov Mf pc lv (.long y :: .long x :: st) M := by
  obtain ⟨p, l, e, R, s, m, args, below, meth, cd⟩ := X
  obtain ⟨hx, hb, hml, hr, hlk, hown, hts, hK, hR⟩ := C
  intro H locs ls hP hS hl
  exact lv_lmul hx hb hd (k H locs ls hP hS hl)
theorem V.land (C : Cx G X cc nL own ret fr lo cw) {x y : Int64} (hd : decode cc pc = .ok (.land, 1)) (k : V G X nL ov Mf (pc + 1) lv (.long (x &&& y) :: st) M) : V G X nL ov Mf pc lv (.long y :: .long x :: st) M := by
  obtain ⟨p, l, e, R, s, m, args, below, meth, cd⟩ := X
  obtain ⟨hx, hb, hml, hr, hlk, hown, hts, hK, hR⟩ := C
  intro H locs ls hP hS hl
  exact lv_land hx hb hd (k H locs ls hP hS hl)
theorem V.lor (C : Cx G X cc nL own ret fr lo cw) {x y : Int64} (hd : decode cc pc = .ok (.lor, 1)) (k : V G X nL ov Mf (pc + 1) lv (.long (x ||| y) :: st) M) : V G X nL ov Mf pc lv (.long y :: .long x :: st) M := by
  obtain ⟨p, l, e, R, s, m, args, below, meth, cd⟩ := X
  obtain ⟨hx, hb, hml, hr, hlk, hown, hts, hK, hR⟩ := C
  intro H locs ls hP hS hl
  exact lv_lor hx hb hd (k H locs ls hP hS hl)
theorem V.idiv (C : Cx G X cc nL own ret fr lo cw) {x y : Int32} (hn : ¬ y = 0) (hd : decode cc pc = .ok (.idiv, 1)) (k : V G X nL ov Mf (pc + 1) lv (.int (x / y) :: st) M) : V G X nL ov Mf pc lv (.int y :: .int x :: st) M := by
  obtain ⟨p, l, e, R, s, m, args, below, meth, cd⟩ := X
  obtain ⟨hx, hb, hml, hr, hlk, hown, hts, hK, hR⟩ := C
  intro H locs ls hP hS hl
  exact lv_idiv hx hb hd hn (k H locs ls hP hS hl)
theorem V.irem (C : Cx G X cc nL own ret fr lo cw) {x y : Int32} (hn : ¬ y = 0) (hd : decode cc pc = .ok (.irem, 1)) (k : V G X nL ov Mf (pc + 1) lv (.int (jrem x y) :: st) M) : V G X nL ov Mf pc lv (.int y :: .int x :: st) M := by
  obtain ⟨p, l, e, R, s, m, args, below, meth, cd⟩ := X
  obtain ⟨hx, hb, hml, hr, hlk, hown, hts, hK, hR⟩ := C
  intro H locs ls hP hS hl
  exact lv_irem hx hb hd hn (k H locs ls hP hS hl)
theorem V.ldiv (C : Cx G X cc nL own ret fr lo cw) {x y : Int64} (hn : ¬ y = 0) (hd : decode cc pc = .ok (.ldiv, 1)) (k : V G X nL ov Mf (pc + 1) lv (.long (x / y) :: st) M) : V G X nL ov Mf pc lv (.long y :: .long x :: st) M := by
  obtain ⟨p, l, e, R, s, m, args, below, meth, cd⟩ := X
  obtain ⟨hx, hb, hml, hr, hlk, hown, hts, hK, hR⟩ := C
  intro H locs ls hP hS hl
  exact lv_ldiv hx hb hd hn (k H locs ls hP hS hl)
theorem V.lrem (C : Cx G X cc nL own ret fr lo cw) {x y : Int64} (hn : ¬ y = 0) (hd : decode cc pc = .ok (.lrem, 1)) (k : V G X nL ov Mf (pc + 1) lv (.long (jlrem x y) :: st) M) : V G X nL ov Mf pc lv (.long y :: .long x :: st) M := by
  obtain ⟨p, l, e, R, s, m, args, below, meth, cd⟩ := X
  obtain ⟨hx, hb, hml, hr, hlk, hown, hts, hK, hR⟩ := C
  intro H locs ls hP hS hl
  exact lv_lrem hx hb hd hn (k H locs ls hP hS hl)
theorem V.ineg (C : Cx G X cc nL own ret fr lo cw) {x : Int32} (hd : decode cc pc = .ok (.ineg, 1)) (k : V G X nL ov Mf (pc + 1) lv (.int (-x) :: st) M) : V G X nL ov Mf pc lv (.int x :: st) M := by
  obtain ⟨p, l, e, R, s, m, args, below, meth, cd⟩ := X
  obtain ⟨hx, hb, hml, hr, hlk, hown, hts, hK, hR⟩ := C
  intro H locs ls hP hS hl
  exact lv_ineg hx hb hd (k H locs ls hP hS hl)
theorem V.i2l (C : Cx G X cc nL own ret fr lo cw) {x : Int32} (hd : decode cc pc = .ok (.i2l, 1)) (k : V G X nL ov Mf (pc + 1) lv (.long x.toInt64 :: st) M) : V G X nL ov Mf pc lv (.int x :: st) M := by
  obtain ⟨p, l, e, R, s, m, args, below, meth, cd⟩ := X
  obtain ⟨hx, hb, hml, hr, hlk, hown, hts, hK, hR⟩ := C
  intro H locs ls hP hS hl
  exact lv_i2l hx hb hd rfl (k H locs ls hP hS hl)
theorem V.l2i (C : Cx G X cc nL own ret fr lo cw) {x : Int64} (hd : decode cc pc = .ok (.l2i, 1)) (k : V G X nL ov Mf (pc + 1) lv (.int x.toInt32 :: st) M) : V G X nL ov Mf pc lv (.long x :: st) M := by
  obtain ⟨p, l, e, R, s, m, args, below, meth, cd⟩ := X
  obtain ⟨hx, hb, hml, hr, hlk, hown, hts, hK, hR⟩ := C
  intro H locs ls hP hS hl
  exact lv_l2i hx hb hd rfl (k H locs ls hP hS hl)
def jushr (x y : Int32) : Int32 := (x.toUInt32 >>> (y.toUInt32 &&& Int32.toUInt32 31)).toInt32
def jlushr (x : Int64) (y : Int32) : Int64 := (x.toUInt64 >>> (y.toInt64.toUInt64 &&& Int64.toUInt64 63)).toInt64
def jlshl (x : Int64) (y : Int32) : Int64 := x <<< (y.toInt64 &&& 63)
theorem V.iushr (C : Cx G X cc nL own ret fr lo cw) {x y : Int32} (hd : decode cc pc = .ok (.iushr, 1)) (k : V G X nL ov Mf (pc + 1) lv (.int (jushr x y) :: st) M) : V G X nL ov Mf pc lv (.int y :: .int x :: st) M := by
  obtain ⟨p, l, e, R, s, m, args, below, meth, cd⟩ := X
  obtain ⟨hx, hb, hml, hr, hlk, hown, hts, hK, hR⟩ := C
  intro H locs ls hP hS hl
  exact lv_iushr hx hb hd rfl (k H locs ls hP hS hl)
theorem V.lushr (C : Cx G X cc nL own ret fr lo cw) {x : Int64} {y : Int32} (hd : decode cc pc = .ok (.lushr, 1)) (k : V G X nL ov Mf (pc + 1) lv (.long (jlushr x y) :: st) M) : V G X nL ov Mf pc lv (.int y :: .long x :: st) M := by
  obtain ⟨p, l, e, R, s, m, args, below, meth, cd⟩ := X
  obtain ⟨hx, hb, hml, hr, hlk, hown, hts, hK, hR⟩ := C
  intro H locs ls hP hS hl
  exact lv_lushr hx hb hd rfl (k H locs ls hP hS hl)
theorem V.lshl (C : Cx G X cc nL own ret fr lo cw) {x : Int64} {y : Int32} (hd : decode cc pc = .ok (.lshl, 1)) (k : V G X nL ov Mf (pc + 1) lv (.long (jlshl x y) :: st) M) : V G X nL ov Mf pc lv (.int y :: .long x :: st) M := by
  obtain ⟨p, l, e, R, s, m, args, below, meth, cd⟩ := X
  obtain ⟨hx, hb, hml, hr, hlk, hown, hts, hK, hR⟩ := C
  intro H locs ls hP hS hl
  exact lv_lshl hx hb hd rfl (k H locs ls hP hS hl)
theorem V.lcmp (C : Cx G X cc nL own ret fr lo cw) {x y : Int64} (hd : decode cc pc = .ok (.lcmp, 1)) (k : V G X nL ov Mf (pc + 1) lv (.int (lg_cmp x y) :: st) M) : V G X nL ov Mf pc lv (.long y :: .long x :: st) M := by
  obtain ⟨p, l, e, R, s, m, args, below, meth, cd⟩ := X
  obtain ⟨hx, hb, hml, hr, hlk, hown, hts, hK, hR⟩ := C
  intro H locs ls hP hS hl
  exact W.lcmp hx hb hd (k H locs ls hP hS hl)
theorem V.dup (C : Cx G X cc nL own ret fr lo cw) {v : Value} (hv : v.category = 1) (hd : decode cc pc = .ok (.dup, 1)) (k : V G X nL ov Mf (pc + 1) lv (v :: v :: st) M) : V G X nL ov Mf pc lv (v :: st) M := by
  obtain ⟨p, l, e, R, s, m, args, below, meth, cd⟩ := X
  obtain ⟨hx, hb, hml, hr, hlk, hown, hts, hK, hR⟩ := C
  intro H locs ls hP hS hl
  exact lv_dup hx hb hd hv (k H locs ls hP hS hl)
theorem V.dup2 (C : Cx G X cc nL own ret fr lo cw) {v w : Value} (hv : v.category = 1) (hw : w.category = 1) (hd : decode cc pc = .ok (.dup2, 1)) (k : V G X nL ov Mf (pc + 1) lv (v :: w :: v :: w :: st) M) : V G X nL ov Mf pc lv (v :: w :: st) M := by
  obtain ⟨p, l, e, R, s, m, args, below, meth, cd⟩ := X
  obtain ⟨hx, hb, hml, hr, hlk, hown, hts, hK, hR⟩ := C
  intro H locs ls hP hS hl
  exact lv_dup2_11 hx hb hd hv hw (k H locs ls hP hS hl)
theorem V.iload_n (C : Cx G X cc nL own ret fr lo cw) {i : Fin 4} {x : Int32} (q : Nat) (hq : lv[q]? = some ((i : Nat), .int x)) (hd : decode cc pc = .ok (.iload_n i, 1)) (k : V G X nL ov Mf (pc + 1) lv (.int x :: st) M) : V G X nL ov Mf pc lv st M := by
  obtain ⟨p, l, e, R, s, m, args, below, meth, cd⟩ := X
  obtain ⟨hx, hb, hml, hr, hlk, hown, hts, hK, hR⟩ := C
  intro H locs ls hP hS hl
  exact lv_iload_n hx hb hd rfl (lv_at hl q hq) (k H locs ls hP hS hl)
theorem V.iload (C : Cx G X cc nL own ret fr lo cw) {i : Nat} {x : Int32} (q : Nat) (hq : lv[q]? = some (i, .int x)) (hd : decode cc pc = .ok (.iload i, 2)) (k : V G X nL ov Mf (pc + 2) lv (.int x :: st) M) : V G X nL ov Mf pc lv st M := by
  obtain ⟨p, l, e, R, s, m, args, below, meth, cd⟩ := X
  obtain ⟨hx, hb, hml, hr, hlk, hown, hts, hK, hR⟩ := C
  intro H locs ls hP hS hl
  exact lv_iload hx hb hd (lv_at hl q hq) (k H locs ls hP hS hl)
theorem V.lload_n (C : Cx G X cc nL own ret fr lo cw) {i : Fin 4} {x : Int64} (q : Nat) (hq : lv[q]? = some ((i : Nat), .long x)) (hd : decode cc pc = .ok (.lload_n i, 1)) (k : V G X nL ov Mf (pc + 1) lv (.long x :: st) M) : V G X nL ov Mf pc lv st M := by
  obtain ⟨p, l, e, R, s, m, args, below, meth, cd⟩ := X
  obtain ⟨hx, hb, hml, hr, hlk, hown, hts, hK, hR⟩ := C
  intro H locs ls hP hS hl
  exact lv_lload_n hx hb hd rfl (lv_at hl q hq) (k H locs ls hP hS hl)
theorem V.lload (C : Cx G X cc nL own ret fr lo cw) {i : Nat} {x : Int64} (q : Nat) (hq : lv[q]? = some (i, .long x)) (hd : decode cc pc = .ok (.lload i, 2)) (k : V G X nL ov Mf (pc + 2) lv (.long x :: st) M) : V G X nL ov Mf pc lv st M := by
  obtain ⟨p, l, e, R, s, m, args, below, meth, cd⟩ := X
  obtain ⟨hx, hb, hml, hr, hlk, hown, hts, hK, hR⟩ := C
  intro H locs ls hP hS hl
  exact lv_lload hx hb hd (lv_at hl q hq) (k H locs ls hP hS hl)
theorem V.aload_n (C : Cx G X cc nL own ret fr lo cw) {i : Fin 4} {x : Nat} (q : Nat) (hq : lv[q]? = some ((i : Nat), .ref x)) (hd : decode cc pc = .ok (.aload_n i, 1)) (k : V G X nL ov Mf (pc + 1) lv (.ref x :: st) M) : V G X nL ov Mf pc lv st M := by
  obtain ⟨p, l, e, R, s, m, args, below, meth, cd⟩ := X
  obtain ⟨hx, hb, hml, hr, hlk, hown, hts, hK, hR⟩ := C
  intro H locs ls hP hS hl
  exact lv_aload_n hx hb hd rfl (lv_at hl q hq) (k H locs ls hP hS hl)
theorem V.aload (C : Cx G X cc nL own ret fr lo cw) {i : Nat} {x : Nat} (q : Nat) (hq : lv[q]? = some (i, .ref x)) (hd : decode cc pc = .ok (.aload i, 2)) (k : V G X nL ov Mf (pc + 2) lv (.ref x :: st) M) : V G X nL ov Mf pc lv st M := by
  obtain ⟨p, l, e, R, s, m, args, below, meth, cd⟩ := X
  obtain ⟨hx, hb, hml, hr, hlk, hown, hts, hK, hR⟩ := C
  intro H locs ls hP hS hl
  exact lv_aload hx hb hd (lv_at hl q hq) (k H locs ls hP hS hl)
theorem V.istore_n (C : Cx G X cc nL own ret fr lo cw) {i : Fin 4} {x : Int32} (hn : (i : Nat) < nL) (hl' : ((i : Nat), Value.int x) :: lv.filter (fun q => !(q.1 == i) && !(q.1 + 1 == i && q.2.category == 2)) = lv') (hd : decode cc pc = .ok (.istore_n i, 1)) (k : V G X nL ov Mf (pc + 1) lv' st M) : V G X nL ov Mf pc lv (.int x :: st) M := by
  obtain ⟨p, l, e, R, s, m, args, below, meth, cd⟩ := X
  obtain ⟨hx, hb, hml, hr, hlk, hown, hts, hK, hR⟩ := C
  intro H locs ls hP hS hl
  exact lv_istore_n hx hb hd rfl hl hn hl' (fun ls hl => k H locs ls hP hS hl)
theorem V.istore (C : Cx G X cc nL own ret fr lo cw) {i : Nat} {x : Int32} (hn : i < nL) (hl' : (i, Value.int x) :: lv.filter (fun q => !(q.1 == i) && !(q.1 + 1 == i && q.2.category == 2)) = lv') (hd : decode cc pc = .ok (.istore i, 2)) (k : V G X nL ov Mf (pc + 2) lv' st M) : V G X nL ov Mf pc lv (.int x :: st) M := by
  obtain ⟨p, l, e, R, s, m, args, below, meth, cd⟩ := X
  obtain ⟨hx, hb, hml, hr, hlk, hown, hts, hK, hR⟩ := C
  intro H locs ls hP hS hl
  exact lv_istore hx hb hd hl hn hl' (fun ls hl => k H locs ls hP hS hl)
theorem V.lstore_n (C : Cx G X cc nL own ret fr lo cw) {i : Fin 4} {x : Int64} (hn : (i : Nat) + 1 < nL) (hl' : ((i : Nat), Value.long x) :: lv.filter (fun q => !(q.1 == i) && (!(q.1 == i + 1) && !(q.1 + 1 == i && q.2.category == 2))) = lv') (hd : decode cc pc = .ok (.lstore_n i, 1)) (k : V G X nL ov Mf (pc + 1) lv' st M) : V G X nL ov Mf pc lv (.long x :: st) M := by
  obtain ⟨p, l, e, R, s, m, args, below, meth, cd⟩ := X
  obtain ⟨hx, hb, hml, hr, hlk, hown, hts, hK, hR⟩ := C
  intro H locs ls hP hS hl
  exact lv_lstore_n hx hb hd rfl hl hn hl' (fun ls hl => k H locs ls hP hS hl)
theorem V.lstore (C : Cx G X cc nL own ret fr lo cw) {i : Nat} {x : Int64} (hn : i + 1 < nL) (hl' : (i, Value.long x) :: lv.filter (fun q => !(q.1 == i) && (!(q.1 == i + 1) && !(q.1 + 1 == i && q.2.category == 2))) = lv') (hd : decode cc pc = .ok (.lstore i, 2)) (k : V G X nL ov Mf (pc + 2) lv' st M) : V G X nL ov Mf pc lv (.long x :: st) M := by
  obtain ⟨p, l, e, R, s, m, args, below, meth, cd⟩ := X
  obtain ⟨hx, hb, hml, hr, hlk, hown, hts, hK, hR⟩ := C
  intro H locs ls hP hS hl
  exact lv_lstore hx hb hd hl hn hl' (fun ls hl => k H locs ls hP hS hl)
theorem V.iinc (C : Cx G X cc nL own ret fr lo cw) {i : Nat} {n : Int} {x : Int32} (v : Int32) (q : Nat) (hq : lv[q]? = some (i, .int x)) (hv : x + Int32.ofInt n = v) (hn : i < nL) (hl' : (i, Value.int v) :: lv.filter (fun q => !(q.1 == i) && !(q.1 + 1 == i && q.2.category == 2)) = lv') (hd : decode cc pc = .ok (.iinc i n, 3)) (k : V G X nL ov Mf (pc + 3) lv' st M) : V G X nL ov Mf pc lv st M := by
  obtain ⟨p, l, e, R, s, m, args, below, meth, cd⟩ := X
  obtain ⟨hx, hb, hml, hr, hlk, hown, hts, hK, hR⟩ := C
  intro H locs ls hP hS hl
  exact lv_iinc hx hb hd hl hq hv hn hl' (fun ls hl => k H locs ls hP hS hl)
theorem V.if_eqT (C : Cx G X cc nL own ret fr lo cw) {x : Int32} {off : Int} (tgt : Nat) (h : x = 0) (ht : (pc : Int) + off = (tgt : Int)) (hd : decode cc pc = .ok (.ifCond .eq off, 3)) (k : V G X nL ov Mf tgt lv st M) : V G X nL ov Mf pc lv (.int x :: st) M := by
  obtain ⟨p, l, e, R, s, m, args, below, meth, cd⟩ := X
  obtain ⟨hx, hb, hml, hr, hlk, hown, hts, hK, hR⟩ := C
  intro H locs ls hP hS hl
  exact lv_if_eq hx hb hd ht (fun _ => k H locs ls hP hS hl) (fun z => absurd h z)
theorem V.if_eqF (C : Cx G X cc nL own ret fr lo cw) {x : Int32} {off : Int} (tgt : Nat) (h : ¬ x = 0) (ht : (pc : Int) + off = (tgt : Int)) (hd : decode cc pc = .ok (.ifCond .eq off, 3)) (k : V G X nL ov Mf (pc + 3) lv st M) : V G X nL ov Mf pc lv (.int x :: st) M := by
  obtain ⟨p, l, e, R, s, m, args, below, meth, cd⟩ := X
  obtain ⟨hx, hb, hml, hr, hlk, hown, hts, hK, hR⟩ := C
  intro H locs ls hP hS hl
  exact lv_if_eq hx hb hd ht (fun z => absurd z h) (fun _ => k H locs ls hP hS hl)
theorem V.ic_eqT (C : Cx G X cc nL own ret fr lo cw) {x y : Int32} {off : Int} (tgt : Nat) (h : x = y) (ht : (pc : Int) + off = (tgt : Int)) (hd : decode cc pc = .ok (.if_icmp .eq off, 3)) (k : V G X nL ov Mf tgt lv st M) : V G X nL ov Mf pc lv (.int y :: .int x :: st) M := by
  obtain ⟨p, l, e, R, s, m, args, below, meth, cd⟩ := X
  obtain ⟨hx, hb, hml, hr, hlk, hown, hts, hK, hR⟩ := C
  intro H locs ls hP hS hl
  exact lv_icmp_eq hx hb hd ht (fun _ => k H locs ls hP hS hl) (fun z => absurd h z)
theorem V.ic_eqF (C : Cx G X cc nL own ret fr lo cw) {x y : Int32} {off : Int} (tgt : Nat) (h : ¬ x = y) (ht : (pc : Int) + off = (tgt : Int)) (hd : decode cc pc = .ok (.if_icmp .eq off, 3)) (k : V G X nL ov Mf (pc + 3) lv st M) : V G X nL ov Mf pc lv (.int y :: .int x :: st) M := by
  obtain ⟨p, l, e, R, s, m, args, below, meth, cd⟩ := X
  obtain ⟨hx, hb, hml, hr, hlk, hown, hts, hK, hR⟩ := C
  intro H locs ls hP hS hl
  exact lv_icmp_eq hx hb hd ht (fun z => absurd z h) (fun _ => k H locs ls hP hS hl)
theorem V.if_neT (C : Cx G X cc nL own ret fr lo cw) {x : Int32} {off : Int} (tgt : Nat) (h : ¬ x = 0) (ht : (pc : Int) + off = (tgt : Int)) (hd : decode cc pc = .ok (.ifCond .ne off, 3)) (k : V G X nL ov Mf tgt lv st M) : V G X nL ov Mf pc lv (.int x :: st) M := by
  obtain ⟨p, l, e, R, s, m, args, below, meth, cd⟩ := X
  obtain ⟨hx, hb, hml, hr, hlk, hown, hts, hK, hR⟩ := C
  intro H locs ls hP hS hl
  exact lv_if_ne hx hb hd ht (fun _ => k H locs ls hP hS hl) (fun z => absurd z h)
theorem V.if_neF (C : Cx G X cc nL own ret fr lo cw) {x : Int32} {off : Int} (tgt : Nat) (h : x = 0) (ht : (pc : Int) + off = (tgt : Int)) (hd : decode cc pc = .ok (.ifCond .ne off, 3)) (k : V G X nL ov Mf (pc + 3) lv st M) : V G X nL ov Mf pc lv (.int x :: st) M := by
  obtain ⟨p, l, e, R, s, m, args, below, meth, cd⟩ := X
  obtain ⟨hx, hb, hml, hr, hlk, hown, hts, hK, hR⟩ := C
  intro H locs ls hP hS hl
  exact lv_if_ne hx hb hd ht (fun z => absurd h z) (fun _ => k H locs ls hP hS hl)
theorem V.ic_neT (C : Cx G X cc nL own ret fr lo cw) {x y : Int32} {off : Int} (tgt : Nat) (h : ¬ x = y) (ht : (pc : Int) + off = (tgt : Int)) (hd : decode cc pc = .ok (.if_icmp .ne off, 3)) (k : V G X nL ov Mf tgt lv st M) : V G X nL ov Mf pc lv (.int y :: .int x :: st) M := by
  obtain ⟨p, l, e, R, s, m, args, below, meth, cd⟩ := X
  obtain ⟨hx, hb, hml, hr, hlk, hown, hts, hK, hR⟩ := C
  intro H locs ls hP hS hl
  exact lv_icmp_ne hx hb hd ht (fun _ => k H locs ls hP hS hl) (fun z => absurd z h)
theorem V.ic_neF (C : Cx G X cc nL own ret fr lo cw) {x y : Int32} {off : Int} (tgt : Nat) (h : x = y) (ht : (pc : Int) + off = (tgt : Int)) (hd : decode cc pc = .ok (.if_icmp .ne off, 3)) (k : V G X nL ov Mf (pc + 3) lv st M) : V G X nL ov Mf pc lv (.int y :: .int x :: st) M := by
  obtain ⟨p, l, e, R, s, m, args, below, meth, cd⟩ := X
  obtain ⟨hx, hb, hml, hr, hlk, hown, hts, hK, hR⟩ := C
  intro H locs ls hP hS hl
  exact lv_icmp_ne hx hb hd ht (fun z => absurd h z) (fun _ => k H locs ls hP hS hl)
theorem V.if_ltT (C : Cx G X cc nL own ret fr lo cw) {x : Int32} {off : Int} (tgt : Nat) (h : x < 0) (ht : (pc : Int) + off = (tgt : Int)) (hd : decode cc pc = .ok (.ifCond .lt off, 3)) (k : V G X nL ov Mf tgt lv st M) : V G X nL ov Mf pc lv (.int x :: st) M := by
  obtain ⟨p, l, e, R, s, m, args, below, meth, cd⟩ := X
  obtain ⟨hx, hb, hml, hr, hlk, hown, hts, hK, hR⟩ := C
  intro H locs ls hP hS hl
  exact lv_if_lt hx hb hd ht (fun _ => k H locs ls hP hS hl) (fun z => absurd h z)
theorem V.if_ltF (C : Cx G X cc nL own ret fr lo cw) {x : Int32} {off : Int} (tgt : Nat) (h : ¬ x < 0) (ht : (pc : Int) + off = (tgt : Int)) (hd : decode cc pc = .ok (.ifCond .lt off, 3)) (k : V G X nL ov Mf (pc + 3) lv st M) : V G X nL ov Mf pc lv (.int x :: st) M := by
  obtain ⟨p, l, e, R, s, m, args, below, meth, cd⟩ := X
  obtain ⟨hx, hb, hml, hr, hlk, hown, hts, hK, hR⟩ := C
  intro H locs ls hP hS hl
  exact lv_if_lt hx hb hd ht (fun z => absurd z h) (fun _ => k H locs ls hP hS hl)
theorem V.ic_ltT (C : Cx G X cc nL own ret fr lo cw) {x y : Int32} {off : Int} (tgt : Nat) (h : x < y) (ht : (pc : Int) + off = (tgt : Int)) (hd : decode cc pc = .ok (.if_icmp .lt off, 3)) (k : V G X nL ov Mf tgt lv st M) : V G X nL ov Mf pc lv (.int y :: .int x :: st) M := by
  obtain ⟨p, l, e, R, s, m, args, below, meth, cd⟩ := X
  obtain ⟨hx, hb, hml, hr, hlk, hown, hts, hK, hR⟩ := C
  intro H locs ls hP hS hl
  exact lv_icmp_lt hx hb hd ht (fun _ => k H locs ls hP hS hl) (fun z => absurd h z)
theorem V.ic_ltF (C : Cx G X cc nL own ret fr lo cw) {x y : Int32} {off : Int} (tgt : Nat) (h : ¬ x < y) (ht : (pc : Int) + off = (tgt : Int)) (hd : decode cc pc = .ok (.if_icmp .lt off, 3)) (k : V G X nL ov Mf (pc + 3) lv st M) : V G X nL ov Mf pc lv (.int y :: .int x :: st) M := by
  obtain ⟨p, l, e, R, s, m, args, below, meth, cd⟩ := X
  obtain ⟨hx, hb, hml, hr, hlk, hown, hts, hK, hR⟩ := C
  intro H locs ls hP hS hl
  exact lv_icmp_lt hx hb hd ht (fun z => absurd z h) (fun _ => k H locs ls hP hS hl)
theorem V.if_geT (C : Cx G X cc nL own ret fr lo cw) {x : Int32} {off : Int} (tgt : Nat) (h : 0 ≤ x) (ht : (pc : Int) + off = (tgt : Int)) (hd : decode cc pc = .ok (.ifCond .ge off, 3)) (k : V G X nL ov Mf tgt lv st M) : V G X nL ov Mf pc lv (.int x :: st) M := by
  obtain ⟨p, l, e, R, s, m, args, below, meth, cd⟩ := X
  obtain ⟨hx, hb, hml, hr, hlk, hown, hts, hK, hR⟩ := C
  intro H locs ls hP hS hl
  exact lv_if_ge hx hb hd ht (fun _ => k H locs ls hP hS hl) (fun z => absurd h z)
theorem V.if_geF (C : Cx G X cc nL own ret fr lo cw) {x : Int32} {off : Int} (tgt : Nat) (h : ¬ 0 ≤ x) (ht : (pc : Int) + off = (tgt : Int)) (hd : decode cc pc = .ok (.ifCond .ge off, 3)) (k : V G X nL ov Mf (pc + 3) lv st M) : V G X nL ov Mf pc lv (.int x :: st) M := by
  obtain ⟨p, l, e, R, s, m, args, below, meth, cd⟩ := X
  obtain ⟨hx, hb, hml, hr, hlk, hown, hts, hK, hR⟩ := C
  intro H locs ls hP hS hl
  exact lv_if_ge hx hb hd ht (fun z => absurd z h) (fun _ => k H locs ls hP hS hl)
theorem V.ic_geT (C : Cx G X cc nL own ret fr lo cw) {x y : Int32} {off : Int} (tgt : Nat) (h : y ≤ x) (ht : (pc : Int) + off = (tgt : Int)) (hd : decode cc pc = .ok (.if_icmp .ge off, 3)) (k : V G X nL ov Mf tgt lv st M) : V G X nL ov Mf pc lv (.int y :: .int x :: st) M := by
  obtain ⟨p, l, e, R, s, m, args, below, meth, cd⟩ := X
  obtain ⟨hx, hb, hml, hr, hlk, hown, hts, hK, hR⟩ := C
  intro H locs ls hP hS hl
  exact lv_icmp_ge hx hb hd ht (fun _ => k H locs ls hP hS hl) (fun z => absurd h z)
theorem V.ic_geF (C : Cx G X cc nL own ret fr lo cw) {x y : Int32} {off : Int} (tgt : Nat) (h : ¬ y ≤ x) (ht : (pc : Int) + off = (tgt : Int)) (hd : decode cc pc = .ok (.if_icmp .ge off, 3)) (k : V G X nL ov Mf (pc + 3) lv st M) : V G X nL ov Mf pc lv (.int y :: .int x :: st) M := by
  obtain ⟨p, l, e, R, s, m, args, below, meth, cd⟩ := X
  obtain ⟨hx, hb, hml, hr, hlk, hown, hts, hK, hR⟩ := C
  intro H locs ls hP hS hl
  exact lv_icmp_ge hx hb hd ht (fun z => absurd z h) (fun _ => k H locs ls hP hS hl)
theorem V.if_gtT (C : Cx G X cc nL own ret fr lo cw) {x : Int32} {off : Int} (tgt : Nat) (h : 0 < x) (ht : (pc : Int) + off = (tgt : Int)) (hd : decode cc pc = .ok (.ifCond .gt off, 3)) (k : V G X nL ov Mf tgt lv st M) : V G X nL ov Mf pc lv (.int x :: st) M := by
  obtain ⟨p, l, e, R, s, m, args, below, meth, cd⟩ := X
  obtain ⟨hx, hb, hml, hr, hlk, hown, hts, hK, hR⟩ := C
  intro H locs ls hP hS hl
  exact lv_if_gt hx hb hd ht (fun _ => k H locs ls hP hS hl) (fun z => absurd h z)
theorem V.if_gtF (C : Cx G X cc nL own ret fr lo cw) {x : Int32} {off : Int} (tgt : Nat) (h : ¬ 0 < x) (ht : (pc : Int) + off = (tgt : Int)) (hd : decode cc pc = .ok (.ifCond .gt off, 3)) (k : V G X nL ov Mf (pc + 3) lv st M) : V G X nL ov Mf pc lv (.int x :: st) M := by
  obtain ⟨p, l, e, R, s, m, args, below, meth, cd⟩ := X
  obtain ⟨hx, hb, hml, hr, hlk, hown, hts, hK, hR⟩ := C
  intro H locs ls hP hS hl
  exact lv_if_gt hx hb hd ht (fun z => absurd z h) (fun _ => k H locs ls hP hS hl)
theorem V.ic_gtT (C : Cx G X cc nL own ret fr lo cw) {x y : Int32} {off : Int} (tgt : Nat) (h : y < x) (ht : (pc : Int) + off = (tgt : Int)) (hd : decode cc pc = .ok (.if_icmp .gt off, 3)) (k : V G X nL ov Mf tgt lv st M) : V G X nL ov Mf pc lv (.int y :: .int x :: st) M := by
  obtain ⟨p, l, e, R, s, m, args, below, meth, cd⟩ := X
  obtain ⟨hx, hb, hml, hr, hlk, hown, hts, hK, hR⟩ := C
  intro H locs ls hP hS hl
  exact lv_icmp_gt hx hb hd ht (fun _ => k H locs ls hP hS hl) (fun z => absurd h z)
theorem V.ic_gtF (C : Cx G X cc nL own ret fr lo cw) {x y : Int32} {off : Int} (tgt : Nat) (h : ¬ y < x) (ht : (pc : Int) + off = (tgt : Int)) (hd : decode cc pc = .ok (.if_icmp .gt off, 3)) (k : V G X nL ov Mf (pc + 3) lv st M) : V G X nL ov Mf pc lv (.int y :: .int x :: st) M := by
  obtain ⟨p, l, e, R, s, m, args, below, meth, cd⟩ := X
  obtain ⟨hx, hb, hml, hr, hlk, hown, hts, hK, hR⟩ := C
  intro H locs ls hP hS hl
  exact lv_icmp_gt hx hb hd ht (fun z => absurd z h) (fun _ => k H locs ls hP hS hl)
theorem V.if_leT (C : Cx G X cc nL own ret fr lo cw) {x : Int32} {off : Int} (tgt : Nat) (h : x ≤ 0) (ht : (pc : Int) + off = (tgt : Int)) (hd : decode cc pc = .ok (.ifCond .le off, 3)) (k : V G X nL ov Mf tgt lv st M) : V G X nL ov Mf pc lv (.int x :: st) M := by
  obtain ⟨p, l, e, R, s, m, args, below, meth, cd⟩ := X
  obtain ⟨hx, hb, hml, hr, hlk, hown, hts, hK, hR⟩ := C
  intro H locs ls hP hS hl
  exact lv_if_le hx hb hd ht (fun _ => k H locs ls hP hS hl) (fun z => absurd h z)
theorem V.if_leF (C : Cx G X cc nL own ret fr lo cw) {x : Int32} {off : Int} (tgt : Nat) (h : ¬ x ≤ 0) (ht : (pc : Int) + off = (tgt : Int)) (hd : decode cc pc = .ok (.ifCond .le off, 3)) (k : V G X nL ov Mf (pc + 3) lv st M) : V G X nL ov Mf pc lv (.int x :: st) M := by
  obtain ⟨p, l, e, R, s, m, args, below, meth, cd⟩ := X
  obtain ⟨hx, hb, hml, hr, hlk, hown, hts, hK, hR⟩ := C
  intro H locs ls hP hS hl
  exact lv_if_le hx hb hd ht (fun z => absurd z h) (fun _ => k H locs ls hP hS hl)
theorem V.ic_leT (C : Cx G X cc nL own ret fr lo cw) {x y : Int32} {off : Int} (tgt : Nat) (h : x ≤ y) (ht : (pc : Int) + off = (tgt : Int)) (hd : decode cc pc = .ok (.if_icmp .le off, 3)) (k : V G X nL ov Mf tgt lv st M) : V G X nL ov Mf pc lv (.int y :: .int x :: st) M := by
  obtain ⟨p, l, e, R, s, m, args, below, meth, cd⟩ := X
  obtain ⟨hx, hb, hml, hr, hlk, hown, hts, hK, hR⟩ := C
  intro H locs ls hP hS hl
  exact lv_icmp_le hx hb hd ht (fun _ => k H locs ls hP hS hl) (fun z => absurd h z)
theorem V.ic_leF (C : Cx G X cc nL own ret fr lo cw) {x y : Int32} {off : Int} (tgt : Nat) (h : ¬ x ≤ y) (ht : (pc : Int) + off = (tgt : Int)) (hd : decode cc pc = .ok (.if_icmp .le off, 3)) (k : V G X nL ov Mf (pc + 3) lv st M) : V G X nL ov Mf pc lv (.int y :: .int x :: st) M := by
  obtain ⟨p, l, e, R, s, m, args, below, meth, cd⟩ := X
  obtain ⟨hx, hb, hml, hr, hlk, hown, hts, hK, hR⟩ := C
  intro H locs ls hP hS hl
  exact lv_icmp_le hx hb hd ht (fun z => absurd z h) (fun _ => k H locs ls hP hS hl)
theorem V.goto (C : Cx G X cc nL own ret fr lo cw) {off : Int} (tgt : Nat) (ht : (pc : Int) + off = (tgt : Int)) (hd : decode cc pc = .ok (.goto off, 3)) (k : V G X nL ov Mf tgt lv st M) : V G X nL ov Mf pc lv st M := by
  obtain ⟨p, l, e, R, s, m, args, below, meth, cd⟩ := X
  obtain ⟨hx, hb, hml, hr, hlk, hown, hts, hK, hR⟩ := C
  intro H locs ls hP hS hl
  exact lv_goto hx hb hd ht (k H locs ls hP hS hl)
theorem V.tabIn (C : Cx G X cc nL own ret fr lo cw) {dflt lo' hi : Int} {offs : Array Int} {len : Nat} {x : Int32} (v : Int32) {off : Int} (tgt : Nat) (h : x = v) (h1 : ¬ v.toInt < lo') (h2 : ¬ hi < v.toInt) (ho : offs[(v.toInt - lo').toNat]? = some off) (ht : (pc : Int) + off = (tgt : Int)) (hd : decode cc pc = .ok (.tableswitch dflt lo' hi offs, len)) (k : V G X nL ov Mf tgt lv st M) : V G X nL ov Mf pc lv (.int x :: st) M := by
  subst h
  obtain ⟨p, l, e, R, s, m, args, below, meth, cd⟩ := X
  obtain ⟨hx, hb, hml, hr, hlk, hown, hts, hK, hR⟩ := C
  intro H locs ls hP hS hl
  exact lv_tableIn hx hb hd h1 h2 ho ht (k H locs ls hP hS hl)
theorem V.tabOut (C : Cx G X cc nL own ret fr lo cw) {dflt lo' hi : Int} {offs : Array Int} {len : Nat} {x : Int32} (tgt : Nat) (h : x.toInt < lo' ∨ hi < x.toInt) (ht : (pc : Int) + dflt = (tgt : Int)) (hd : decode cc pc = .ok (.tableswitch dflt lo' hi offs, len)) (k : V G X nL ov Mf tgt lv st M) : V G X nL ov Mf pc lv (.int x :: st) M := by
  obtain ⟨p, l, e, R, s, m, args, below, meth, cd⟩ := X
  obtain ⟨hx, hb, hml, hr, hlk, hown, hts, hK, hR⟩ := C
  intro H locs ls hP hS hl
  exact lv_tableOut hx hb hd h ht (k H locs ls hP hS hl)
theorem V.look (C : Cx G X cc nL own ret fr lo cw) {dflt : Int} {ps : Array (Int × Int)} {len : Nat} {x : Int32} {off : Int} (tgt : Nat) (hp : (ps.toList.zip (ps.toList.drop 1)).all (fun (a, next) => a.1 < next.1) = true) (ho : Op.lookupswitch.offset ps.toList dflt x.toInt = off) (ht : (pc : Int) + off = (tgt : Int)) (hd : decode cc pc = .ok (.lookupswitch dflt ps, len)) (k : V G X nL ov Mf tgt lv st M) : V G X nL ov Mf pc lv (.int x :: st) M := by
  obtain ⟨p, l, e, R, s, m, args, below, meth, cd⟩ := X
  obtain ⟨hx, hb, hml, hr, hlk, hown, hts, hK, hR⟩ := C
  intro H locs ls hP hS hl
  exact lv_lookup hx hb hd hp ho ht (k H locs ls hP hS hl)
theorem V.iret (C : Cx G X cc nL own (some .int) fr lo cw) {v : Int32} (ho : ov = some (.int v)) (hM : M = Mf) (hd : decode cc pc = .ok (.ireturn, 1)) : V G X nL ov Mf pc lv [.int v] M := by
  obtain ⟨p, l, e, R, s, m, args, below, meth, cd⟩ := X
  obtain ⟨hx, hb, hml, hr, hlk, hown, hts, hK, hR⟩ := C
  intro H locs ls hP hS hl
  subst ho; subst hM
  exact W.iret hx hb hr (fun t ht hW => ⟨rfl, by rw [ht]; exact hP, hS.F ht⟩) hS.2.2 hd hlk
theorem V.zret (C : Cx G X cc nL own (some .boolean) fr lo cw) {v : Int32} (hz : v = 0 ∨ v = 1) (ho : ov = some (.int v)) (hM : M = Mf) (hd : decode cc pc = .ok (.ireturn, 1)) : V G X nL ov Mf pc lv [.int v] M := by
  obtain ⟨p, l, e, R, s, m, args, below, meth, cd⟩ := X
  obtain ⟨hx, hb, hml, hr, hlk, hown, hts, hK, hR⟩ := C
  intro H locs ls hP hS hl
  subst ho; subst hM
  exact W.zret hx hb hr (by rcases hz with rfl | rfl <;> rfl) (fun t ht hW => ⟨rfl, by rw [ht]; exact hP, hS.F ht⟩) hS.2.2 hd hlk
theorem V.lret (C : Cx G X cc nL own (some .long) fr lo cw) {v : Int64} (ho : ov = some (.long v)) (hM : M = Mf) (hd : decode cc pc = .ok (.lreturn, 1)) : V G X nL ov Mf pc lv [.long v] M := by
  obtain ⟨p, l, e, R, s, m, args, below, meth, cd⟩ := X
  obtain ⟨hx, hb, hml, hr, hlk, hown, hts, hK, hR⟩ := C
  intro H locs ls hP hS hl
  subst ho; subst hM
  exact W.lret hx hb hr (fun t ht hW => ⟨rfl, by rw [ht]; exact hP, hS.F ht⟩) hS.2.2 hd hlk
theorem V.vret (C : Cx G X cc nL own none fr lo cw) (ho : ov = none) (hM : M = Mf) (hd : decode cc pc = .ok (.return_, 1)) : V G X nL ov Mf pc lv [] M := by
  obtain ⟨p, l, e, R, s, m, args, below, meth, cd⟩ := X
  obtain ⟨hx, hb, hml, hr, hlk, hown, hts, hK, hR⟩ := C
  intro H locs ls hP hS hl
  subst ho; subst hM
  exact W.vret hx hb hr (fun t ht hW => ⟨rfl, by rw [ht]; exact hP, hS.F ht⟩) hS.2.2 hd hlk
theorem u_good {C : String} {T : u_T} {N : Nat} {w : Cond} (h : w ∈ u_ws C T N) : goodWord w = true := by
  obtain ⟨k, -, rfl⟩ := List.mem_map.mp h
  unfold u_lay
  split <;> rfl
theorem V.getI (C : Cx G X cc nL own ret fr lo cw) {ci : Nat} {Cn : String} {T : u_T} {N : Nat} (hcl : vwCl[ci]? = some (Cn, T, N)) (hin : ∀ w ∈ u_ws Cn T N, w ∈ lw_tbl) {c : Nat} {fl : List Fk} (hc : (gS G)[c]? = some (.inr (.inl (ci, fl)))) (j : Nat) (hj : j < N) {ix : Nat} (hw : Cond.fieldLink own ix (T j).1 (T j).2.1 (T j).2.2.1 ∈ lw_tbl) (hf : fl[j]? = some (none)) (hd : decode cc pc = .ok (.getfield ix, 3)) (k : V G X nL ov Mf (pc + 3) lv (.int (M.1 c j) :: st) M) : V G X nL ov Mf pc lv (.ref (gA G c) :: st) M := by
  obtain ⟨p, l, e, R, s, m, args, below, meth, cd⟩ := X
  obtain ⟨hx, hb, hml, hr, hlk, hown, hts, hK, hR⟩ := C
  intro H locs ls hP hS hl
  exact va_get hx hb hts (fun w h => List.mem_cons_of_mem _ (bg_of (hin w h) (u_good h))) hown hK.1 hP c (wl_at M hc) hcl j hj (hts _ (List.mem_cons_of_mem _ (bg_of hw rfl))) (fun _ h => h) (by simp [List.getElem?_mapIdx, hf, fv]) hd (k H locs ls hP hS hl)
theorem V.getJ (C : Cx G X cc nL own ret fr lo cw) {ci : Nat} {Cn : String} {T : u_T} {N : Nat} (hcl : vwCl[ci]? = some (Cn, T, N)) (hin : ∀ w ∈ u_ws Cn T N, w ∈ lw_tbl) {c : Nat} {fl : List Fk} (hc : (gS G)[c]? = some (.inr (.inl (ci, fl)))) (j : Nat) (hj : j < N) {ix : Nat} (hw : Cond.fieldLink own ix (T j).1 (T j).2.1 (T j).2.2.1 ∈ lw_tbl) (hf : fl[j]? = some (some none)) (hd : decode cc pc = .ok (.getfield ix, 3)) (k : V G X nL ov Mf (pc + 3) lv (.long (M.2 c j) :: st) M) : V G X nL ov Mf pc lv (.ref (gA G c) :: st) M := by
  obtain ⟨p, l, e, R, s, m, args, below, meth, cd⟩ := X
  obtain ⟨hx, hb, hml, hr, hlk, hown, hts, hK, hR⟩ := C
  intro H locs ls hP hS hl
  exact va_get hx hb hts (fun w h => List.mem_cons_of_mem _ (bg_of (hin w h) (u_good h))) hown hK.1 hP c (wl_at M hc) hcl j hj (hts _ (List.mem_cons_of_mem _ (bg_of hw rfl))) (fun _ h => h) (by simp [List.getElem?_mapIdx, hf, fv]) hd (k H locs ls hP hS hl)
theorem V.getR (C : Cx G X cc nL own ret fr lo cw) {ci : Nat} {Cn : String} {T : u_T} {N : Nat} (hcl : vwCl[ci]? = some (Cn, T, N)) (hin : ∀ w ∈ u_ws Cn T N, w ∈ lw_tbl) {c : Nat} {fl : List Fk} (hc : (gS G)[c]? = some (.inr (.inl (ci, fl)))) (j : Nat) (hj : j < N) {ix : Nat} (hw : Cond.fieldLink own ix (T j).1 (T j).2.1 (T j).2.2.1 ∈ lw_tbl) {r : Nat} (hf : fl[j]? = some (some (some (some r)))) (hd : decode cc pc = .ok (.getfield ix, 3)) (k : V G X nL ov Mf (pc + 3) lv (.ref (gA G r) :: st) M) : V G X nL ov Mf pc lv (.ref (gA G c) :: st) M := by
  obtain ⟨p, l, e, R, s, m, args, below, meth, cd⟩ := X
  obtain ⟨hx, hb, hml, hr, hlk, hown, hts, hK, hR⟩ := C
  intro H locs ls hP hS hl
  exact va_get hx hb hts (fun w h => List.mem_cons_of_mem _ (bg_of (hin w h) (u_good h))) hown hK.1 hP c (wl_at M hc) hcl j hj (hts _ (List.mem_cons_of_mem _ (bg_of hw rfl))) (fun _ h => h) (by simp [List.getElem?_mapIdx, hf, fv]) hd (k H locs ls hP hS hl)
theorem V.putI (C : Cx G X cc nL own ret fr lo cw) {ci : Nat} {Cn : String} {T : u_T} {N : Nat} (hcl : vwCl[ci]? = some (Cn, T, N)) (hin : ∀ w ∈ u_ws Cn T N, w ∈ lw_tbl) {c : Nat} {fl : List Fk} (hc : (gS G)[c]? = some (.inr (.inl (ci, fl)))) (j : Nat) (hj : j < N) {ix : Nat} (hw : Cond.fieldLink own ix (T j).1 (T j).2.1 (T j).2.2.1 ∈ lw_tbl) (ty : Nat → FieldType) (hty : ∀ k, k < N → parseFieldDescriptor (T k).2.2.1 = some (ty k)) (hnm : ∀ a, a < N → ∀ b, b < N → a ≠ b → (T a).2.1 ≠ (T b).2.1) (hfin : (T j).2.2.2 = false) (hd1 : parseFieldDescriptor (T j).2.2.1 = some .int) {v : Int32}  (hf : fl[j]? = some (none)) (hd : decode cc pc = .ok (.putfield ix, 3)) (k : V G X nL ov Mf (pc + 3) lv st (sI M c j v)) : V G X nL ov Mf pc lv (.int v :: .ref (gA G c) :: st) M := by
  obtain ⟨p, l, e, R, s, m, args, below, meth, cd⟩ := X
  obtain ⟨hx, hb, hml, hr, hlk, hown, hts, hK, hR⟩ := C
  intro H locs ls hP hS hl
  have hlen : j < (fl.mapIdx (fun j f => fv G M c j f)).length := by rw [List.length_mapIdx]; exact (List.getElem?_eq_some_iff.mp hf).1
  refine va_put hx hb hts (fun w h => List.mem_cons_of_mem _ (bg_of (hin w h) (u_good h))) ty hty hnm hown hK.1 hP (wl_D M hK.2.1) hS c (wl_at M hc) hcl j hj (hts _ (List.mem_cons_of_mem _ (bg_of hw rfl))) (fun _ h => h) hfin hd1 rfl rfl hlen hd (fun H1 locs1 hP1 _ hS1 => ?_)
  rw [← en_obI hf, wl_set hc (fun a y h => en_sI_ne h y)] at hP1
  exact k H1 locs1 ls hP1 hS1 hl
theorem V.putZ (C : Cx G X cc nL own ret fr lo cw) {ci : Nat} {Cn : String} {T : u_T} {N : Nat} (hcl : vwCl[ci]? = some (Cn, T, N)) (hin : ∀ w ∈ u_ws Cn T N, w ∈ lw_tbl) {c : Nat} {fl : List Fk} (hc : (gS G)[c]? = some (.inr (.inl (ci, fl)))) (j : Nat) (hj : j < N) {ix : Nat} (hw : Cond.fieldLink own ix (T j).1 (T j).2.1 (T j).2.2.1 ∈ lw_tbl) (ty : Nat → FieldType) (hty : ∀ k, k < N → parseFieldDescriptor (T k).2.2.1 = some (ty k)) (hnm : ∀ a, a < N → ∀ b, b < N → a ≠ b → (T a).2.1 ≠ (T b).2.1) (hfin : (T j).2.2.2 = false) (hd1 : parseFieldDescriptor (T j).2.2.1 = some .boolean) {v : Int32} (hz : v = 0 ∨ v = 1) (hf : fl[j]? = some (none)) (hd : decode cc pc = .ok (.putfield ix, 3)) (k : V G X nL ov Mf (pc + 3) lv st (sI M c j v)) : V G X nL ov Mf pc lv (.int v :: .ref (gA G c) :: st) M := by
  obtain ⟨p, l, e, R, s, m, args, below, meth, cd⟩ := X
  obtain ⟨hx, hb, hml, hr, hlk, hown, hts, hK, hR⟩ := C
  intro H locs ls hP hS hl
  have hlen : j < (fl.mapIdx (fun j f => fv G M c j f)).length := by rw [List.length_mapIdx]; exact (List.getElem?_eq_some_iff.mp hf).1
  refine va_put hx hb hts (fun w h => List.mem_cons_of_mem _ (bg_of (hin w h) (u_good h))) ty hty hnm hown hK.1 hP (wl_D M hK.2.1) hS c (wl_at M hc) hcl j hj (hts _ (List.mem_cons_of_mem _ (bg_of hw rfl))) (fun _ h => h) hfin hd1 (by rcases hz with rfl | rfl <;> rfl) (by rcases hz with rfl | rfl <;> rfl) hlen hd (fun H1 locs1 hP1 _ hS1 => ?_)
  rw [← en_obI hf, wl_set hc (fun a y h => en_sI_ne h y)] at hP1
  exact k H1 locs1 ls hP1 hS1 hl
theorem V.putJ (C : Cx G X cc nL own ret fr lo cw) {ci : Nat} {Cn : String} {T : u_T} {N : Nat} (hcl : vwCl[ci]? = some (Cn, T, N)) (hin : ∀ w ∈ u_ws Cn T N, w ∈ lw_tbl) {c : Nat} {fl : List Fk} (hc : (gS G)[c]? = some (.inr (.inl (ci, fl)))) (j : Nat) (hj : j < N) {ix : Nat} (hw : Cond.fieldLink own ix (T j).1 (T j).2.1 (T j).2.2.1 ∈ lw_tbl) (ty : Nat → FieldType) (hty : ∀ k, k < N → parseFieldDescriptor (T k).2.2.1 = some (ty k)) (hnm : ∀ a, a < N → ∀ b, b < N → a ≠ b → (T a).2.1 ≠ (T b).2.1) (hfin : (T j).2.2.2 = false) (hd1 : parseFieldDescriptor (T j).2.2.1 = some .long) {v : Int64}  (hf : fl[j]? = some (some none)) (hd : decode cc pc = .ok (.putfield ix, 3)) (k : V G X nL ov Mf (pc + 3) lv st (sL M c j v)) : V G X nL ov Mf pc lv (.long v :: .ref (gA G c) :: st) M := by
  obtain ⟨p, l, e, R, s, m, args, below, meth, cd⟩ := X
  obtain ⟨hx, hb, hml, hr, hlk, hown, hts, hK, hR⟩ := C
  intro H locs ls hP hS hl
  have hlen : j < (fl.mapIdx (fun j f => fv G M c j f)).length := by rw [List.length_mapIdx]; exact (List.getElem?_eq_some_iff.mp hf).1
  refine va_put hx hb hts (fun w h => List.mem_cons_of_mem _ (bg_of (hin w h) (u_good h))) ty hty hnm hown hK.1 hP (wl_D M hK.2.1) hS c (wl_at M hc) hcl j hj (hts _ (List.mem_cons_of_mem _ (bg_of hw rfl))) (fun _ h => h) hfin hd1 rfl rfl hlen hd (fun H1 locs1 hP1 _ hS1 => ?_)
  rw [← en_obL hf, wl_set hc (fun a y h => en_sL_ne h y)] at hP1
  exact k H1 locs1 ls hP1 hS1 hl
theorem V.iald (C : Cx G X cc nL own ret fr lo cw) {c n : Nat} (hc : (gS G)[c]? = some (.inl (0, n))) {i : Int32} (hi : vp_in i n) (hd : decode cc pc = .ok (.iaload, 1)) (k : V G X nL ov Mf (pc + 1) lv (.int (M.1 c i.toNatClampNeg) :: st) M) : V G X nL ov Mf pc lv (.int i :: .ref (gA G c) :: st) M := by
  obtain ⟨p, l, e, R, s, m, args, below, meth, cd⟩ := X
  obtain ⟨hx, hb, hml, hr, hlk, hown, hts, hK, hR⟩ := C
  intro H locs ls hP hS hl
  exact va_iald hx hb hK.1 hP c 0 (wl_at M hc) rfl hi hd (k H locs ls hP hS hl)
theorem V.lald (C : Cx G X cc nL own ret fr lo cw) {c n : Nat} (hc : (gS G)[c]? = some (.inl (1, n))) {i : Int32} (hi : vp_in i n) (hd : decode cc pc = .ok (.laload, 1)) (k : V G X nL ov Mf (pc + 1) lv (.long (M.2 c i.toNatClampNeg) :: st) M) : V G X nL ov Mf pc lv (.int i :: .ref (gA G c) :: st) M := by
  obtain ⟨p, l, e, R, s, m, args, below, meth, cd⟩ := X
  obtain ⟨hx, hb, hml, hr, hlk, hown, hts, hK, hR⟩ := C
  intro H locs ls hP hS hl
  exact va_lald hx hb hK.1 hP c 1 (wl_at M hc) rfl hi hd (k H locs ls hP hS hl)
theorem V.zald (C : Cx G X cc nL own ret fr lo cw) {c n : Nat} (hc : (gS G)[c]? = some (.inl (2, n))) {i : Int32} (hi : vp_in i n) (hd : decode cc pc = .ok (.baload, 1)) (k : V G X nL ov Mf (pc + 1) lv (.int (M.1 c i.toNatClampNeg) :: st) M) : V G X nL ov Mf pc lv (.int i :: .ref (gA G c) :: st) M := by
  obtain ⟨p, l, e, R, s, m, args, below, meth, cd⟩ := X
  obtain ⟨hx, hb, hml, hr, hlk, hown, hts, hK, hR⟩ := C
  intro H locs ls hP hS hl
  exact va_zald hx hb hK.1 hP c 2 (wl_at M hc) rfl hi hd (k H locs ls hP hS hl)
theorem V.alen (C : Cx G X cc nL own ret fr lo cw) {c t n : Nat} (v : Int32) (hc : (gS G)[c]? = some (.inl (t, n))) (ht : t < 3) (hv : Int32.ofNat n = v) (hd : decode cc pc = .ok (.arraylength, 1)) (k : V G X nL ov Mf (pc + 1) lv (.int v :: st) M) : V G X nL ov Mf pc lv (.ref (gA G c) :: st) M := by
  obtain ⟨p, l, e, R, s, m, args, below, meth, cd⟩ := X
  obtain ⟨hx, hb, hml, hr, hlk, hown, hts, hK, hR⟩ := C
  intro H locs ls hP hS hl
  match t, ht with
  | 0, _ => exact va_alen hx hb hK.1 hP c 0 (wl_at M hc) rfl hv hd (k H locs ls hP hS hl)
  | 1, _ => exact va_alen hx hb hK.1 hP c 1 (wl_at M hc) rfl hv hd (k H locs ls hP hS hl)
  | 2, _ => exact va_alen hx hb hK.1 hP c 2 (wl_at M hc) rfl hv hd (k H locs ls hP hS hl)
theorem V.iast (C : Cx G X cc nL own ret fr lo cw) {c n : Nat} (hc : (gS G)[c]? = some (.inl (0, n))) {i : Int32} {v : Int32}  (hi : vp_in i n) (hd : decode cc pc = .ok (.iastore, 1)) (k : V G X nL ov Mf (pc + 1) lv st (sI M c i.toNatClampNeg v)) : V G X nL ov Mf pc lv (.int v :: .int i :: .ref (gA G c) :: st) M := by
  obtain ⟨p, l, e, R, s, m, args, below, meth, cd⟩ := X
  obtain ⟨hx, hb, hml, hr, hlk, hown, hts, hK, hR⟩ := C
  intro H locs ls hP hS hl
  refine va_iast hx hb hK.1 hP (wl_D M hK.2.1) hS c 0 (wl_at M hc) rfl hi hd (fun H1 locs1 hP1 _ hS1 => ?_)
  have e := wl_set (M := M) (M' := sI M c i.toNatClampNeg v) hc (fun a y h => en_sI_ne h y)
  simp only [en, sI_at] at e
  rw [e] at hP1
  exact k H1 locs1 ls hP1 hS1 hl
theorem V.last (C : Cx G X cc nL own ret fr lo cw) {c n : Nat} (hc : (gS G)[c]? = some (.inl (1, n))) {i : Int32} {v : Int64}  (hi : vp_in i n) (hd : decode cc pc = .ok (.lastore, 1)) (k : V G X nL ov Mf (pc + 1) lv st (sL M c i.toNatClampNeg v)) : V G X nL ov Mf pc lv (.long v :: .int i :: .ref (gA G c) :: st) M := by
  obtain ⟨p, l, e, R, s, m, args, below, meth, cd⟩ := X
  obtain ⟨hx, hb, hml, hr, hlk, hown, hts, hK, hR⟩ := C
  intro H locs ls hP hS hl
  refine va_last hx hb hK.1 hP (wl_D M hK.2.1) hS c 1 (wl_at M hc) rfl hi hd (fun H1 locs1 hP1 _ hS1 => ?_)
  have e := wl_set (M := M) (M' := sL M c i.toNatClampNeg v) hc (fun a y h => en_sL_ne h y)
  simp only [en, sL_at] at e
  rw [e] at hP1
  exact k H1 locs1 ls hP1 hS1 hl
theorem V.zast (C : Cx G X cc nL own ret fr lo cw) {c n : Nat} (hc : (gS G)[c]? = some (.inl (2, n))) {i : Int32} {v : Int32} (hz : v = 0 ∨ v = 1) (hi : vp_in i n) (hd : decode cc pc = .ok (.bastore, 1)) (k : V G X nL ov Mf (pc + 1) lv st (sI M c i.toNatClampNeg v)) : V G X nL ov Mf pc lv (.int v :: .int i :: .ref (gA G c) :: st) M := by
  obtain ⟨p, l, e, R, s, m, args, below, meth, cd⟩ := X
  obtain ⟨hx, hb, hml, hr, hlk, hown, hts, hK, hR⟩ := C
  intro H locs ls hP hS hl
  refine va_zast hx hb hK.1 hP (wl_D M hK.2.1) hS c 2 (wl_at M hc) rfl hi hd (fun H1 locs1 hP1 _ hS1 => ?_)
  have hz2 : vp_nar .boolean v = v := by rcases hz with rfl | rfl <;> rfl
  rw [hz2] at hP1
  have e := wl_set (M := M) (M' := sI M c i.toNatClampNeg v) hc (fun a y h => en_sI_ne h y)
  simp only [en, sI_at] at e
  rw [e] at hP1
  exact k H1 locs1 ls hP1 hS1 hl
theorem V.aald (C : Cx G X cc nL own ret fr lo cw) {c : Nat} {rs : List (Option Nat)} (hc : (gS G)[c]? = some (.inr (.inr rs))) {i : Int32} (hi : vp_in i rs.length) {r : Nat} (hr' : rs[i.toNatClampNeg]? = some (some r)) (hd : decode cc pc = .ok (.aaload, 1)) (k : V G X nL ov Mf (pc + 1) lv (.ref (gA G r) :: st) M) : V G X nL ov Mf pc lv (.int i :: .ref (gA G c) :: st) M := by
  obtain ⟨p, l, e, R, s, m, args, below, meth, cd⟩ := X
  obtain ⟨hx, hb, hml, hr, hlk, hown, hts, hK, hR⟩ := C
  intro H locs ls hP hS hl
  refine va_aldq hx hb hK.1 hP c 3 (wl_at M hc) rfl hi hd ?_
  rw [List.getD_eq_getElem?_getD, hr']
  exact k H locs ls hP hS hl
end VR2
