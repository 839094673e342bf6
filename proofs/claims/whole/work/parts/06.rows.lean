section GX
variable {g : gm_G} {own nm : String} {cc : ByteArray} {nL : Nat} {rt : Option FieldType} {R : Room} {PP : State → Array Value → List Frame → State → Prop} {d mc ms : Nat} {Q : Option Value → gm_H → Prop} {cu su pc : Nat} {lv : List (Nat × Value)} {st : List Value} {h : gm_H}
theorem gx_iadd {x y : Int32} (hd : decode cc pc = .ok (.iadd, 1)) (k : gm_XG g own nm cc nL rt R PP cu su (pc + 1) lv (.int (x + y) :: st) h) : gm_XG g own nm cc nL rt R PP cu su pc lv (.int y :: .int x :: st) h :=
  fun p e s m args below meth c H locs ls C hP hz hS hl => lv_iadd C.1 C.2.1 hd (k p e s m args below meth c H locs ls C hP hz hS hl)
theorem gx_isub {x y : Int32} (hd : decode cc pc = .ok (.isub, 1)) (k : gm_XG g own nm cc nL rt R PP cu su (pc + 1) lv (.int (x - y) :: st) h) : gm_XG g own nm cc nL rt R PP cu su pc lv (.int y :: .int x :: st) h :=
  fun p e s m args below meth c H locs ls C hP hz hS hl => lv_isub C.1 C.2.1 hd (k p e s m args below meth c H locs ls C hP hz hS hl)
theorem gx_imul {x y : Int32} (hd : decode cc pc = .ok (.imul, 1)) (k : gm_XG g own nm cc nL rt R PP cu su (pc + 1) lv (.int (x * y) :: st) h) : gm_XG g own nm cc nL rt R PP cu su pc lv (.int y :: .int x :: st) h :=
  fun p e s m args below meth c H locs ls C hP hz hS hl => lv_imul C.1 C.2.1 hd (k p e s m args below meth c H locs ls C hP hz hS hl)
theorem gx_iand {x y : Int32} (hd : decode cc pc = .ok (.iand, 1)) (k : gm_XG g own nm cc nL rt R PP cu su (pc + 1) lv (.int (x &&& y) :: st) h) : gm_XG g own nm cc nL rt R PP cu su pc lv (.int y :: .int x :: st) h :=
  fun p e s m args below meth c H locs ls C hP hz hS hl => lv_iand C.1 C.2.1 hd (k p e s m args below meth c H locs ls C hP hz hS hl)
theorem gx_idiv {x y : Int32} (hd : decode cc pc = .ok (.idiv, 1)) (hne : ¬ y = 0) (k : gm_XG g own nm cc nL rt R PP cu su (pc + 1) lv (.int (x / y) :: st) h) : gm_XG g own nm cc nL rt R PP cu su pc lv (.int y :: .int x :: st) h :=
  fun p e s m args below meth c H locs ls C hP hz hS hl => lv_idiv C.1 C.2.1 hd hne (k p e s m args below meth c H locs ls C hP hz hS hl)
theorem gx_irem {x y : Int32} (hd : decode cc pc = .ok (.irem, 1)) (hne : ¬ y = 0) (k : gm_XG g own nm cc nL rt R PP cu su (pc + 1) lv (.int (x - x / y * y) :: st) h) : gm_XG g own nm cc nL rt R PP cu su pc lv (.int y :: .int x :: st) h :=
  fun p e s m args below meth c H locs ls C hP hz hS hl => lv_irem C.1 C.2.1 hd hne (k p e s m args below meth c H locs ls C hP hz hS hl)
theorem gx_ineg {x : Int32} (hd : decode cc pc = .ok (.ineg, 1)) (k : gm_XG g own nm cc nL rt R PP cu su (pc + 1) lv (.int (-x) :: st) h) : gm_XG g own nm cc nL rt R PP cu su pc lv (.int x :: st) h :=
  fun p e s m args below meth c H locs ls C hP hz hS hl => lv_ineg C.1 C.2.1 hd (k p e s m args below meth c H locs ls C hP hz hS hl)
theorem gx_ladd {x y : Int64} (hd : decode cc pc = .ok (.ladd, 1)) (k : gm_XG g own nm cc nL rt R PP cu su (pc + 1) lv (.long (x + y) :: st) h) : gm_XG g own nm cc nL rt R PP cu su pc lv (.long y :: .long x :: st) h :=
  fun p e s m args below meth c H locs ls C hP hz hS hl => lv_ladd C.1 C.2.1 hd (k p e s m args below meth c H locs ls C hP hz hS hl)
theorem gx_lsub {x y : Int64} (hd : decode cc pc = .ok (.lsub, 1)) (k : gm_XG g own nm cc nL rt R PP cu su (pc + 1) lv (.long (x - y) :: st) h) : gm_XG g own nm cc nL rt R PP cu su pc lv (.long y :: .long x :: st) h :=
  fun p e s m args below meth c H locs ls C hP hz hS hl => lv_lsub C.1 C.2.1 hd (k p e s m args below meth c H locs ls C hP hz hS hl)
theorem gx_lmul {x y : Int64} (hd : decode cc pc = .ok (.lmul, 1)) (k : gm_XG g own nm cc nL rt R PP cu su (pc + 1) lv (.long (x * y) :: st) h) : gm_XG g own nm cc nL rt R PP cu su pc lv (.long y :: .long x :: st) h :=
  fun p e s m args below meth c H locs ls C hP hz hS hl => lv_lmul C.1 C.2.1 hd (k p e s m args below meth c H locs ls C hP hz hS hl)
theorem gx_land {x y : Int64} (hd : decode cc pc = .ok (.land, 1)) (k : gm_XG g own nm cc nL rt R PP cu su (pc + 1) lv (.long (x &&& y) :: st) h) : gm_XG g own nm cc nL rt R PP cu su pc lv (.long y :: .long x :: st) h :=
  fun p e s m args below meth c H locs ls C hP hz hS hl => lv_land C.1 C.2.1 hd (k p e s m args below meth c H locs ls C hP hz hS hl)
theorem gx_lor {x y : Int64} (hd : decode cc pc = .ok (.lor, 1)) (k : gm_XG g own nm cc nL rt R PP cu su (pc + 1) lv (.long (x ||| y) :: st) h) : gm_XG g own nm cc nL rt R PP cu su pc lv (.long y :: .long x :: st) h :=
  fun p e s m args below meth c H locs ls C hP hz hS hl => lv_lor C.1 C.2.1 hd (k p e s m args below meth c H locs ls C hP hz hS hl)
theorem gx_ldiv {x y : Int64} (hd : decode cc pc = .ok (.ldiv, 1)) (hne : ¬ y = 0) (k : gm_XG g own nm cc nL rt R PP cu su (pc + 1) lv (.long (x / y) :: st) h) : gm_XG g own nm cc nL rt R PP cu su pc lv (.long y :: .long x :: st) h :=
  fun p e s m args below meth c H locs ls C hP hz hS hl => lv_ldiv C.1 C.2.1 hd hne (k p e s m args below meth c H locs ls C hP hz hS hl)
theorem gx_lrem {x y : Int64} (hd : decode cc pc = .ok (.lrem, 1)) (hne : ¬ y = 0) (k : gm_XG g own nm cc nL rt R PP cu su (pc + 1) lv (.long (x - x / y * y) :: st) h) : gm_XG g own nm cc nL rt R PP cu su pc lv (.long y :: .long x :: st) h :=
  fun p e s m args below meth c H locs ls C hP hz hS hl => lv_lrem C.1 C.2.1 hd hne (k p e s m args below meth c H locs ls C hP hz hS hl)
theorem gx_iushr {x y : Int32} (hd : decode cc pc = .ok (.iushr, 1)) (k : gm_XG g own nm cc nL rt R PP cu su (pc + 1) lv (.int (x.toUInt32 >>> (y.toUInt32 &&& Int32.toUInt32 31)).toInt32 :: st) h) : gm_XG g own nm cc nL rt R PP cu su pc lv (.int y :: .int x :: st) h :=
  fun p e s m args below meth c H locs ls C hP hz hS hl => lv_iushr C.1 C.2.1 hd rfl (k p e s m args below meth c H locs ls C hP hz hS hl)
theorem gx_ishr {x y : Int32} (hd : decode cc pc = .ok (.ishr, 1)) (k : gm_XG g own nm cc nL rt R PP cu su (pc + 1) lv (.int (x >>> (y &&& 31)) :: st) h) : gm_XG g own nm cc nL rt R PP cu su pc lv (.int y :: .int x :: st) h :=
  fun p e s m args below meth c H locs ls C hP hz hS hl => lv_ishr C.1 C.2.1 hd (k p e s m args below meth c H locs ls C hP hz hS hl)
theorem gx_lshl {x : Int64} {y : Int32} (hd : decode cc pc = .ok (.lshl, 1)) (k : gm_XG g own nm cc nL rt R PP cu su (pc + 1) lv (.long (x <<< (y.toInt64 &&& 63)) :: st) h) : gm_XG g own nm cc nL rt R PP cu su pc lv (.int y :: .long x :: st) h :=
  fun p e s m args below meth c H locs ls C hP hz hS hl => lv_lshl C.1 C.2.1 hd rfl (k p e s m args below meth c H locs ls C hP hz hS hl)
theorem gx_i2l {x : Int32} (hd : decode cc pc = .ok (.i2l, 1)) (k : gm_XG g own nm cc nL rt R PP cu su (pc + 1) lv (.long x.toInt64 :: st) h) : gm_XG g own nm cc nL rt R PP cu su pc lv (.int x :: st) h :=
  fun p e s m args below meth c H locs ls C hP hz hS hl => lv_i2l C.1 C.2.1 hd rfl (k p e s m args below meth c H locs ls C hP hz hS hl)
theorem gx_l2i {x : Int64} (hd : decode cc pc = .ok (.l2i, 1)) (k : gm_XG g own nm cc nL rt R PP cu su (pc + 1) lv (.int x.toInt32 :: st) h) : gm_XG g own nm cc nL rt R PP cu su pc lv (.long x :: st) h :=
  fun p e s m args below meth c H locs ls C hP hz hS hl => lv_l2i C.1 C.2.1 hd rfl (k p e s m args below meth c H locs ls C hP hz hS hl)
theorem gx_i2b {x : Int32} (hd : decode cc pc = .ok (.i2b, 1)) (k : gm_XG g own nm cc nL rt R PP cu su (pc + 1) lv (.int x.toInt8.toInt32 :: st) h) : gm_XG g own nm cc nL rt R PP cu su pc lv (.int x :: st) h :=
  fun p e s m args below meth c H locs ls C hP hz hS hl => lv_i2b C.1 C.2.1 hd rfl (k p e s m args below meth c H locs ls C hP hz hS hl)
theorem gx_i2s {x : Int32} (hd : decode cc pc = .ok (.i2s, 1)) (k : gm_XG g own nm cc nL rt R PP cu su (pc + 1) lv (.int x.toInt16.toInt32 :: st) h) : gm_XG g own nm cc nL rt R PP cu su pc lv (.int x :: st) h :=
  fun p e s m args below meth c H locs ls C hP hz hS hl => lv_i2s C.1 C.2.1 hd rfl (k p e s m args below meth c H locs ls C hP hz hS hl)
theorem gx_i2c {x : Int32} (hd : decode cc pc = .ok (.i2c, 1)) (k : gm_XG g own nm cc nL rt R PP cu su (pc + 1) lv (.int (x.toUInt32 % 65536).toInt32 :: st) h) : gm_XG g own nm cc nL rt R PP cu su pc lv (.int x :: st) h :=
  fun p e s m args below meth c H locs ls C hP hz hS hl => lv_i2c C.1 C.2.1 hd rfl (k p e s m args below meth c H locs ls C hP hz hS hl)
theorem gx_iconst {n : Int} {v : Int32} (hd : decode cc pc = .ok (.iconst n, 1)) (hv : Int32.ofInt n = v) (k : gm_XG g own nm cc nL rt R PP cu su (pc + 1) lv (.int v :: st) h) : gm_XG g own nm cc nL rt R PP cu su pc lv (st) h :=
  fun p e s m args below meth c H locs ls C hP hz hS hl => lv_iconst C.1 C.2.1 hd hv (k p e s m args below meth c H locs ls C hP hz hS hl)
theorem gx_bipush {n : Int} {v : Int32} (hd : decode cc pc = .ok (.bipush n, 2)) (hv : (Int8.ofInt n).toInt32 = v) (k : gm_XG g own nm cc nL rt R PP cu su (pc + 2) lv (.int v :: st) h) : gm_XG g own nm cc nL rt R PP cu su pc lv (st) h :=
  fun p e s m args below meth c H locs ls C hP hz hS hl => lv_bipush C.1 C.2.1 hd hv (k p e s m args below meth c H locs ls C hP hz hS hl)
theorem gx_sipush {n : Int} {v : Int32} (hd : decode cc pc = .ok (.sipush n, 3)) (hv : (Int16.ofInt n).toInt32 = v) (k : gm_XG g own nm cc nL rt R PP cu su (pc + 3) lv (.int v :: st) h) : gm_XG g own nm cc nL rt R PP cu su pc lv (st) h :=
  fun p e s m args below meth c H locs ls C hP hz hS hl => lv_sipush C.1 C.2.1 hd hv (k p e s m args below meth c H locs ls C hP hz hS hl)
theorem gx_lconst {n : Fin 2} {v : Int64} (hd : decode cc pc = .ok (.lconst n, 1)) (hv : Int64.ofNat (n : Nat) = v) (k : gm_XG g own nm cc nL rt R PP cu su (pc + 1) lv (.long v :: st) h) : gm_XG g own nm cc nL rt R PP cu su pc lv (st) h :=
  fun p e s m args below meth c H locs ls C hP hz hS hl => lv_lconst C.1 C.2.1 hd hv (k p e s m args below meth c H locs ls C hP hz hS hl)
theorem gx_iload_n {n : Fin 4} {i : Nat} {x : Int32} (q : Nat) (hd : decode cc pc = .ok (.iload_n n, 1)) (hi : (n : Nat) = i) (hq : lv[q]? = some (i, .int x)) (k : gm_XG g own nm cc nL rt R PP cu su (pc + 1) lv (.int x :: st) h) : gm_XG g own nm cc nL rt R PP cu su pc lv st h :=
  fun p e s m args below meth c H locs ls C hP hz hS hl => lv_iload_n C.1 C.2.1 hd hi (gm_lv_at hl q hq) (k p e s m args below meth c H locs ls C hP hz hS hl)
theorem gx_iload {i : Nat} {x : Int32} (q : Nat) (hd : decode cc pc = .ok (.iload i, 2)) (hq : lv[q]? = some (i, .int x)) (k : gm_XG g own nm cc nL rt R PP cu su (pc + 2) lv (.int x :: st) h) : gm_XG g own nm cc nL rt R PP cu su pc lv st h :=
  fun p e s m args below meth c H locs ls C hP hz hS hl => lv_iload C.1 C.2.1 hd (gm_lv_at hl q hq) (k p e s m args below meth c H locs ls C hP hz hS hl)
theorem gx_lload_n {n : Fin 4} {i : Nat} {x : Int64} (q : Nat) (hd : decode cc pc = .ok (.lload_n n, 1)) (hi : (n : Nat) = i) (hq : lv[q]? = some (i, .long x)) (k : gm_XG g own nm cc nL rt R PP cu su (pc + 1) lv (.long x :: st) h) : gm_XG g own nm cc nL rt R PP cu su pc lv st h :=
  fun p e s m args below meth c H locs ls C hP hz hS hl => lv_lload_n C.1 C.2.1 hd hi (gm_lv_at hl q hq) (k p e s m args below meth c H locs ls C hP hz hS hl)
theorem gx_lload {i : Nat} {x : Int64} (q : Nat) (hd : decode cc pc = .ok (.lload i, 2)) (hq : lv[q]? = some (i, .long x)) (k : gm_XG g own nm cc nL rt R PP cu su (pc + 2) lv (.long x :: st) h) : gm_XG g own nm cc nL rt R PP cu su pc lv st h :=
  fun p e s m args below meth c H locs ls C hP hz hS hl => lv_lload C.1 C.2.1 hd (gm_lv_at hl q hq) (k p e s m args below meth c H locs ls C hP hz hS hl)
theorem gx_aload_n {n : Fin 4} {i : Nat} {x : Nat} (q : Nat) (hd : decode cc pc = .ok (.aload_n n, 1)) (hi : (n : Nat) = i) (hq : lv[q]? = some (i, .ref x)) (k : gm_XG g own nm cc nL rt R PP cu su (pc + 1) lv (.ref x :: st) h) : gm_XG g own nm cc nL rt R PP cu su pc lv st h :=
  fun p e s m args below meth c H locs ls C hP hz hS hl => lv_aload_n C.1 C.2.1 hd hi (gm_lv_at hl q hq) (k p e s m args below meth c H locs ls C hP hz hS hl)
theorem gx_aload {i : Nat} {x : Nat} (q : Nat) (hd : decode cc pc = .ok (.aload i, 2)) (hq : lv[q]? = some (i, .ref x)) (k : gm_XG g own nm cc nL rt R PP cu su (pc + 2) lv (.ref x :: st) h) : gm_XG g own nm cc nL rt R PP cu su pc lv st h :=
  fun p e s m args below meth c H locs ls C hP hz hS hl => lv_aload C.1 C.2.1 hd (gm_lv_at hl q hq) (k p e s m args below meth c H locs ls C hP hz hS hl)
theorem gx_istore_n {n : Fin 4} {i : Nat} {x : Int32} {lv' : List (Nat × Value)} (hd : decode cc pc = .ok (.istore_n n, 1)) (hi : (n : Nat) = i) (hn : Nat.blt (i) nL = true) (hv : gm_set lv i (.int x) = lv') (k : gm_XG g own nm cc nL rt R PP cu su (pc + 1) lv' st h) : gm_XG g own nm cc nL rt R PP cu su pc lv (.int x :: st) h :=
  fun p e s m args below meth c H locs ls C hP hz hS hl => lv_istore_n C.1 C.2.1 hd hi hl (gm_blt hn) rfl (fun ls hl => k p e s m args below meth c H locs ls C hP hz hS (hv ▸ gm_has hl))
theorem gx_istore {i : Nat} {x : Int32} {lv' : List (Nat × Value)} (hd : decode cc pc = .ok (.istore i, 2)) (hn : Nat.blt (i) nL = true) (hv : gm_set lv i (.int x) = lv') (k : gm_XG g own nm cc nL rt R PP cu su (pc + 2) lv' st h) : gm_XG g own nm cc nL rt R PP cu su pc lv (.int x :: st) h :=
  fun p e s m args below meth c H locs ls C hP hz hS hl => lv_istore C.1 C.2.1 hd hl (gm_blt hn) rfl (fun ls hl => k p e s m args below meth c H locs ls C hP hz hS (hv ▸ gm_has hl))
theorem gx_astore_n {n : Fin 4} {i : Nat} {x : Nat} {lv' : List (Nat × Value)} (hd : decode cc pc = .ok (.astore_n n, 1)) (hi : (n : Nat) = i) (hn : Nat.blt (i) nL = true) (hv : gm_set lv i (.ref x) = lv') (k : gm_XG g own nm cc nL rt R PP cu su (pc + 1) lv' st h) : gm_XG g own nm cc nL rt R PP cu su pc lv (.ref x :: st) h :=
  fun p e s m args below meth c H locs ls C hP hz hS hl => lv_astore_n C.1 C.2.1 hd hi hl (gm_blt hn) rfl (fun ls hl => k p e s m args below meth c H locs ls C hP hz hS (hv ▸ gm_has hl))
theorem gx_astore {i : Nat} {x : Nat} {lv' : List (Nat × Value)} (hd : decode cc pc = .ok (.astore i, 2)) (hn : Nat.blt (i) nL = true) (hv : gm_set lv i (.ref x) = lv') (k : gm_XG g own nm cc nL rt R PP cu su (pc + 2) lv' st h) : gm_XG g own nm cc nL rt R PP cu su pc lv (.ref x :: st) h :=
  fun p e s m args below meth c H locs ls C hP hz hS hl => lv_astore C.1 C.2.1 hd hl (gm_blt hn) rfl (fun ls hl => k p e s m args below meth c H locs ls C hP hz hS (hv ▸ gm_has hl))
theorem gx_lstore_n {n : Fin 4} {i : Nat} {x : Int64} {lv' : List (Nat × Value)} (hd : decode cc pc = .ok (.lstore_n n, 1)) (hi : (n : Nat) = i) (hn : Nat.blt (i + 1) nL = true) (hv : gm_set2 lv i (.long x) = lv') (k : gm_XG g own nm cc nL rt R PP cu su (pc + 1) lv' st h) : gm_XG g own nm cc nL rt R PP cu su pc lv (.long x :: st) h :=
  fun p e s m args below meth c H locs ls C hP hz hS hl => lv_lstore_n C.1 C.2.1 hd hi hl (gm_blt hn) rfl (fun ls hl => k p e s m args below meth c H locs ls C hP hz hS (hv ▸ gm_has2 hl))
theorem gx_lstore {i : Nat} {x : Int64} {lv' : List (Nat × Value)} (hd : decode cc pc = .ok (.lstore i, 2)) (hn : Nat.blt (i + 1) nL = true) (hv : gm_set2 lv i (.long x) = lv') (k : gm_XG g own nm cc nL rt R PP cu su (pc + 2) lv' st h) : gm_XG g own nm cc nL rt R PP cu su pc lv (.long x :: st) h :=
  fun p e s m args below meth c H locs ls C hP hz hS hl => lv_lstore C.1 C.2.1 hd hl (gm_blt hn) rfl (fun ls hl => k p e s m args below meth c H locs ls C hP hz hS (hv ▸ gm_has2 hl))
theorem gx_iinc {i : Nat} {n : Int} {x v : Int32} {lv' : List (Nat × Value)} (q : Nat) (hd : decode cc pc = .ok (.iinc i n, 3)) (hq : lv[q]? = some (i, .int x)) (hx : x + Int32.ofInt n = v) (hn : Nat.blt i nL = true) (hv : gm_set lv i (.int v) = lv') (k : gm_XG g own nm cc nL rt R PP cu su (pc + 3) lv' st h) : gm_XG g own nm cc nL rt R PP cu su pc lv st h :=
  fun p e s m args below meth c H locs ls C hP hz hS hl => lv_iinc (k := q) C.1 C.2.1 hd hl (by unfold gm_lv; rw [List.getElem?_map, hq]; rfl) hx (gm_blt hn) rfl (fun ls hl => k p e s m args below meth c H locs ls C hP hz hS (hv ▸ gm_has hl))
theorem gx_sub (ks : List Nat) {lv' : List (Nat × Value)} (hk : lv_pick lv ks = lv') (k : gm_XG g own nm cc nL rt R PP cu su pc lv' st h) : gm_XG g own nm cc nL rt R PP cu su pc lv st h :=
  fun p e s m args below meth c H locs ls C hP hz hS hl => k p e s m args below meth c H locs ls C hP hz hS (gm_pick ks hk hl)
theorem gx_dup {v : Value} (hd : decode cc pc = .ok (.dup, 1)) (hv : v.category = 1) (k : gm_XG g own nm cc nL rt R PP cu su (pc + 1) lv (v :: v :: st) h) : gm_XG g own nm cc nL rt R PP cu su pc lv (v :: st) h :=
  fun p e s m args below meth c H locs ls C hP hz hS hl => lv_dup C.1 C.2.1 hd ((gm_v_cat g v).trans hv) (k p e s m args below meth c H locs ls C hP hz hS hl)
theorem gx_dup2 {v w : Value} (hd : decode cc pc = .ok (.dup2, 1)) (hv : v.category = 1) (hw : w.category = 1) (k : gm_XG g own nm cc nL rt R PP cu su (pc + 1) lv (v :: w :: v :: w :: st) h) : gm_XG g own nm cc nL rt R PP cu su pc lv (v :: w :: st) h :=
  fun p e s m args below meth c H locs ls C hP hz hS hl => lv_dup2_11 C.1 C.2.1 hd ((gm_v_cat g v).trans hv) ((gm_v_cat g w).trans hw) (k p e s m args below meth c H locs ls C hP hz hS hl)
theorem gx_pop {v : Value} (hd : decode cc pc = .ok (.pop, 1)) (hv : v.category = 1) (k : gm_XG g own nm cc nL rt R PP cu su (pc + 1) lv st h) : gm_XG g own nm cc nL rt R PP cu su pc lv (v :: st) h :=
  fun p e s m args below meth c H locs ls C hP hz hS hl => lv_pop C.1 C.2.1 hd ((gm_v_cat g v).trans hv) (k p e s m args below meth c H locs ls C hP hz hS hl)
theorem gx_pop2 {v : Value} (hd : decode cc pc = .ok (.pop2, 1)) (hv : v.category = 2) (k : gm_XG g own nm cc nL rt R PP cu su (pc + 1) lv st h) : gm_XG g own nm cc nL rt R PP cu su pc lv (v :: st) h :=
  fun p e s m args below meth c H locs ls C hP hz hS hl => lv_pop2_2 C.1 C.2.1 hd ((gm_v_cat g v).trans hv) (k p e s m args below meth c H locs ls C hP hz hS hl)
theorem gx_goto {off : Int} (tgt : Nat) (hd : decode cc pc = .ok (.goto off, 3)) (ht : (pc : Int) + off = (tgt : Int)) (k : gm_XG g own nm cc nL rt R PP cu su tgt lv st h) : gm_XG g own nm cc nL rt R PP cu su pc lv st h :=
  fun p e s m args below meth c H locs ls C hP hz hS hl => lv_goto C.1 C.2.1 hd ht (k p e s m args below meth c H locs ls C hP hz hS hl)
theorem gx_if_eq {x : Int32} {off : Int} (tgt : Nat) (hd : decode cc pc = .ok (.ifCond .eq off, 3)) (ht : (pc : Int) + off = (tgt : Int)) (k : (x = 0 → gm_XG g own nm cc nL rt R PP cu su tgt lv st h) ∧ (¬ (x = 0) → gm_XG g own nm cc nL rt R PP cu su (pc + 3) lv st h)) : gm_XG g own nm cc nL rt R PP cu su pc lv (.int x :: st) h :=
  fun p e s m args below meth c H locs ls C hP hz hS hl => lv_if_eq C.1 C.2.1 hd ht (fun z => k.1 z p e s m args below meth c H locs ls C hP hz hS hl) (fun z => k.2 z p e s m args below meth c H locs ls C hP hz hS hl)
theorem gx_icmp_eq {x y : Int32} {off : Int} (tgt : Nat) (hd : decode cc pc = .ok (.if_icmp .eq off, 3)) (ht : (pc : Int) + off = (tgt : Int)) (k : (x = y → gm_XG g own nm cc nL rt R PP cu su tgt lv st h) ∧ (¬ (x = y) → gm_XG g own nm cc nL rt R PP cu su (pc + 3) lv st h)) : gm_XG g own nm cc nL rt R PP cu su pc lv (.int y :: .int x :: st) h :=
  fun p e s m args below meth c H locs ls C hP hz hS hl => lv_icmp_eq C.1 C.2.1 hd ht (fun z => k.1 z p e s m args below meth c H locs ls C hP hz hS hl) (fun z => k.2 z p e s m args below meth c H locs ls C hP hz hS hl)
theorem gx_if_ne {x : Int32} {off : Int} (tgt : Nat) (hd : decode cc pc = .ok (.ifCond .ne off, 3)) (ht : (pc : Int) + off = (tgt : Int)) (k : (x = 0 → gm_XG g own nm cc nL rt R PP cu su (pc + 3) lv st h) ∧ (¬ (x = 0) → gm_XG g own nm cc nL rt R PP cu su tgt lv st h)) : gm_XG g own nm cc nL rt R PP cu su pc lv (.int x :: st) h :=
  fun p e s m args below meth c H locs ls C hP hz hS hl => lv_if_ne C.1 C.2.1 hd ht (fun z => k.2 z p e s m args below meth c H locs ls C hP hz hS hl) (fun z => k.1 z p e s m args below meth c H locs ls C hP hz hS hl)
theorem gx_icmp_ne {x y : Int32} {off : Int} (tgt : Nat) (hd : decode cc pc = .ok (.if_icmp .ne off, 3)) (ht : (pc : Int) + off = (tgt : Int)) (k : (x = y → gm_XG g own nm cc nL rt R PP cu su (pc + 3) lv st h) ∧ (¬ (x = y) → gm_XG g own nm cc nL rt R PP cu su tgt lv st h)) : gm_XG g own nm cc nL rt R PP cu su pc lv (.int y :: .int x :: st) h :=
  fun p e s m args below meth c H locs ls C hP hz hS hl => lv_icmp_ne C.1 C.2.1 hd ht (fun z => k.2 z p e s m args below meth c H locs ls C hP hz hS hl) (fun z => k.1 z p e s m args below meth c H locs ls C hP hz hS hl)
theorem gx_if_lt {x : Int32} {off : Int} (tgt : Nat) (hd : decode cc pc = .ok (.ifCond .lt off, 3)) (ht : (pc : Int) + off = (tgt : Int)) (k : (x < 0 → gm_XG g own nm cc nL rt R PP cu su tgt lv st h) ∧ (¬ (x < 0) → gm_XG g own nm cc nL rt R PP cu su (pc + 3) lv st h)) : gm_XG g own nm cc nL rt R PP cu su pc lv (.int x :: st) h :=
  fun p e s m args below meth c H locs ls C hP hz hS hl => lv_if_lt C.1 C.2.1 hd ht (fun z => k.1 z p e s m args below meth c H locs ls C hP hz hS hl) (fun z => k.2 z p e s m args below meth c H locs ls C hP hz hS hl)
theorem gx_icmp_lt {x y : Int32} {off : Int} (tgt : Nat) (hd : decode cc pc = .ok (.if_icmp .lt off, 3)) (ht : (pc : Int) + off = (tgt : Int)) (k : (x < y → gm_XG g own nm cc nL rt R PP cu su tgt lv st h) ∧ (¬ (x < y) → gm_XG g own nm cc nL rt R PP cu su (pc + 3) lv st h)) : gm_XG g own nm cc nL rt R PP cu su pc lv (.int y :: .int x :: st) h :=
  fun p e s m args below meth c H locs ls C hP hz hS hl => lv_icmp_lt C.1 C.2.1 hd ht (fun z => k.1 z p e s m args below meth c H locs ls C hP hz hS hl) (fun z => k.2 z p e s m args below meth c H locs ls C hP hz hS hl)
theorem gx_if_ge {x : Int32} {off : Int} (tgt : Nat) (hd : decode cc pc = .ok (.ifCond .ge off, 3)) (ht : (pc : Int) + off = (tgt : Int)) (k : (0 ≤ x → gm_XG g own nm cc nL rt R PP cu su tgt lv st h) ∧ (¬ (0 ≤ x) → gm_XG g own nm cc nL rt R PP cu su (pc + 3) lv st h)) : gm_XG g own nm cc nL rt R PP cu su pc lv (.int x :: st) h :=
  fun p e s m args below meth c H locs ls C hP hz hS hl => lv_if_ge C.1 C.2.1 hd ht (fun z => k.1 z p e s m args below meth c H locs ls C hP hz hS hl) (fun z => k.2 z p e s m args below meth c H locs ls C hP hz hS hl)
theorem gx_icmp_ge {x y : Int32} {off : Int} (tgt : Nat) (hd : decode cc pc = .ok (.if_icmp .ge off, 3)) (ht : (pc : Int) + off = (tgt : Int)) (k : (y ≤ x → gm_XG g own nm cc nL rt R PP cu su tgt lv st h) ∧ (¬ (y ≤ x) → gm_XG g own nm cc nL rt R PP cu su (pc + 3) lv st h)) : gm_XG g own nm cc nL rt R PP cu su pc lv (.int y :: .int x :: st) h :=
  fun p e s m args below meth c H locs ls C hP hz hS hl => lv_icmp_ge C.1 C.2.1 hd ht (fun z => k.1 z p e s m args below meth c H locs ls C hP hz hS hl) (fun z => k.2 z p e s m args below meth c H locs ls C hP hz hS hl)
theorem gx_if_gt {x : Int32} {off : Int} (tgt : Nat) (hd : decode cc pc = .ok (.ifCond .gt off, 3)) (ht : (pc : Int) + off = (tgt : Int)) (k : (0 < x → gm_XG g own nm cc nL rt R PP cu su tgt lv st h) ∧ (¬ (0 < x) → gm_XG g own nm cc nL rt R PP cu su (pc + 3) lv st h)) : gm_XG g own nm cc nL rt R PP cu su pc lv (.int x :: st) h :=
  fun p e s m args below meth c H locs ls C hP hz hS hl => lv_if_gt C.1 C.2.1 hd ht (fun z => k.1 z p e s m args below meth c H locs ls C hP hz hS hl) (fun z => k.2 z p e s m args below meth c H locs ls C hP hz hS hl)
theorem gx_icmp_gt {x y : Int32} {off : Int} (tgt : Nat) (hd : decode cc pc = .ok (.if_icmp .gt off, 3)) (ht : (pc : Int) + off = (tgt : Int)) (k : (y < x → gm_XG g own nm cc nL rt R PP cu su tgt lv st h) ∧ (¬ (y < x) → gm_XG g own nm cc nL rt R PP cu su (pc + 3) lv st h)) : gm_XG g own nm cc nL rt R PP cu su pc lv (.int y :: .int x :: st) h :=
  fun p e s m args below meth c H locs ls C hP hz hS hl => lv_icmp_gt C.1 C.2.1 hd ht (fun z => k.1 z p e s m args below meth c H locs ls C hP hz hS hl) (fun z => k.2 z p e s m args below meth c H locs ls C hP hz hS hl)
theorem gx_if_le {x : Int32} {off : Int} (tgt : Nat) (hd : decode cc pc = .ok (.ifCond .le off, 3)) (ht : (pc : Int) + off = (tgt : Int)) (k : (x ≤ 0 → gm_XG g own nm cc nL rt R PP cu su tgt lv st h) ∧ (¬ (x ≤ 0) → gm_XG g own nm cc nL rt R PP cu su (pc + 3) lv st h)) : gm_XG g own nm cc nL rt R PP cu su pc lv (.int x :: st) h :=
  fun p e s m args below meth c H locs ls C hP hz hS hl => lv_if_le C.1 C.2.1 hd ht (fun z => k.1 z p e s m args below meth c H locs ls C hP hz hS hl) (fun z => k.2 z p e s m args below meth c H locs ls C hP hz hS hl)
theorem gx_icmp_le {x y : Int32} {off : Int} (tgt : Nat) (hd : decode cc pc = .ok (.if_icmp .le off, 3)) (ht : (pc : Int) + off = (tgt : Int)) (k : (x ≤ y → gm_XG g own nm cc nL rt R PP cu su tgt lv st h) ∧ (¬ (x ≤ y) → gm_XG g own nm cc nL rt R PP cu su (pc + 3) lv st h)) : gm_XG g own nm cc nL rt R PP cu su pc lv (.int y :: .int x :: st) h :=
  fun p e s m args below meth c H locs ls C hP hz hS hl => lv_icmp_le C.1 C.2.1 hd ht (fun z => k.1 z p e s m args below meth c H locs ls C hP hz hS hl) (fun z => k.2 z p e s m args below meth c H locs ls C hP hz hS hl)
theorem gx_lcmp_eq {x y : Int64} {off : Int} (tgt : Nat) (hd : decode cc pc = .ok (.lcmp, 1)) (hd2 : decode cc (pc + 1) = .ok (.ifCond .eq off, 3)) (ht : ((pc + 1 : Nat) : Int) + off = (tgt : Int)) (k : (x = y → gm_XG g own nm cc nL rt R PP cu su tgt lv st h) ∧ (¬ (x = y) → gm_XG g own nm cc nL rt R PP cu su (pc + 4) lv st h)) : gm_XG g own nm cc nL rt R PP cu su pc lv (.long y :: .long x :: st) h :=
  fun p e s m args below meth c H locs ls C hP hz hS hl => W.lcmp C.1 C.2.1 hd (lv_if_eq C.1 C.2.1 hd2 ht (fun z => k.1 ((lg_cmp_eq x y).mp z) p e s m args below meth c H locs ls C hP hz hS hl) (fun z => k.2 (fun w => z ((lg_cmp_eq x y).mpr w)) p e s m args below meth c H locs ls C hP hz hS hl))
theorem gx_lcmp_ne {x y : Int64} {off : Int} (tgt : Nat) (hd : decode cc pc = .ok (.lcmp, 1)) (hd2 : decode cc (pc + 1) = .ok (.ifCond .ne off, 3)) (ht : ((pc + 1 : Nat) : Int) + off = (tgt : Int)) (k : (x = y → gm_XG g own nm cc nL rt R PP cu su (pc + 4) lv st h) ∧ (¬ (x = y) → gm_XG g own nm cc nL rt R PP cu su tgt lv st h)) : gm_XG g own nm cc nL rt R PP cu su pc lv (.long y :: .long x :: st) h :=
  fun p e s m args below meth c H locs ls C hP hz hS hl => W.lcmp C.1 C.2.1 hd (lv_if_ne C.1 C.2.1 hd2 ht (fun z => k.2 (fun w => z ((lg_cmp_eq x y).mpr w)) p e s m args below meth c H locs ls C hP hz hS hl) (fun z => k.1 ((lg_cmp_eq x y).mp z) p e s m args below meth c H locs ls C hP hz hS hl))
theorem gx_lcmp_lt {x y : Int64} {off : Int} (tgt : Nat) (hd : decode cc pc = .ok (.lcmp, 1)) (hd2 : decode cc (pc + 1) = .ok (.ifCond .lt off, 3)) (ht : ((pc + 1 : Nat) : Int) + off = (tgt : Int)) (k : (x < y → gm_XG g own nm cc nL rt R PP cu su tgt lv st h) ∧ (¬ (x < y) → gm_XG g own nm cc nL rt R PP cu su (pc + 4) lv st h)) : gm_XG g own nm cc nL rt R PP cu su pc lv (.long y :: .long x :: st) h :=
  fun p e s m args below meth c H locs ls C hP hz hS hl => W.lcmp C.1 C.2.1 hd (lv_if_lt C.1 C.2.1 hd2 ht (fun z => k.1 ((lg_cmp_lt x y).mp z) p e s m args below meth c H locs ls C hP hz hS hl) (fun z => k.2 (fun w => z ((lg_cmp_lt x y).mpr w)) p e s m args below meth c H locs ls C hP hz hS hl))
theorem gx_lcmp_ge {x y : Int64} {off : Int} (tgt : Nat) (hd : decode cc pc = .ok (.lcmp, 1)) (hd2 : decode cc (pc + 1) = .ok (.ifCond .ge off, 3)) (ht : ((pc + 1 : Nat) : Int) + off = (tgt : Int)) (k : (y ≤ x → gm_XG g own nm cc nL rt R PP cu su tgt lv st h) ∧ (¬ (y ≤ x) → gm_XG g own nm cc nL rt R PP cu su (pc + 4) lv st h)) : gm_XG g own nm cc nL rt R PP cu su pc lv (.long y :: .long x :: st) h :=
  fun p e s m args below meth c H locs ls C hP hz hS hl => W.lcmp C.1 C.2.1 hd (lv_if_ge C.1 C.2.1 hd2 ht (fun z => k.1 ((lg_cmp_ge x y).mp z) p e s m args below meth c H locs ls C hP hz hS hl) (fun z => k.2 (fun w => z ((lg_cmp_ge x y).mpr w)) p e s m args below meth c H locs ls C hP hz hS hl))
theorem gx_lcmp_gt {x y : Int64} {off : Int} (tgt : Nat) (hd : decode cc pc = .ok (.lcmp, 1)) (hd2 : decode cc (pc + 1) = .ok (.ifCond .gt off, 3)) (ht : ((pc + 1 : Nat) : Int) + off = (tgt : Int)) (k : (y < x → gm_XG g own nm cc nL rt R PP cu su tgt lv st h) ∧ (¬ (y < x) → gm_XG g own nm cc nL rt R PP cu su (pc + 4) lv st h)) : gm_XG g own nm cc nL rt R PP cu su pc lv (.long y :: .long x :: st) h :=
  fun p e s m args below meth c H locs ls C hP hz hS hl => W.lcmp C.1 C.2.1 hd (lv_if_gt C.1 C.2.1 hd2 ht (fun z => k.1 ((lg_cmp_gt x y).mp z) p e s m args below meth c H locs ls C hP hz hS hl) (fun z => k.2 (fun w => z ((lg_cmp_gt x y).mpr w)) p e s m args below meth c H locs ls C hP hz hS hl))
theorem gx_lcmp_le {x y : Int64} {off : Int} (tgt : Nat) (hd : decode cc pc = .ok (.lcmp, 1)) (hd2 : decode cc (pc + 1) = .ok (.ifCond .le off, 3)) (ht : ((pc + 1 : Nat) : Int) + off = (tgt : Int)) (k : (x ≤ y → gm_XG g own nm cc nL rt R PP cu su tgt lv st h) ∧ (¬ (x ≤ y) → gm_XG g own nm cc nL rt R PP cu su (pc + 4) lv st h)) : gm_XG g own nm cc nL rt R PP cu su pc lv (.long y :: .long x :: st) h :=
  fun p e s m args below meth c H locs ls C hP hz hS hl => W.lcmp C.1 C.2.1 hd (lv_if_le C.1 C.2.1 hd2 ht (fun z => k.1 ((lg_cmp_le x y).mp z) p e s m args below meth c H locs ls C hP hz hS hl) (fun z => k.2 (fun w => z ((lg_cmp_le x y).mpr w)) p e s m args below meth c H locs ls C hP hz hS hl))
theorem gx_ifnull {x : Nat} {off : Int} (hd : decode cc pc = .ok (.ifnull off, 3)) (k : gm_XG g own nm cc nL rt R PP cu su (pc + 3) lv st h) : gm_XG g own nm cc nL rt R PP cu su pc lv (.ref x :: st) h :=
  fun p e s m args below meth c H locs ls C hP hz hS hl => lv_ifnull C.1 C.2.1 hd (k p e s m args below meth c H locs ls C hP hz hS hl)
theorem gm_ret {t : State} {s : State} {H : Heap} {locs : List Loc} {v : Option Value} {a : Array Value} (hP : va_P g.2.1 vwCl (gm_W g h) H) (hz : s.heap.size + mc = gm_bs g + h.1.length) (hS : va_S (gm_A g) s.heap H locs) (hq : Q v h) (ht : t.heap = H) : gm_Qc g mc Q a s (.returned (v.map (gm_v g))) t :=
  ⟨⟨v, h, rfl, hq, by rw [ht]; exact hP, hz⟩, hS.F ht⟩
theorem gx_iret {v : Int32} (hd : decode cc pc = .ok (.ireturn, 1)) (hr : rt = some .int) (hc : Nat.beq cu mc = true) (hs : Nat.ble su ms = true) (hq : Q (some (.int v)) h) : gm_X g own nm cc nL rt d mc ms Q cu su pc lv [.int v] h := by
  intro p e s m args below meth c H locs ls C hP hz hS hl
  subst hr
  unfold gm_PP
  have hlocks : meth.locks = false := C.2.2.2.2.2.2.1
  have hc2 := Nat.eq_of_beq_eq_true hc
  subst hc2
  refine W.widen (k := cu) (n := ms) (Nat.le_refl _) (Nat.le_of_ble_eq_true hs) ?_
  exact W.iret C.1 C.2.1 C.2.2.2.2.2.1 (fun t ht _ => gm_ret (v := some (.int v)) hP hz hS hq ht) hS.2.2 hd
theorem gx_zret {v : Int32} (ty : FieldType) (hd : decode cc pc = .ok (.ireturn, 1)) (hr : rt = some ty) (hn : narrow ty (.int v) = .int v) (hc : Nat.beq cu mc = true) (hs : Nat.ble su ms = true) (hq : Q (some (.int v)) h) : gm_X g own nm cc nL rt d mc ms Q cu su pc lv [.int v] h := by
  intro p e s m args below meth c H locs ls C hP hz hS hl
  subst hr
  unfold gm_PP
  have hlocks : meth.locks = false := C.2.2.2.2.2.2.1
  have hc2 := Nat.eq_of_beq_eq_true hc
  subst hc2
  refine W.widen (k := cu) (n := ms) (Nat.le_refl _) (Nat.le_of_ble_eq_true hs) ?_
  exact W.zret C.1 C.2.1 C.2.2.2.2.2.1 hn (fun t ht _ => gm_ret (v := some (.int v)) hP hz hS hq ht) hS.2.2 hd
theorem gx_lret {v : Int64} (hd : decode cc pc = .ok (.lreturn, 1)) (hr : rt = some .long) (hc : Nat.beq cu mc = true) (hs : Nat.ble su ms = true) (hq : Q (some (.long v)) h) : gm_X g own nm cc nL rt d mc ms Q cu su pc lv [.long v] h := by
  intro p e s m args below meth c H locs ls C hP hz hS hl
  subst hr
  unfold gm_PP
  have hlocks : meth.locks = false := C.2.2.2.2.2.2.1
  have hc2 := Nat.eq_of_beq_eq_true hc
  subst hc2
  refine W.widen (k := cu) (n := ms) (Nat.le_refl _) (Nat.le_of_ble_eq_true hs) ?_
  exact W.lret C.1 C.2.1 C.2.2.2.2.2.1 (fun t ht _ => gm_ret (v := some (.long v)) hP hz hS hq ht) hS.2.2 hd
theorem gx_vret  (hd : decode cc pc = .ok (.return_, 1)) (hr : rt = none) (hc : Nat.beq cu mc = true) (hs : Nat.ble su ms = true) (hq : Q none h) : gm_X g own nm cc nL rt d mc ms Q cu su pc lv [] h := by
  intro p e s m args below meth c H locs ls C hP hz hS hl
  subst hr
  unfold gm_PP
  have hlocks : meth.locks = false := C.2.2.2.2.2.2.1
  have hc2 := Nat.eq_of_beq_eq_true hc
  subst hc2
  refine W.widen (k := cu) (n := ms) (Nat.le_refl _) (Nat.le_of_ble_eq_true hs) ?_
  exact W.vret C.1 C.2.1 C.2.2.2.2.2.1 (fun t ht _ => gm_ret (v := none) hP hz hS hq ht) hS.2.2 hd
theorem gx_aret {v : Nat} {C0 : String} (hd : decode cc pc = .ok (.areturn, 1)) (hr : rt = some (.object C0)) (hc : Nat.beq cu mc = true) (hs : Nat.ble su ms = true) (hq : Q (some (.ref v)) h) : gm_X g own nm cc nL rt d mc ms Q cu su pc lv [.ref v] h := by
  intro p e s m args below meth c H locs ls C hP hz hS hl
  subst hr
  unfold gm_PP
  have hlocks : meth.locks = false := C.2.2.2.2.2.2.1
  have hc2 := Nat.eq_of_beq_eq_true hc
  subst hc2
  refine W.widen (k := cu) (n := ms) (Nat.le_refl _) (Nat.le_of_ble_eq_true hs) ?_
  exact W.aret (v := .ref (gm_ad g v)) C.1 C.2.1 C.2.2.2.2.2.1 (Or.inl ⟨_, rfl⟩) (Or.inr ⟨_, rfl⟩) (fun t ht _ => gm_ret (v := some (.ref v)) hP hz hS hq ht) hS.2.2 hd
theorem gx_ldc {idx : Nat} {v : Int32} (hd : decode cc pc = .ok (.ldc idx, 2)) (hw : Cond.constant own idx v ∈ gm_TB) (k : gm_XG g own nm cc nL rt R PP cu su (pc + 2) lv (.int v :: st) h) : gm_XG g own nm cc nL rt R PP cu su pc lv st h :=
  fun p e s m args below meth c H locs ls C hP hz hS hl => lv_ldc C.1 C.2.1 C.2.2.2.1 (C.2.2.2.2.1 _ hw) hd (k p e s m args below meth c H locs ls C hP hz hS hl)
theorem gx_ldc2 {idx : Nat} {v : Int64} (hd : decode cc pc = .ok (.ldc2_w idx, 3)) (hw : Cond.constantLong own idx v ∈ gm_TB) (k : gm_XG g own nm cc nL rt R PP cu su (pc + 3) lv (.long v :: st) h) : gm_XG g own nm cc nL rt R PP cu su pc lv st h :=
  fun p e s m args below meth c H locs ls C hP hz hS hl => lv_ldc2 C.1 C.2.1 C.2.2.2.1 (C.2.2.2.2.1 _ hw) hd (k p e s m args below meth c H locs ls C hP hz hS hl)
theorem gx_ldcS {idx : Nat} (i : Nat) (hd : decode cc pc = .ok (.ldc idx, 2)) (hi : i < 9) (ho : gm_so i = own) (hx : gm_si i = idx) (k : gm_XG g own nm cc nL rt R PP cu su (pc + 2) lv (.ref (1000 + i) :: st) h) : gm_XG g own nm cc nL rt R PP cu su pc lv st h :=
  fun p e s m args below meth c H locs ls C hP hz hS hl => va_ldcS C.1 C.2.1 C.2.2.2.1 (ho ▸ hx ▸ C.2.2.2.2.2.2.2.2.1.2.2.2.1 i hi) hd (k p e s m args below meth c H locs ls C hP hz hS hl)
/-- a field's link: class c, place k, kind kd -/
def gm_FL (own : String) (idx c k kd : Nat) : Prop := c < 12 ∧ k < gm_n c ∧ Cond.fieldLink own idx (gm_T c k).1 (gm_T c k).2.1 (gm_T c k).2.2.1 ∈ gm_TB ∧ gm_kd (gm_ty c k) = kd
theorem gx_geti (c k : Nat) {idx o : Nat} {v : Int32} (hd : decode cc pc = .ok (.getfield idx, 3)) (hf : gm_FL own idx c k 0) (ho : Nat.blt o 1000 = true) (hs : h.1[o]? = some (.inr c)) (hv : h.2.1 o k = v) (kk : gm_XG g own nm cc nL rt R PP cu su (pc + 3) lv (.int v :: st) h) : gm_XG g own nm cc nL rt R PP cu su pc lv (.ref o :: st) h := by
  obtain ⟨hc, hk, hw, hkd⟩ := hf
  intro p e s m args below meth c0 H locs ls C hP hz hS hl
  have e0 : gm_v g (.ref o) = .ref (gm_bs g + o) := congrArg Value.ref (gm_ad_lt (gm_blt ho))
  show W _ _ _ _ _ _ _ _ _ _ _ _ _ _ _ (F0 m pc ls (gm_v g (.ref o) :: st.map (gm_v g)))
  rw [e0]
  refine va_get (ci := c) (v := gm_v g (.int v)) C.1 C.2.1 C.2.2.2.2.1 (gm_inw hc) C.2.2.2.1 C.2.2.2.2.2.2.2.2.1.1 hP o (gm_W_at hs) (gm_cl hc) k hk (C.2.2.2.2.1 _ hw) (fun _ q => q) ?_ hd (kk p e s m args below meth c0 H locs ls C hP hz hS hl)
  rw [gm_fs_get hk]
  simp only [gm_fld, hkd]
  first | rw [hv] | skip
  rfl
theorem gx_getl (c k : Nat) {idx o : Nat} {v : Int64} (hd : decode cc pc = .ok (.getfield idx, 3)) (hf : gm_FL own idx c k 1) (ho : Nat.blt o 1000 = true) (hs : h.1[o]? = some (.inr c)) (hv : h.2.2.1 o k = v) (kk : gm_XG g own nm cc nL rt R PP cu su (pc + 3) lv (.long v :: st) h) : gm_XG g own nm cc nL rt R PP cu su pc lv (.ref o :: st) h := by
  obtain ⟨hc, hk, hw, hkd⟩ := hf
  intro p e s m args below meth c0 H locs ls C hP hz hS hl
  have e0 : gm_v g (.ref o) = .ref (gm_bs g + o) := congrArg Value.ref (gm_ad_lt (gm_blt ho))
  show W _ _ _ _ _ _ _ _ _ _ _ _ _ _ _ (F0 m pc ls (gm_v g (.ref o) :: st.map (gm_v g)))
  rw [e0]
  refine va_get (ci := c) (v := gm_v g (.long v)) C.1 C.2.1 C.2.2.2.2.1 (gm_inw hc) C.2.2.2.1 C.2.2.2.2.2.2.2.2.1.1 hP o (gm_W_at hs) (gm_cl hc) k hk (C.2.2.2.2.1 _ hw) (fun _ q => q) ?_ hd (kk p e s m args below meth c0 H locs ls C hP hz hS hl)
  rw [gm_fs_get hk]
  simp only [gm_fld, hkd]
  first | rw [hv] | skip
  rfl
theorem gx_getr (c k : Nat) {idx o : Nat} {v : Nat} (hd : decode cc pc = .ok (.getfield idx, 3)) (hf : gm_FL own idx c k 2) (ho : Nat.blt o 1000 = true) (hs : h.1[o]? = some (.inr c)) (hv : h.2.2.2 o k = some v) (kk : gm_XG g own nm cc nL rt R PP cu su (pc + 3) lv (.ref v :: st) h) : gm_XG g own nm cc nL rt R PP cu su pc lv (.ref o :: st) h := by
  obtain ⟨hc, hk, hw, hkd⟩ := hf
  intro p e s m args below meth c0 H locs ls C hP hz hS hl
  have e0 : gm_v g (.ref o) = .ref (gm_bs g + o) := congrArg Value.ref (gm_ad_lt (gm_blt ho))
  show W _ _ _ _ _ _ _ _ _ _ _ _ _ _ _ (F0 m pc ls (gm_v g (.ref o) :: st.map (gm_v g)))
  rw [e0]
  refine va_get (ci := c) (v := gm_v g (.ref v)) C.1 C.2.1 C.2.2.2.2.1 (gm_inw hc) C.2.2.2.1 C.2.2.2.2.2.2.2.2.1.1 hP o (gm_W_at hs) (gm_cl hc) k hk (C.2.2.2.2.1 _ hw) (fun _ q => q) ?_ hd (kk p e s m args below meth c0 H locs ls C hP hz hS hl)
  rw [gm_fs_get hk]
  simp only [gm_fld, hkd]
  first | rw [hv] | skip
  rfl
theorem gx_puti (c k : Nat) {idx o : Nat} {v : Int32} (hd : decode cc pc = .ok (.putfield idx, 3)) (hf : gm_FL own idx c k 0) (hf2 : (gm_T c k).2.2.2 = false) (ho : Nat.blt o 1000 = true) (hs : h.1[o]? = some (.inr c)) (hn : narrow (gm_ty c k) (.int v) = .int v ∧ fits (gm_ty c k) (.int v) = true) (kk : gm_XG g own nm cc nL rt R PP cu su (pc + 3) lv st (h.1, (gm_u h.2.1 o k v, h.2.2.1, h.2.2.2))) : gm_XG g own nm cc nL rt R PP cu su pc lv (.int v :: .ref o :: st) h := by
  obtain ⟨hc, hk, hw, hkd⟩ := hf
  intro p e s m args below meth c0 H locs ls C hP hz hS hl
  have e0 : gm_v g (.ref o) = .ref (gm_bs g + o) := congrArg Value.ref (gm_ad_lt (gm_blt ho))
  show W _ _ _ _ _ _ _ _ _ _ _ _ _ _ _ (F0 m pc ls (gm_v g (.int v) :: gm_v g (.ref o) :: st.map (gm_v g)))
  rw [e0]
  refine va_put (ci := c) (v := gm_v g (.int v)) (ty := gm_ty c k) C.1 C.2.1 C.2.2.2.2.1 (gm_inw hc) (gm_ty c) (gm_ty_ok hc) (gm_nm hc) C.2.2.2.1 C.2.2.2.2.2.2.2.2.1.1 hP (gm_D g h) hS o (gm_W_at hs) (gm_cl hc) k hk (C.2.2.2.2.1 _ hw) (fun _ q => q) hf2 (gm_ty_ok hc k hk) ?_ ?_ (by simpa using hk) hd (fun H1 locs1 hP1 hD1 hS1 => ?_)
  · exact gm_nar hn.1
  · exact gm_fit hn.2
  · refine kk p e s m args below meth c0 H1 locs1 ls C ?_ hz hS1 hl
    have e1 : gm_W g (h.1, (gm_u h.2.1 o k v, h.2.2.1, h.2.2.2)) = (gm_W g h).set o (gm_bs g + o, .inr (c, ((List.range (gm_n c)).map (fun k => gm_fld g h.2 o (gm_ty c k) k)).set k (gm_v g (.int v)))) := by
      refine gm_set_of (m := h.2) hs ?_ (fun j hj => ?_)
      · show (Sum.inr (c, (List.range (gm_n c)).map _) : va_E) = _
        rw [gm_range_set (F' := fun k_1 => gm_fld g ((gm_u h.2.1 o k v, h.2.2.1, h.2.2.2)) o (gm_ty c k_1) k_1)]
        · simp only [gm_fld, hkd, gm_u_eq]; rfl
        · intro j hj
          simp only [gm_fld, gm_u_ne2 _ _ _ _ hj]
      · refine ⟨?_, ?_, ?_⟩ <;> first | rfl | exact gm_u_ne _ _ _ hj
    rw [e1]
    exact hP1
theorem gx_putl (c k : Nat) {idx o : Nat} {v : Int64} (hd : decode cc pc = .ok (.putfield idx, 3)) (hf : gm_FL own idx c k 1) (hf2 : (gm_T c k).2.2.2 = false) (ho : Nat.blt o 1000 = true) (hs : h.1[o]? = some (.inr c)) (hn : narrow (gm_ty c k) (.long v) = .long v ∧ fits (gm_ty c k) (.long v) = true) (kk : gm_XG g own nm cc nL rt R PP cu su (pc + 3) lv st (h.1, (h.2.1, gm_u h.2.2.1 o k v, h.2.2.2))) : gm_XG g own nm cc nL rt R PP cu su pc lv (.long v :: .ref o :: st) h := by
  obtain ⟨hc, hk, hw, hkd⟩ := hf
  intro p e s m args below meth c0 H locs ls C hP hz hS hl
  have e0 : gm_v g (.ref o) = .ref (gm_bs g + o) := congrArg Value.ref (gm_ad_lt (gm_blt ho))
  show W _ _ _ _ _ _ _ _ _ _ _ _ _ _ _ (F0 m pc ls (gm_v g (.long v) :: gm_v g (.ref o) :: st.map (gm_v g)))
  rw [e0]
  refine va_put (ci := c) (v := gm_v g (.long v)) (ty := gm_ty c k) C.1 C.2.1 C.2.2.2.2.1 (gm_inw hc) (gm_ty c) (gm_ty_ok hc) (gm_nm hc) C.2.2.2.1 C.2.2.2.2.2.2.2.2.1.1 hP (gm_D g h) hS o (gm_W_at hs) (gm_cl hc) k hk (C.2.2.2.2.1 _ hw) (fun _ q => q) hf2 (gm_ty_ok hc k hk) ?_ ?_ (by simpa using hk) hd (fun H1 locs1 hP1 hD1 hS1 => ?_)
  · exact gm_nar hn.1
  · exact gm_fit hn.2
  · refine kk p e s m args below meth c0 H1 locs1 ls C ?_ hz hS1 hl
    have e1 : gm_W g (h.1, (h.2.1, gm_u h.2.2.1 o k v, h.2.2.2)) = (gm_W g h).set o (gm_bs g + o, .inr (c, ((List.range (gm_n c)).map (fun k => gm_fld g h.2 o (gm_ty c k) k)).set k (gm_v g (.long v)))) := by
      refine gm_set_of (m := h.2) hs ?_ (fun j hj => ?_)
      · show (Sum.inr (c, (List.range (gm_n c)).map _) : va_E) = _
        rw [gm_range_set (F' := fun k_1 => gm_fld g ((h.2.1, gm_u h.2.2.1 o k v, h.2.2.2)) o (gm_ty c k_1) k_1)]
        · simp only [gm_fld, hkd, gm_u_eq]; rfl
        · intro j hj
          simp only [gm_fld, gm_u_ne2 _ _ _ _ hj]
      · refine ⟨?_, ?_, ?_⟩ <;> first | rfl | exact gm_u_ne _ _ _ hj
    rw [e1]
    exact hP1
theorem gx_putr (c k : Nat) {idx o : Nat} {v : Nat} (hd : decode cc pc = .ok (.putfield idx, 3)) (hf : gm_FL own idx c k 2) (hf2 : (gm_T c k).2.2.2 = false) (ho : Nat.blt o 1000 = true) (hs : h.1[o]? = some (.inr c)) (hn : narrow (gm_ty c k) (.ref v) = .ref v ∧ fits (gm_ty c k) (.ref v) = true) (kk : gm_XG g own nm cc nL rt R PP cu su (pc + 3) lv st (h.1, (h.2.1, h.2.2.1, gm_u h.2.2.2 o k (some v)))) : gm_XG g own nm cc nL rt R PP cu su pc lv (.ref v :: .ref o :: st) h := by
  obtain ⟨hc, hk, hw, hkd⟩ := hf
  intro p e s m args below meth c0 H locs ls C hP hz hS hl
  have e0 : gm_v g (.ref o) = .ref (gm_bs g + o) := congrArg Value.ref (gm_ad_lt (gm_blt ho))
  show W _ _ _ _ _ _ _ _ _ _ _ _ _ _ _ (F0 m pc ls (gm_v g (.ref v) :: gm_v g (.ref o) :: st.map (gm_v g)))
  rw [e0]
  refine va_put (ci := c) (v := gm_v g (.ref v)) (ty := gm_ty c k) C.1 C.2.1 C.2.2.2.2.1 (gm_inw hc) (gm_ty c) (gm_ty_ok hc) (gm_nm hc) C.2.2.2.1 C.2.2.2.2.2.2.2.2.1.1 hP (gm_D g h) hS o (gm_W_at hs) (gm_cl hc) k hk (C.2.2.2.2.1 _ hw) (fun _ q => q) hf2 (gm_ty_ok hc k hk) ?_ ?_ (by simpa using hk) hd (fun H1 locs1 hP1 hD1 hS1 => ?_)
  · exact gm_nar hn.1
  · exact gm_fit hn.2
  · refine kk p e s m args below meth c0 H1 locs1 ls C ?_ hz hS1 hl
    have e1 : gm_W g (h.1, (h.2.1, h.2.2.1, gm_u h.2.2.2 o k (some v))) = (gm_W g h).set o (gm_bs g + o, .inr (c, ((List.range (gm_n c)).map (fun k => gm_fld g h.2 o (gm_ty c k) k)).set k (gm_v g (.ref v)))) := by
      refine gm_set_of (m := h.2) hs ?_ (fun j hj => ?_)
      · show (Sum.inr (c, (List.range (gm_n c)).map _) : va_E) = _
        rw [gm_range_set (F' := fun k_1 => gm_fld g ((h.2.1, h.2.2.1, gm_u h.2.2.2 o k (some v))) o (gm_ty c k_1) k_1)]
        · simp only [gm_fld, hkd, gm_u_eq]; rfl
        · intro j hj
          simp only [gm_fld, gm_u_ne2 _ _ _ _ hj]
      · refine ⟨?_, ?_, ?_⟩ <;> first | rfl | exact gm_u_ne _ _ _ hj
    rw [e1]
    exact hP1
theorem gx_putF (c k : Nat) {idx o : Nat} {v : Nat} (hd : decode cc pc = .ok (.putfield idx, 3)) (hf : gm_FL own idx c k 2) (hf2 : (gm_T c k).2.2.2 = true) (hnm : nm = "<init>") (hdc : (gm_T c k).1 = own) (ho : Nat.blt o 1000 = true) (hs : h.1[o]? = some (.inr c)) (hn : narrow (gm_ty c k) (.ref v) = .ref v ∧ fits (gm_ty c k) (.ref v) = true) (kk : gm_XG g own nm cc nL rt R PP cu su (pc + 3) lv st (h.1, (h.2.1, h.2.2.1, gm_u h.2.2.2 o k (some v)))) : gm_XG g own nm cc nL rt R PP cu su pc lv (.ref v :: .ref o :: st) h := by
  obtain ⟨hc, hk, hw, hkd⟩ := hf
  intro p e s m args below meth c0 H locs ls C hP hz hS hl
  have e0 : gm_v g (.ref o) = .ref (gm_bs g + o) := congrArg Value.ref (gm_ad_lt (gm_blt ho))
  show W _ _ _ _ _ _ _ _ _ _ _ _ _ _ _ (F0 m pc ls (gm_v g (.ref v) :: gm_v g (.ref o) :: st.map (gm_v g)))
  rw [e0]
  refine va_putF (ci := c) (v := gm_v g (.ref v)) (ty := gm_ty c k) C.1 C.2.1 C.2.2.2.2.1 (gm_inw hc) (gm_ty c) (gm_ty_ok hc) (gm_nm hc) C.2.2.2.1 C.2.2.2.2.2.2.2.2.1.1 hP (gm_D g h) hS o (gm_W_at hs) (gm_cl hc) k hk (C.2.2.2.2.1 _ hw) (fun _ q => q) hf2 (C.2.2.2.2.2.2.2.1.trans hnm) hdc (gm_ty_ok hc k hk) ?_ ?_ (by simpa using hk) hd (fun H1 locs1 hP1 hD1 hS1 => ?_)
  · exact gm_nar hn.1
  · exact gm_fit hn.2
  · refine kk p e s m args below meth c0 H1 locs1 ls C ?_ hz hS1 hl
    have e1 : gm_W g (h.1, (h.2.1, h.2.2.1, gm_u h.2.2.2 o k (some v))) = (gm_W g h).set o (gm_bs g + o, .inr (c, ((List.range (gm_n c)).map (fun k => gm_fld g h.2 o (gm_ty c k) k)).set k (gm_v g (.ref v)))) := by
      refine gm_set_of (m := h.2) hs ?_ (fun j hj => ?_)
      · show (Sum.inr (c, (List.range (gm_n c)).map _) : va_E) = _
        rw [gm_range_set (F' := fun k_1 => gm_fld g ((h.2.1, h.2.2.1, gm_u h.2.2.2 o k (some v))) o (gm_ty c k_1) k_1)]
        · simp only [gm_fld, hkd, gm_u_eq]; rfl
        · intro j hj
          simp only [gm_fld, gm_u_ne2 _ _ _ _ hj]
      · refine ⟨?_, ?_, ?_⟩ <;> first | rfl | exact gm_u_ne _ _ _ hj
    rw [e1]
    exact hP1
theorem gx_iald {a n k : Nat} {i : Int32} {v : Int32} (hd : decode cc pc = .ok (.iaload, 1)) (ho : Nat.blt a 1000 = true) (hs : h.1[a]? = some (.inl (0, n))) (hi : vp_in i n) (hk : i.toNatClampNeg = k) (hv : h.2.1 a k = v) (kk : gm_XG g own nm cc nL rt R PP cu su (pc + 1) lv (.int v :: st) h) : gm_XG g own nm cc nL rt R PP cu su pc lv (.int i :: .ref a :: st) h := by
  intro p e s m args below meth c0 H locs ls C hP hz hS hl
  have e0 : gm_v g (.ref a) = .ref (gm_bs g + a) := congrArg Value.ref (gm_ad_lt (gm_blt ho))
  show W _ _ _ _ _ _ _ _ _ _ _ _ _ _ _ (F0 m pc ls (.int i :: gm_v g (.ref a) :: st.map (gm_v g)))
  rw [e0]
  subst hk
  subst hv
  exact va_iald C.1 C.2.1 C.2.2.2.2.2.2.2.2.1.1 hP a 0 (gm_W_at hs) rfl hi hd (kk p e s m args below meth c0 H locs ls C hP hz hS hl)
theorem gx_lald {a n k : Nat} {i : Int32} {v : Int64} (hd : decode cc pc = .ok (.laload, 1)) (ho : Nat.blt a 1000 = true) (hs : h.1[a]? = some (.inl (1, n))) (hi : vp_in i n) (hk : i.toNatClampNeg = k) (hv : h.2.2.1 a k = v) (kk : gm_XG g own nm cc nL rt R PP cu su (pc + 1) lv (.long v :: st) h) : gm_XG g own nm cc nL rt R PP cu su pc lv (.int i :: .ref a :: st) h := by
  intro p e s m args below meth c0 H locs ls C hP hz hS hl
  have e0 : gm_v g (.ref a) = .ref (gm_bs g + a) := congrArg Value.ref (gm_ad_lt (gm_blt ho))
  show W _ _ _ _ _ _ _ _ _ _ _ _ _ _ _ (F0 m pc ls (.int i :: gm_v g (.ref a) :: st.map (gm_v g)))
  rw [e0]
  subst hk
  subst hv
  exact va_lald C.1 C.2.1 C.2.2.2.2.2.2.2.2.1.1 hP a 1 (gm_W_at hs) rfl hi hd (kk p e s m args below meth c0 H locs ls C hP hz hS hl)
theorem gx_bald {a n k : Nat} {i : Int32} {v : Int32} (hd : decode cc pc = .ok (.baload, 1)) (ho : Nat.blt a 1000 = true) (hs : h.1[a]? = some (.inl (2, n))) (hi : vp_in i n) (hk : i.toNatClampNeg = k) (hv : h.2.1 a k = v) (kk : gm_XG g own nm cc nL rt R PP cu su (pc + 1) lv (.int v :: st) h) : gm_XG g own nm cc nL rt R PP cu su pc lv (.int i :: .ref a :: st) h := by
  intro p e s m args below meth c0 H locs ls C hP hz hS hl
  have e0 : gm_v g (.ref a) = .ref (gm_bs g + a) := congrArg Value.ref (gm_ad_lt (gm_blt ho))
  show W _ _ _ _ _ _ _ _ _ _ _ _ _ _ _ (F0 m pc ls (.int i :: gm_v g (.ref a) :: st.map (gm_v g)))
  rw [e0]
  subst hk
  subst hv
  exact va_bald C.1 C.2.1 C.2.2.2.2.2.2.2.2.1.1 hP a 2 (gm_W_at hs) rfl hi hd (kk p e s m args below meth c0 H locs ls C hP hz hS hl)
theorem gx_zald {a n k : Nat} {i : Int32} {v : Int32} (hd : decode cc pc = .ok (.baload, 1)) (ho : Nat.blt a 1000 = true) (hs : h.1[a]? = some (.inl (3, n))) (hi : vp_in i n) (hk : i.toNatClampNeg = k) (hv : h.2.1 a k = v) (kk : gm_XG g own nm cc nL rt R PP cu su (pc + 1) lv (.int v :: st) h) : gm_XG g own nm cc nL rt R PP cu su pc lv (.int i :: .ref a :: st) h := by
  intro p e s m args below meth c0 H locs ls C hP hz hS hl
  have e0 : gm_v g (.ref a) = .ref (gm_bs g + a) := congrArg Value.ref (gm_ad_lt (gm_blt ho))
  show W _ _ _ _ _ _ _ _ _ _ _ _ _ _ _ (F0 m pc ls (.int i :: gm_v g (.ref a) :: st.map (gm_v g)))
  rw [e0]
  subst hk
  subst hv
  exact va_zald C.1 C.2.1 C.2.2.2.2.2.2.2.2.1.1 hP a 3 (gm_W_at hs) rfl hi hd (kk p e s m args below meth c0 H locs ls C hP hz hS hl)
theorem gx_iast {a n k : Nat} {i : Int32} {v : Int32} (hd : decode cc pc = .ok (.iastore, 1)) (ho : Nat.blt a 1000 = true) (hs : h.1[a]? = some (.inl (0, n))) (hi : vp_in i n) (hk : i.toNatClampNeg = k) (kk : gm_XG g own nm cc nL rt R PP cu su (pc + 1) lv st (h.1, (gm_u h.2.1 a k v, h.2.2.1, h.2.2.2))) : gm_XG g own nm cc nL rt R PP cu su pc lv (.int v :: .int i :: .ref a :: st) h := by
  intro p e s m args below meth c0 H locs ls C hP hz hS hl
  subst hk
  have e0 : gm_v g (.ref a) = .ref (gm_bs g + a) := congrArg Value.ref (gm_ad_lt (gm_blt ho))
  show W _ _ _ _ _ _ _ _ _ _ _ _ _ _ _ (F0 m pc ls (.int v :: .int i :: gm_v g (.ref a) :: st.map (gm_v g)))
  rw [e0]
  refine va_iast C.1 C.2.1 C.2.2.2.2.2.2.2.2.1.1 hP (gm_D g h) hS a 0 (gm_W_at hs) rfl hi hd (fun H1 locs1 hP1 hD1 hS1 => ?_)
  refine kk p e s m args below meth c0 H1 locs1 ls C ?_ hz hS1 hl
  refine (gm_set_of (m := h.2) (m' := (gm_u h.2.1 a i.toNatClampNeg v, h.2.2.1, h.2.2.2)) hs ?_ (fun j hj => ?_)) ▸ hP1
  · simp only [gm_E, gm_arr, gm_tyA, gm_kd, gm_u_self]
    rfl
  · refine ⟨?_, ?_, ?_⟩ <;> first | rfl | exact gm_u_ne _ _ _ hj
theorem gx_last {a n k : Nat} {i : Int32} {v : Int64} (hd : decode cc pc = .ok (.lastore, 1)) (ho : Nat.blt a 1000 = true) (hs : h.1[a]? = some (.inl (1, n))) (hi : vp_in i n) (hk : i.toNatClampNeg = k) (kk : gm_XG g own nm cc nL rt R PP cu su (pc + 1) lv st (h.1, (h.2.1, gm_u h.2.2.1 a k v, h.2.2.2))) : gm_XG g own nm cc nL rt R PP cu su pc lv (.long v :: .int i :: .ref a :: st) h := by
  intro p e s m args below meth c0 H locs ls C hP hz hS hl
  subst hk
  have e0 : gm_v g (.ref a) = .ref (gm_bs g + a) := congrArg Value.ref (gm_ad_lt (gm_blt ho))
  show W _ _ _ _ _ _ _ _ _ _ _ _ _ _ _ (F0 m pc ls (.long v :: .int i :: gm_v g (.ref a) :: st.map (gm_v g)))
  rw [e0]
  refine va_last C.1 C.2.1 C.2.2.2.2.2.2.2.2.1.1 hP (gm_D g h) hS a 1 (gm_W_at hs) rfl hi hd (fun H1 locs1 hP1 hD1 hS1 => ?_)
  refine kk p e s m args below meth c0 H1 locs1 ls C ?_ hz hS1 hl
  refine (gm_set_of (m := h.2) (m' := (h.2.1, gm_u h.2.2.1 a i.toNatClampNeg v, h.2.2.2)) hs ?_ (fun j hj => ?_)) ▸ hP1
  · simp only [gm_E, gm_arr, gm_tyA, gm_kd, gm_u_self]
    rfl
  · refine ⟨?_, ?_, ?_⟩ <;> first | rfl | exact gm_u_ne _ _ _ hj
theorem gx_bast {a n k : Nat} {i : Int32} {v : Int32} (hd : decode cc pc = .ok (.bastore, 1)) (ho : Nat.blt a 1000 = true) (hs : h.1[a]? = some (.inl (2, n))) (hi : vp_in i n) (hk : i.toNatClampNeg = k) (kk : gm_XG g own nm cc nL rt R PP cu su (pc + 1) lv st (h.1, (gm_u h.2.1 a k (vp_nar .byte v), h.2.2.1, h.2.2.2))) : gm_XG g own nm cc nL rt R PP cu su pc lv (.int v :: .int i :: .ref a :: st) h := by
  intro p e s m args below meth c0 H locs ls C hP hz hS hl
  subst hk
  have e0 : gm_v g (.ref a) = .ref (gm_bs g + a) := congrArg Value.ref (gm_ad_lt (gm_blt ho))
  show W _ _ _ _ _ _ _ _ _ _ _ _ _ _ _ (F0 m pc ls (.int v :: .int i :: gm_v g (.ref a) :: st.map (gm_v g)))
  rw [e0]
  refine va_bast C.1 C.2.1 C.2.2.2.2.2.2.2.2.1.1 hP (gm_D g h) hS a 2 (gm_W_at hs) rfl hi hd (fun H1 locs1 hP1 hD1 hS1 => ?_)
  refine kk p e s m args below meth c0 H1 locs1 ls C ?_ hz hS1 hl
  refine (gm_set_of (m := h.2) (m' := (gm_u h.2.1 a i.toNatClampNeg (vp_nar .byte v), h.2.2.1, h.2.2.2)) hs ?_ (fun j hj => ?_)) ▸ hP1
  · simp only [gm_E, gm_arr, gm_tyA, gm_kd, gm_u_self]
    rfl
  · refine ⟨?_, ?_, ?_⟩ <;> first | rfl | exact gm_u_ne _ _ _ hj
theorem gx_zast {a n k : Nat} {i : Int32} {v : Int32} (hd : decode cc pc = .ok (.bastore, 1)) (ho : Nat.blt a 1000 = true) (hs : h.1[a]? = some (.inl (3, n))) (hi : vp_in i n) (hk : i.toNatClampNeg = k) (kk : gm_XG g own nm cc nL rt R PP cu su (pc + 1) lv st (h.1, (gm_u h.2.1 a k (vp_nar .boolean v), h.2.2.1, h.2.2.2))) : gm_XG g own nm cc nL rt R PP cu su pc lv (.int v :: .int i :: .ref a :: st) h := by
  intro p e s m args below meth c0 H locs ls C hP hz hS hl
  subst hk
  have e0 : gm_v g (.ref a) = .ref (gm_bs g + a) := congrArg Value.ref (gm_ad_lt (gm_blt ho))
  show W _ _ _ _ _ _ _ _ _ _ _ _ _ _ _ (F0 m pc ls (.int v :: .int i :: gm_v g (.ref a) :: st.map (gm_v g)))
  rw [e0]
  refine va_zast C.1 C.2.1 C.2.2.2.2.2.2.2.2.1.1 hP (gm_D g h) hS a 3 (gm_W_at hs) rfl hi hd (fun H1 locs1 hP1 hD1 hS1 => ?_)
  refine kk p e s m args below meth c0 H1 locs1 ls C ?_ hz hS1 hl
  refine (gm_set_of (m := h.2) (m' := (gm_u h.2.1 a i.toNatClampNeg (vp_nar .boolean v), h.2.2.1, h.2.2.2)) hs ?_ (fun j hj => ?_)) ▸ hP1
  · simp only [gm_E, gm_arr, gm_tyA, gm_kd, gm_u_self]
    rfl
  · refine ⟨?_, ?_, ?_⟩ <;> first | rfl | exact gm_u_ne _ _ _ hj
theorem gx_alen {a t n : Nat} {v : Int32} (hd : decode cc pc = .ok (.arraylength, 1)) (ho : Nat.blt a 1000 = true) (hs : h.1[a]? = some (.inl (t, n))) (ht : Nat.blt t 7 = true) (hv : Int32.ofNat n = v) (kk : gm_XG g own nm cc nL rt R PP cu su (pc + 1) lv (.int v :: st) h) : gm_XG g own nm cc nL rt R PP cu su pc lv (.ref a :: st) h := by
  intro p e s m args below meth c0 H locs ls C hP hz hS hl
  have e0 : gm_v g (.ref a) = .ref (gm_bs g + a) := congrArg Value.ref (gm_ad_lt (gm_blt ho))
  show W _ _ _ _ _ _ _ _ _ _ _ _ _ _ _ (F0 m pc ls (gm_v g (.ref a) :: st.map (gm_v g)))
  rw [e0]
  exact va_alen (ty := gm_tyA t) C.1 C.2.1 C.2.2.2.2.2.2.2.2.1.1 hP a t (gm_W_at hs) (gm_tys_at (gm_blt ht)) hv hd (kk p e s m args below meth c0 H locs ls C hP hz hS hl)
theorem gm_kd_ref {ty : FieldType} (h : gm_kd ty = 2) : ty.isReference = true := by
  cases ty <;> first | rfl | (exact absurd h (by simp [gm_kd]))
theorem gx_aald {a t n k : Nat} {i : Int32} {v : Nat} (hd : decode cc pc = .ok (.aaload, 1)) (ho : Nat.blt a 1000 = true) (hs : h.1[a]? = some (.inl (t, n))) (ht : Nat.blt t 7 = true) (hC : gm_kd (gm_tyA t) = 2) (hi : vp_in i n) (hk : i.toNatClampNeg = k) (hv : h.2.2.2 a k = some v) (kk : gm_XG g own nm cc nL rt R PP cu su (pc + 1) lv (.ref v :: st) h) : gm_XG g own nm cc nL rt R PP cu su pc lv (.int i :: .ref a :: st) h := by
  intro p e s m args below meth c0 H locs ls C hP hz hS hl
  subst hk
  have e0 : gm_v g (.ref a) = .ref (gm_bs g + a) := congrArg Value.ref (gm_ad_lt (gm_blt ho))
  show W _ _ _ _ _ _ _ _ _ _ _ _ _ _ _ (F0 m pc ls (.int i :: gm_v g (.ref a) :: st.map (gm_v g)))
  rw [e0]
  have hlt : i.toNatClampNeg < n := Nat.not_le.mp fun q => hi (Or.inr q)
  have hce : H[gm_bs g + a]? = some (vp_cell (g.2.2.1 t) (n, gm_arr g h.2 a (gm_tyA t))) := hP a _ (gm_W_at hs)
  have e1 : gm_arr g h.2 a (gm_tyA t) = .inr (.inr (.inr (.inr (fun k => (h.2.2.2 a k).map (gm_ad g))))) := by simp only [gm_arr, hC]
  rw [e1, vp_cell_q] at hce
  refine W.aald (ty := gm_tyA t) (v := .ref (gm_ad g v)) C.1 C.2.1 hce ((C.2.2.2.2.2.2.2.2.1.1.2 t _ (gm_tys_at (gm_blt ht))).1 n _) (gm_kd_ref hC) (fun q => by cases q) (by rw [arrV_size]; exact hi) (by rw [arrV_read _ _ hlt, hv]; rfl) rfl rfl hd (kk p e s m args below meth c0 H locs ls C hP hz hS hl)
theorem gm_size {p : Program} {e : Env} {R : Room} {s : State} {m : MethodId} {args : Array Value} {below : List Frame} {meth : Method} {c : Code} {H : Heap} {locs : List Loc} {P : State → Prop} {G : JFrame} (hP : va_P g.2.1 vwCl (gm_W g h) H) (hz : s.heap.size + cu = gm_bs g + h.1.length) (hS : va_S (gm_A g) s.heap H locs) (hb : gm_bs g ≤ s.heap.size) (kk : H.size = gm_bs g + h.1.length → W p g.1 e R s m args below meth c H locs cu su P G) : W p g.1 e R s m args below meth c H locs cu su P G := by
  intro T hT X
  have h1 : T.heap.size ≤ s.heap.size + cu := X.heapSize
  rw [hT] at h1
  have h2 : gm_bs g + h.1.length ≤ H.size := by
    cases hn : h.1.length with
    | zero => have := hS.1; omega
    | succ n =>
      have hl : n < h.1.length := by omega
      have h3 := hP n _ (gm_W_at (List.getElem?_eq_getElem hl))
      have h4 := h3.lt
      have h5 : gm_bs g + n < H.size := h4
      omega
  exact kk (by omega) T hT X
theorem gm_go {p : Program} {e : Env} {s : State} {m : MethodId} {args : Array Value} {below : List Frame} {meth : Method} {c : Code} {H : Heap} {locs : List Loc} {ls : Array Slot} {mc' ms' : Nat} {st0 rest : List Value} {a : Array Value} {Q' : Option Value → gm_H → Prop}
    (hr : va_Run p g.1 e R s m args below meth c H locs cu su mc' ms' (F0 m pc ls st0) (rest.map (gm_v g)) (gm_Qc g mc' Q' a) (gm_A g)) (hH : H.size = gm_bs g + h.1.length) (hz : s.heap.size + cu = gm_bs g + h.1.length) (hS : va_S (gm_A g) s.heap H locs) (C : gm_C g own nm cc nL rt p s m args meth c) (hl : lv_has ls nL (gm_lv g lv))
    (kk : ∀ (v : Option Value) (h' : gm_H), Q' v h' → gm_XG g own nm cc nL rt R PP (cu + mc') (su + ms') (pc + 3) lv (v.toList ++ rest) h') : W p g.1 e R s m args below meth c H locs cu su (PP s args below) (F0 m pc ls st0) := by
  intro T hT X
  obtain ⟨v, st₀, t, T', L, h0, X', hL, e1, e2, ⟨⟨v', h', hv, hq, hP', hz'⟩, hy, hk⟩, stp⟩ := hr T hT X
  cases hv
  rw [h0] at hy hk hz'
  have hS' : va_S (gm_A g) s.heap T'.heap (locs ++ L) := ⟨Nat.le_trans hS.1 (by rw [e1]; exact hy), fun q h1 h2 => by rw [e1, hk q (Nat.lt_of_lt_of_le h1 hS.1) h2]; exact hS.2.1 q h1 h2, fun q hq => by
      rcases List.mem_append.mp hq with h | h
      · exact hS.2.2 q h
      · exact hL q h⟩
  obtain ⟨t2, a1, b1⟩ := kk v' h' hq p e s m args below meth c T'.heap (locs ++ L) ls C (by rw [e1]; exact hP') (by omega) hS' hl T' rfl X'
  refine ⟨t2, stp t2 ?_, b1⟩
  have e9 : (v'.toList ++ rest).map (gm_v g) = (v'.map (gm_v g)).toList ++ rest.map (gm_v g) := by cases v' <;> simp
  rw [e9] at a1
  exact a1
/-- what is fixed of a method that is called: its own words -/
def gm_MB (y : MethodName) (cc' : ByteArray) (nL' : Nat) (rt' : Option FieldType) (n : Nat) : Prop := Cond.code y cc' nL' rt' ∈ gm_TB ∧ Cond.initialized y.cls ∈ gm_TB ∧ (y.cls ≠ "java/lang/invoke/MethodHandle" ∧ y.cls ≠ "java/lang/invoke/VarHandle" ∧ (parseMethodDescriptor y.desc).map (fun d => d.parameters.length) = some n)
def gm_MV (y : MethodName) (cc' : ByteArray) (nL' : Nat) (rt' : Option FieldType) (n c : Nat) : Prop := gm_MB y cc' nL' rt' n ∧ Cond.instanceMethod y ∈ gm_TB ∧ Cond.selects y.cls y y ∈ gm_TB ∧ y.cls = gm_R c ∧ c < 12
def gm_MS (y : MethodName) (cc' : ByteArray) (nL' : Nat) (rt' : Option FieldType) (n : Nat) : Prop := gm_MB y cc' nL' rt' n ∧ Cond.static y ∈ gm_TB
def gm_MI (y : MethodName) (cc' : ByteArray) (nL' : Nat) (n : Nat) : Prop := gm_MB y cc' nL' none n ∧ Cond.instanceMethod y ∈ gm_TB ∧ y.name = "<init>"
theorem gm_ws_good {y : MethodName} {cc' : ByteArray} {nL' : Nat} {rt' : Option FieldType} (hc : Cond.code y cc' nL' rt' ∈ gm_TB) : GoodIn gm_TB (gm_ws y cc' nL' rt') := by
  intro w hw
  rcases List.mem_cons.mp hw with rfl | h
  · exact ⟨hc, gm_good hc⟩
  · exact ⟨h, gm_good h⟩
theorem gm_blind (g : gm_G) (as : List Value) (h : gm_H) : FrameBlind (gm_Pc g as h) := fun a U G mk q => ⟨q.1, q.2.1, q.2.2.1, gm_K.same (u := U) (U := U.calling G mk a) rfl rfl q.2.2.2⟩
theorem gm_depth {R : Room} {d' nL' mc' ms' : Nat} (hd : Nat.blt d' R.frames = true) (hn : Nat.ble (8 + (nL' + 11) + 64 * d') R.locals = true) : (gm_rm d' mc' ms').frames + 1 ≤ R.frames ∧ 8 + (nL' + 11) + (gm_rm d' mc' ms').locals ≤ R.locals := ⟨gm_blt hd, Nat.le_of_ble_eq_true hn⟩
theorem gm_cat (g : gm_G) (st : List Value) : ((st.map (gm_v g)).map fun v => v.category).sum = (st.map fun v => v.category).sum := by
  rw [List.map_map]
  congr 1
  apply List.map_congr_left
  intro v _
  exact gm_v_cat g v
theorem gx_callV (c : Nat) {y : MethodName} {cc' : ByteArray} {nL' : Nat} {rt' : Option FieldType} {d' mc' ms' idx n o : Nat} {As : List Value} {Q' : Option Value → gm_H → Prop} (hd : decode cc pc = .ok (.invokevirtual idx, 3)) (hlk : Cond.methodLink own idx y ∈ gm_TB) (hm : gm_MV y cc' nL' rt' n c) (ho : Nat.blt o 1000 = true) (hs : h.1[o]? = some (.inr c)) (hn : As.length = n) (hst : Nat.ble ((st.map fun v => v.category).sum) 8 = true) (hdp : Nat.blt d' R.frames = true) (hnl : Nat.ble (8 + (nL' + 11) + 64 * d') R.locals = true) (hcs : Nat.ble (cu + mc') R.cells = true ∧ Nat.ble (su + ms') R.slots = true) (hM : gm_Met g y cc' nL' rt' d' mc' ms' (.ref o :: As) h Q') (kk : ∀ (v : Option Value) (h' : gm_H), Q' v h' → gm_XG g own nm cc nL rt R PP (cu + mc') (su + ms') (pc + 3) lv (v.toList ++ st) h') : gm_XG g own nm cc nL rt R PP cu su pc lv (As.reverse ++ .ref o :: st) h := by
  obtain ⟨⟨w1, w2, w3⟩, w4, w5, w6, w7⟩ := hm
  intro p e s m args below meth c0 H locs ls C hP hz hS hl
  have e0 : gm_v g (.ref o) = .ref (gm_bs g + o) := congrArg Value.ref (gm_ad_lt (gm_blt ho))
  refine gm_size hP hz hS C.2.2.2.2.2.2.2.2.2 (fun hH => ?_)
  have eA : (As.reverse ++ .ref o :: st).map (gm_v g) = (As.map (gm_v g)).reverse ++ .ref (gm_bs g + o) :: st.map (gm_v g) := by rw [List.map_append, List.map_cons, e0, List.map_reverse]
  rw [eA]
  refine gm_go (va_runV (C := y.cls) (nL := nL) (As := As.map (gm_v g)) (rest := st.map (gm_v g)) ⟨C.1, C.2.1, C.2.2.1, C.2.2.2.1, C.2.2.2.2.1⟩ hM (cwV n C.2.2.2.2.1 (fun w hw => ?_) rfl rfl rfl ⟨rfl, w3⟩ (gm_depth hdp hnl)) ⟨gm_blind g _ h, ?_, fun U hU hW => ⟨?_, ?_, ?_, C.2.2.2.2.2.2.2.2.1.next hW hU hS⟩⟩ rfl (by rw [List.length_map]; exact hn) hl.1 rfl ?_ hd ⟨Nat.le_of_ble_eq_true hcs.1, Nat.le_of_ble_eq_true hcs.2⟩) hH hz hS C hl kk
  · unfold wsV at hw
    rcases List.mem_append.mp hw with q | q
    · simp only [List.mem_cons, List.not_mem_nil, or_false] at q
      rcases q with rfl | rfl | rfl | rfl
      · exact ⟨hlk, gm_good hlk⟩
      · exact ⟨w4, gm_good w4⟩
      · exact ⟨w5, gm_good w5⟩
      · exact ⟨w2, gm_good w2⟩
    · exact gm_ws_good w1 w q
  · have hr := va_recv C.2.2.2.2.2.2.2.2.1.1 hP (gm_cl w7) (gm_W_at (g := g) hs)
    rw [w6]
    exact hr
  · show _ = ((gm_v g (.ref o) :: As.map (gm_v g))).toArray
    rw [e0]
  · rw [hU]; exact hP
  · rw [hU]; exact hH
  · exact lv_room (by rw [gm_cat]; exact Nat.le_of_ble_eq_true hst)
theorem gx_callS {y : MethodName} {cc' : ByteArray} {nL' : Nat} {rt' : Option FieldType} {d' mc' ms' idx n : Nat} {As : List Value} {Q' : Option Value → gm_H → Prop} (hd : decode cc pc = .ok (.invokestatic idx, 3)) (hlk : Cond.methodLink own idx y ∈ gm_TB) (hm : gm_MS y cc' nL' rt' n) (hn : As.length = n) (hst : Nat.ble ((st.map fun v => v.category).sum) 8 = true) (hdp : Nat.blt d' R.frames = true) (hnl : Nat.ble (8 + (nL' + 11) + 64 * d') R.locals = true) (hcs : Nat.ble (cu + mc') R.cells = true ∧ Nat.ble (su + ms') R.slots = true) (hM : gm_Met g y cc' nL' rt' d' mc' ms' As h Q') (kk : ∀ (v : Option Value) (h' : gm_H), Q' v h' → gm_XG g own nm cc nL rt R PP (cu + mc') (su + ms') (pc + 3) lv (v.toList ++ st) h') : gm_XG g own nm cc nL rt R PP cu su pc lv (As.reverse ++ st) h := by
  obtain ⟨⟨w1, w2, w3⟩, w4⟩ := hm
  intro p e s m args below meth c0 H locs ls C hP hz hS hl
  refine gm_size hP hz hS C.2.2.2.2.2.2.2.2.2 (fun hH => ?_)
  have eA : (As.reverse ++ st).map (gm_v g) = (As.map (gm_v g)).reverse ++ st.map (gm_v g) := by rw [List.map_append, List.map_reverse]
  rw [eA]
  refine gm_go (va_runS (nL := nL) (As := As.map (gm_v g)) (rest := st.map (gm_v g)) ⟨C.1, C.2.1, C.2.2.1, C.2.2.2.1, C.2.2.2.2.1⟩ hM ⟨callB_of n C.2.2.2.2.1 (gm_ws_good w1) rfl rfl rfl (C.2.2.2.2.1 _ w2) (C.2.2.2.2.1 _ hlk) w3 (gm_depth hdp hnl), C.2.2.2.2.1 _ w4⟩ ⟨gm_blind g _ h, fun U hU hW => ⟨rfl, ?_, ?_, C.2.2.2.2.2.2.2.2.1.next hW hU hS⟩⟩ rfl (by rw [List.length_map]; exact hn) hl.1 rfl ?_ hd ⟨Nat.le_of_ble_eq_true hcs.1, Nat.le_of_ble_eq_true hcs.2⟩) hH hz hS C hl kk
  · rw [hU]; exact hP
  · rw [hU]; exact hH
  · exact lv_room (by rw [gm_cat]; exact Nat.le_of_ble_eq_true hst)
theorem gx_callI {y : MethodName} {cc' : ByteArray} {nL' : Nat} {d' mc' ms' idx n o : Nat} {As : List Value} {Q' : Option Value → gm_H → Prop} (hd : decode cc pc = .ok (.invokespecial idx, 3)) (hlk : Cond.methodLink own idx y ∈ gm_TB) (hm : gm_MI y cc' nL' n) (ho : Nat.blt o 1000 = true) (hn : As.length = n) (hst : Nat.ble ((st.map fun v => v.category).sum) 8 = true) (hdp : Nat.blt d' R.frames = true) (hnl : Nat.ble (8 + (nL' + 11) + 64 * d') R.locals = true) (hcs : Nat.ble (cu + mc') R.cells = true ∧ Nat.ble (su + ms') R.slots = true) (hM : gm_Met g y cc' nL' none d' mc' ms' (.ref o :: As) h Q') (kk : ∀ (v : Option Value) (h' : gm_H), Q' v h' → gm_XG g own nm cc nL rt R PP (cu + mc') (su + ms') (pc + 3) lv (v.toList ++ st) h') : gm_XG g own nm cc nL rt R PP cu su pc lv (As.reverse ++ .ref o :: st) h := by
  obtain ⟨⟨w1, w2, w3⟩, w4, w5⟩ := hm
  intro p e s m args below meth c0 H locs ls C hP hz hS hl
  have e0 : gm_v g (.ref o) = .ref (gm_bs g + o) := congrArg Value.ref (gm_ad_lt (gm_blt ho))
  refine gm_size hP hz hS C.2.2.2.2.2.2.2.2.2 (fun hH => ?_)
  have eA : (As.reverse ++ .ref o :: st).map (gm_v g) = (As.map (gm_v g)).reverse ++ .ref (gm_bs g + o) :: st.map (gm_v g) := by rw [List.map_append, List.map_cons, e0, List.map_reverse]
  rw [eA]
  refine gm_go (va_runI (nL := nL) (As := As.map (gm_v g)) (rest := st.map (gm_v g)) ⟨C.1, C.2.1, C.2.2.1, C.2.2.2.1, C.2.2.2.2.1⟩ hM ⟨callB_of n C.2.2.2.2.1 (gm_ws_good w1) rfl rfl rfl (C.2.2.2.2.1 _ w2) (C.2.2.2.2.1 _ hlk) w3 (gm_depth hdp hnl), w5, C.2.2.2.2.1 _ w4⟩ ⟨gm_blind g _ h, fun U hU hW => ⟨?_, ?_, ?_, C.2.2.2.2.2.2.2.2.1.next hW hU hS⟩⟩ rfl (by rw [List.length_map]; exact hn) hl.1 rfl ?_ hd ⟨Nat.le_of_ble_eq_true hcs.1, Nat.le_of_ble_eq_true hcs.2⟩) hH hz hS C hl kk
  · show _ = ((gm_v g (.ref o) :: As.map (gm_v g))).toArray
    rw [e0]
  · rw [hU]; exact hP
  · rw [hU]; exact hH
  · exact lv_room (by rw [gm_cat]; exact Nat.le_of_ble_eq_true hst)
theorem gx_callIN {y : MethodName} {cc' : ByteArray} {nL' : Nat} {d' mc' ms' idx n o : Nat} {As : List Value} {Q' : Option Value → gm_H → Prop} (hd : decode cc pc = .ok (.invokespecial idx, 3)) (host : String) (hlk : Cond.methodLinkNest own idx y host ∈ gm_NW) (hm : gm_MI y cc' nL' n) (ho : Nat.blt o 1000 = true) (hn : As.length = n) (hst : Nat.ble ((st.map fun v => v.category).sum) 8 = true) (hdp : Nat.blt d' R.frames = true) (hnl : Nat.ble (8 + (nL' + 11) + 64 * d') R.locals = true) (hcs : Nat.ble (cu + mc') R.cells = true ∧ Nat.ble (su + ms') R.slots = true) (hM : gm_Met g y cc' nL' none d' mc' ms' (.ref o :: As) h Q') (kk : ∀ (v : Option Value) (h' : gm_H), Q' v h' → gm_XG g own nm cc nL rt R PP (cu + mc') (su + ms') (pc + 3) lv (v.toList ++ st) h') : gm_XG g own nm cc nL rt R PP cu su pc lv (As.reverse ++ .ref o :: st) h := by
  obtain ⟨⟨w1, w2, w3⟩, w4, w5⟩ := hm
  intro p e s m args below meth c0 H locs ls C hP hz hS hl
  have e0 : gm_v g (.ref o) = .ref (gm_bs g + o) := congrArg Value.ref (gm_ad_lt (gm_blt ho))
  refine gm_size hP hz hS C.2.2.2.2.2.2.2.2.2 (fun hH => ?_)
  have eA : (As.reverse ++ .ref o :: st).map (gm_v g) = (As.map (gm_v g)).reverse ++ .ref (gm_bs g + o) :: st.map (gm_v g) := by rw [List.map_append, List.map_cons, e0, List.map_reverse]
  rw [eA]
  refine gm_go (va_runIN (nL := nL) (As := As.map (gm_v g)) (rest := st.map (gm_v g)) ⟨C.1, C.2.1, C.2.2.1, C.2.2.2.1, C.2.2.2.2.1⟩ hM ⟨va_cnB (host := host) n C.2.2.2.2.1 (gm_ws_good w1) rfl rfl rfl (C.2.2.2.2.2.2.2.2.1.2.1 _ hlk) (C.2.2.2.2.1 _ w2) w3 (gm_depth hdp hnl), w5, C.2.2.2.2.1 _ w4⟩ ⟨gm_blind g _ h, fun U hU hW => ⟨?_, ?_, ?_, C.2.2.2.2.2.2.2.2.1.next hW hU hS⟩⟩ rfl (by rw [List.length_map]; exact hn) hl.1 rfl ?_ hd ⟨Nat.le_of_ble_eq_true hcs.1, Nat.le_of_ble_eq_true hcs.2⟩) hH hz hS C hl kk
  · show _ = ((gm_v g (.ref o) :: As.map (gm_v g))).toArray
    rw [e0]
  · rw [hU]; exact hP
  · rw [hU]; exact hH
  · exact lv_room (by rw [gm_cat]; exact Nat.le_of_ble_eq_true hst)
end GX
