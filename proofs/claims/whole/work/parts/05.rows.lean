/-! ===== rows over EX: an instruction each ===== -/
section EXR
variable {g : GG} {Y : YY} {d mc ms ce sl pc : Nat} {lv : List (Nat × Value)} {st : List Value} {M : MM} {P : Option Value → MM → Prop}
theorem x_iconst {n : Int} {v : Int32} (hd : decode (yC Y) pc = .ok (.iconst n, 1)) (hv : Int32.ofInt n = v) (k : EX g Y d mc ms ce sl (pc + 1) lv (.int v :: st) M P) : EX g Y d mc ms ce sl pc lv (st) M P := by
  intro p e s m args below meth c H locs ls C hP hS hz hl
  exact lv_iconst C.1 C.2.1 hd hv (k p e s m args below meth c H locs ls C hP hS hz hl)
theorem x_bipush {n : Int} {v : Int32} (hd : decode (yC Y) pc = .ok (.bipush n, 2)) (hv : (Int8.ofInt n).toInt32 = v) (k : EX g Y d mc ms ce sl (pc + 2) lv (.int v :: st) M P) : EX g Y d mc ms ce sl pc lv (st) M P := by
  intro p e s m args below meth c H locs ls C hP hS hz hl
  exact lv_bipush C.1 C.2.1 hd hv (k p e s m args below meth c H locs ls C hP hS hz hl)
theorem x_sipush {n : Int} {v : Int32} (hd : decode (yC Y) pc = .ok (.sipush n, 3)) (hv : (Int16.ofInt n).toInt32 = v) (k : EX g Y d mc ms ce sl (pc + 3) lv (.int v :: st) M P) : EX g Y d mc ms ce sl pc lv (st) M P := by
  intro p e s m args below meth c H locs ls C hP hS hz hl
  exact lv_sipush C.1 C.2.1 hd hv (k p e s m args below meth c H locs ls C hP hS hz hl)
theorem x_lconst {n : Fin 2} {v : Int64} (hd : decode (yC Y) pc = .ok (.lconst n, 1)) (hv : Int64.ofNat (n : Nat) = v) (k : EX g Y d mc ms ce sl (pc + 1) lv (.long v :: st) M P) : EX g Y d mc ms ce sl pc lv (st) M P := by
  intro p e s m args below meth c H locs ls C hP hS hz hl
  exact lv_lconst C.1 C.2.1 hd hv (k p e s m args below meth c H locs ls C hP hS hz hl)
theorem x_iadd {x y : Int32} (hd : decode (yC Y) pc = .ok (.iadd, 1))  (k : EX g Y d mc ms ce sl (pc + 1) lv (.int (x + y) :: st) M P) : EX g Y d mc ms ce sl pc lv (.int y :: .int x :: st) M P := by
  intro p e s m args below meth c H locs ls C hP hS hz hl
  exact lv_iadd C.1 C.2.1 hd  (k p e s m args below meth c H locs ls C hP hS hz hl)
theorem x_isub {x y : Int32} (hd : decode (yC Y) pc = .ok (.isub, 1))  (k : EX g Y d mc ms ce sl (pc + 1) lv (.int (x - y) :: st) M P) : EX g Y d mc ms ce sl pc lv (.int y :: .int x :: st) M P := by
  intro p e s m args below meth c H locs ls C hP hS hz hl
  exact lv_isub C.1 C.2.1 hd  (k p e s m args below meth c H locs ls C hP hS hz hl)
theorem x_imul {x y : Int32} (hd : decode (yC Y) pc = .ok (.imul, 1))  (k : EX g Y d mc ms ce sl (pc + 1) lv (.int (x * y) :: st) M P) : EX g Y d mc ms ce sl pc lv (.int y :: .int x :: st) M P := by
  intro p e s m args below meth c H locs ls C hP hS hz hl
  exact lv_imul C.1 C.2.1 hd  (k p e s m args below meth c H locs ls C hP hS hz hl)
theorem x_iand {x y : Int32} (hd : decode (yC Y) pc = .ok (.iand, 1))  (k : EX g Y d mc ms ce sl (pc + 1) lv (.int (x &&& y) :: st) M P) : EX g Y d mc ms ce sl pc lv (.int y :: .int x :: st) M P := by
  intro p e s m args below meth c H locs ls C hP hS hz hl
  exact lv_iand C.1 C.2.1 hd  (k p e s m args below meth c H locs ls C hP hS hz hl)
theorem x_ior {x y : Int32} (hd : decode (yC Y) pc = .ok (.ior, 1))  (k : EX g Y d mc ms ce sl (pc + 1) lv (.int (x ||| y) :: st) M P) : EX g Y d mc ms ce sl pc lv (.int y :: .int x :: st) M P := by
  intro p e s m args below meth c H locs ls C hP hS hz hl
  exact lv_ior C.1 C.2.1 hd  (k p e s m args below meth c H locs ls C hP hS hz hl)
theorem x_ixor {x y : Int32} (hd : decode (yC Y) pc = .ok (.ixor, 1))  (k : EX g Y d mc ms ce sl (pc + 1) lv (.int (x ^^^ y) :: st) M P) : EX g Y d mc ms ce sl pc lv (.int y :: .int x :: st) M P := by
  intro p e s m args below meth c H locs ls C hP hS hz hl
  exact lv_ixor C.1 C.2.1 hd  (k p e s m args below meth c H locs ls C hP hS hz hl)
theorem x_ishl {x y : Int32} (hd : decode (yC Y) pc = .ok (.ishl, 1))  (k : EX g Y d mc ms ce sl (pc + 1) lv (.int (x <<< (y &&& 31)) :: st) M P) : EX g Y d mc ms ce sl pc lv (.int y :: .int x :: st) M P := by
  intro p e s m args below meth c H locs ls C hP hS hz hl
  exact lv_ishl C.1 C.2.1 hd  (k p e s m args below meth c H locs ls C hP hS hz hl)
theorem x_ishr {x y : Int32} (hd : decode (yC Y) pc = .ok (.ishr, 1))  (k : EX g Y d mc ms ce sl (pc + 1) lv (.int (x >>> (y &&& 31)) :: st) M P) : EX g Y d mc ms ce sl pc lv (.int y :: .int x :: st) M P := by
  intro p e s m args below meth c H locs ls C hP hS hz hl
  exact lv_ishr C.1 C.2.1 hd  (k p e s m args below meth c H locs ls C hP hS hz hl)
theorem x_iushr {x y : Int32} (hd : decode (yC Y) pc = .ok (.iushr, 1))  (k : EX g Y d mc ms ce sl (pc + 1) lv (.int ((x.toUInt32 >>> (y.toUInt32 &&& Int32.toUInt32 31)).toInt32) :: st) M P) : EX g Y d mc ms ce sl pc lv (.int y :: .int x :: st) M P := by
  intro p e s m args below meth c H locs ls C hP hS hz hl
  exact lv_iushr C.1 C.2.1 hd rfl (k p e s m args below meth c H locs ls C hP hS hz hl)
theorem x_idiv {x y : Int32} (hd : decode (yC Y) pc = .ok (.idiv, 1)) (hne : ¬ y = 0) (k : EX g Y d mc ms ce sl (pc + 1) lv (.int (x / y) :: st) M P) : EX g Y d mc ms ce sl pc lv (.int y :: .int x :: st) M P := by
  intro p e s m args below meth c H locs ls C hP hS hz hl
  exact lv_idiv C.1 C.2.1 hd hne (k p e s m args below meth c H locs ls C hP hS hz hl)
theorem x_irem {x y : Int32} (hd : decode (yC Y) pc = .ok (.irem, 1)) (hne : ¬ y = 0) (k : EX g Y d mc ms ce sl (pc + 1) lv (.int (x - x / y * y) :: st) M P) : EX g Y d mc ms ce sl pc lv (.int y :: .int x :: st) M P := by
  intro p e s m args below meth c H locs ls C hP hS hz hl
  exact lv_irem C.1 C.2.1 hd hne (k p e s m args below meth c H locs ls C hP hS hz hl)
theorem x_ineg {x : Int32} (hd : decode (yC Y) pc = .ok (.ineg, 1))  (k : EX g Y d mc ms ce sl (pc + 1) lv (.int (-x) :: st) M P) : EX g Y d mc ms ce sl pc lv (.int x :: st) M P := by
  intro p e s m args below meth c H locs ls C hP hS hz hl
  exact lv_ineg C.1 C.2.1 hd  (k p e s m args below meth c H locs ls C hP hS hz hl)
theorem x_ladd {x y : Int64} (hd : decode (yC Y) pc = .ok (.ladd, 1))  (k : EX g Y d mc ms ce sl (pc + 1) lv (.long (x + y) :: st) M P) : EX g Y d mc ms ce sl pc lv (.long y :: .long x :: st) M P := by
  intro p e s m args below meth c H locs ls C hP hS hz hl
  exact lv_ladd C.1 C.2.1 hd  (k p e s m args below meth c H locs ls C hP hS hz hl)
theorem x_lsub {x y : Int64} (hd : decode (yC Y) pc = .ok (.lsub, 1))  (k : EX g Y d mc ms ce sl (pc + 1) lv (.long (x - y) :: st) M P) : EX g Y d mc ms ce sl pc lv (.long y :: .long x :: st) M P := by
  intro p e s m args below meth c H locs ls C hP hS hz hl
  exact lv_lsub C.1 C.2.1 hd  (k p e s m args below meth c H locs ls C hP hS hz hl)
theorem x_lmul {x y : Int64} (hd : decode (yC Y) pc = .ok (.lmul, 1))  (k : EX g Y d mc ms ce sl (pc + 1) lv (.long (x * y) :: st) M P) : EX g Y d mc ms ce sl pc lv (.long y :: .long x :: st) M P := by
  intro p e s m args below meth c H locs ls C hP hS hz hl
  exact lv_lmul C.1 C.2.1 hd  (k p e s m args below meth c H locs ls C hP hS hz hl)
theorem x_land {x y : Int64} (hd : decode (yC Y) pc = .ok (.land, 1))  (k : EX g Y d mc ms ce sl (pc + 1) lv (.long (x &&& y) :: st) M P) : EX g Y d mc ms ce sl pc lv (.long y :: .long x :: st) M P := by
  intro p e s m args below meth c H locs ls C hP hS hz hl
  exact lv_land C.1 C.2.1 hd  (k p e s m args below meth c H locs ls C hP hS hz hl)
theorem x_lor {x y : Int64} (hd : decode (yC Y) pc = .ok (.lor, 1))  (k : EX g Y d mc ms ce sl (pc + 1) lv (.long (x ||| y) :: st) M P) : EX g Y d mc ms ce sl pc lv (.long y :: .long x :: st) M P := by
  intro p e s m args below meth c H locs ls C hP hS hz hl
  exact lv_lor C.1 C.2.1 hd  (k p e s m args below meth c H locs ls C hP hS hz hl)
theorem x_ldiv {x y : Int64} (hd : decode (yC Y) pc = .ok (.ldiv, 1)) (hne : ¬ y = 0) (k : EX g Y d mc ms ce sl (pc + 1) lv (.long (x / y) :: st) M P) : EX g Y d mc ms ce sl pc lv (.long y :: .long x :: st) M P := by
  intro p e s m args below meth c H locs ls C hP hS hz hl
  exact lv_ldiv C.1 C.2.1 hd hne (k p e s m args below meth c H locs ls C hP hS hz hl)
theorem x_lrem {x y : Int64} (hd : decode (yC Y) pc = .ok (.lrem, 1)) (hne : ¬ y = 0) (k : EX g Y d mc ms ce sl (pc + 1) lv (.long (x - x / y * y) :: st) M P) : EX g Y d mc ms ce sl pc lv (.long y :: .long x :: st) M P := by
  intro p e s m args below meth c H locs ls C hP hS hz hl
  exact lv_lrem C.1 C.2.1 hd hne (k p e s m args below meth c H locs ls C hP hS hz hl)
theorem x_lushr {x : Int64} {y : Int32} (hd : decode (yC Y) pc = .ok (.lushr, 1))  (k : EX g Y d mc ms ce sl (pc + 1) lv (.long ((x.toUInt64 >>> (y.toInt64.toUInt64 &&& Int64.toUInt64 63)).toInt64) :: st) M P) : EX g Y d mc ms ce sl pc lv (.int y :: .long x :: st) M P := by
  intro p e s m args below meth c H locs ls C hP hS hz hl
  exact lv_lushr C.1 C.2.1 hd rfl (k p e s m args below meth c H locs ls C hP hS hz hl)
theorem x_lshl {x : Int64} {y : Int32} (hd : decode (yC Y) pc = .ok (.lshl, 1))  (k : EX g Y d mc ms ce sl (pc + 1) lv (.long (x <<< (y.toInt64 &&& 63)) :: st) M P) : EX g Y d mc ms ce sl pc lv (.int y :: .long x :: st) M P := by
  intro p e s m args below meth c H locs ls C hP hS hz hl
  exact lv_lshl C.1 C.2.1 hd rfl (k p e s m args below meth c H locs ls C hP hS hz hl)
theorem x_lcmp {x y : Int64} (hd : decode (yC Y) pc = .ok (.lcmp, 1))  (k : EX g Y d mc ms ce sl (pc + 1) lv (.int (lg_cmp x y) :: st) M P) : EX g Y d mc ms ce sl pc lv (.long y :: .long x :: st) M P := by
  intro p e s m args below meth c H locs ls C hP hS hz hl
  exact W.lcmp C.1 C.2.1 hd  (k p e s m args below meth c H locs ls C hP hS hz hl)
theorem x_i2l {x : Int32} (hd : decode (yC Y) pc = .ok (.i2l, 1))  (k : EX g Y d mc ms ce sl (pc + 1) lv (.long x.toInt64 :: st) M P) : EX g Y d mc ms ce sl pc lv (.int x :: st) M P := by
  intro p e s m args below meth c H locs ls C hP hS hz hl
  exact lv_i2l C.1 C.2.1 hd rfl (k p e s m args below meth c H locs ls C hP hS hz hl)
theorem x_l2i {x : Int64} (hd : decode (yC Y) pc = .ok (.l2i, 1))  (k : EX g Y d mc ms ce sl (pc + 1) lv (.int x.toInt32 :: st) M P) : EX g Y d mc ms ce sl pc lv (.long x :: st) M P := by
  intro p e s m args below meth c H locs ls C hP hS hz hl
  exact lv_l2i C.1 C.2.1 hd rfl (k p e s m args below meth c H locs ls C hP hS hz hl)
theorem x_i2c {x : Int32} (hd : decode (yC Y) pc = .ok (.i2c, 1))  (k : EX g Y d mc ms ce sl (pc + 1) lv (.int ((x.toUInt32 % 65536).toInt32) :: st) M P) : EX g Y d mc ms ce sl pc lv (.int x :: st) M P := by
  intro p e s m args below meth c H locs ls C hP hS hz hl
  exact lv_i2c C.1 C.2.1 hd rfl (k p e s m args below meth c H locs ls C hP hS hz hl)
theorem x_dup {v : Value} (hd : decode (yC Y) pc = .ok (.dup, 1)) (hc : v.category = 1) (k : EX g Y d mc ms ce sl (pc + 1) lv (v :: v :: st) M P) : EX g Y d mc ms ce sl pc lv (v :: st) M P := by
  intro p e s m args below meth c H locs ls C hP hS hz hl
  exact lv_dup C.1 C.2.1 hd (by rw [xv_cat]; exact hc) (k p e s m args below meth c H locs ls C hP hS hz hl)
theorem x_pop {v : Value} (hd : decode (yC Y) pc = .ok (.pop, 1)) (hc : v.category = 1) (k : EX g Y d mc ms ce sl (pc + 1) lv (st) M P) : EX g Y d mc ms ce sl pc lv (v :: st) M P := by
  intro p e s m args below meth c H locs ls C hP hS hz hl
  exact lv_pop C.1 C.2.1 hd (by rw [xv_cat]; exact hc) (k p e s m args below meth c H locs ls C hP hS hz hl)
theorem x_dup2 {v w : Value} (hd : decode (yC Y) pc = .ok (.dup2, 1)) (hc : v.category = 1) (hc2 : w.category = 1) (k : EX g Y d mc ms ce sl (pc + 1) lv (v :: w :: v :: w :: st) M P) : EX g Y d mc ms ce sl pc lv (v :: w :: st) M P := by
  intro p e s m args below meth c H locs ls C hP hS hz hl
  exact lv_dup2_11 C.1 C.2.1 hd (by rw [xv_cat]; exact hc) (by rw [xv_cat]; exact hc2) (k p e s m args below meth c H locs ls C hP hS hz hl)
theorem x_dup22 {v : Value} (hd : decode (yC Y) pc = .ok (.dup2, 1)) (hc : v.category = 2) (k : EX g Y d mc ms ce sl (pc + 1) lv (v :: v :: st) M P) : EX g Y d mc ms ce sl pc lv (v :: st) M P := by
  intro p e s m args below meth c H locs ls C hP hS hz hl
  exact lv_dup2_2 C.1 C.2.1 hd (by rw [xv_cat]; exact hc) (k p e s m args below meth c H locs ls C hP hS hz hl)
theorem x_iload {i : Nat} {x : Int32} (hd : decode (yC Y) pc = .ok (.iload i, 2)) (q : Nat) (h : lv[q]? = some (i, .int x)) (k : EX g Y d mc ms ce sl (pc + 2) lv (.int x :: st) M P) : EX g Y d mc ms ce sl pc lv st M P := by
  intro p e s m args below meth c H locs ls C hP hS hz hl
  exact lv_iload C.1 C.2.1 hd (lv_at hl q (xlv_at h)) (k p e s m args below meth c H locs ls C hP hS hz hl)
theorem x_iload_n {i : Fin 4} {x : Int32} (hd : decode (yC Y) pc = .ok (.iload_n i, 1)) (q : Nat) (h : lv[q]? = some ((i : Nat), .int x)) (k : EX g Y d mc ms ce sl (pc + 1) lv (.int x :: st) M P) : EX g Y d mc ms ce sl pc lv st M P := by
  intro p e s m args below meth c H locs ls C hP hS hz hl
  exact lv_iload_n C.1 C.2.1 hd rfl (lv_at hl q (xlv_at h)) (k p e s m args below meth c H locs ls C hP hS hz hl)
theorem x_istore {i : Nat} {x : Int32} {lv1 : List (Nat × Value)} (hd : decode (yC Y) pc = .ok (.istore i, 2)) (hn : i < yL Y) (h : xs1 lv i (.int x) = lv1) (k : EX g Y d mc ms ce sl (pc + 2) lv1 st M P) : EX g Y d mc ms ce sl pc lv (.int x :: st) M P := by
  intro p e s m args below meth c H locs ls C hP hS hz hl
  subst h
  exact lv_istore C.1 C.2.1 hd hl hn (xs1_m g lv i (.int x)) (fun ls1 hl1 => k p e s m args below meth c H locs ls1 C hP hS hz hl1)
theorem x_istore_n {i : Fin 4} {x : Int32} {lv1 : List (Nat × Value)} (hd : decode (yC Y) pc = .ok (.istore_n i, 1)) (hn : (i : Nat) < yL Y) (h : xs1 lv (i : Nat) (.int x) = lv1) (k : EX g Y d mc ms ce sl (pc + 1) lv1 st M P) : EX g Y d mc ms ce sl pc lv (.int x :: st) M P := by
  intro p e s m args below meth c H locs ls C hP hS hz hl
  subst h
  exact lv_istore_n C.1 C.2.1 hd rfl hl hn (xs1_m g lv (i : Nat) (.int x)) (fun ls1 hl1 => k p e s m args below meth c H locs ls1 C hP hS hz hl1)
theorem x_lload {i : Nat} {x : Int64} (hd : decode (yC Y) pc = .ok (.lload i, 2)) (q : Nat) (h : lv[q]? = some (i, .long x)) (k : EX g Y d mc ms ce sl (pc + 2) lv (.long x :: st) M P) : EX g Y d mc ms ce sl pc lv st M P := by
  intro p e s m args below meth c H locs ls C hP hS hz hl
  exact lv_lload C.1 C.2.1 hd (lv_at hl q (xlv_at h)) (k p e s m args below meth c H locs ls C hP hS hz hl)
theorem x_lload_n {i : Fin 4} {x : Int64} (hd : decode (yC Y) pc = .ok (.lload_n i, 1)) (q : Nat) (h : lv[q]? = some ((i : Nat), .long x)) (k : EX g Y d mc ms ce sl (pc + 1) lv (.long x :: st) M P) : EX g Y d mc ms ce sl pc lv st M P := by
  intro p e s m args below meth c H locs ls C hP hS hz hl
  exact lv_lload_n C.1 C.2.1 hd rfl (lv_at hl q (xlv_at h)) (k p e s m args below meth c H locs ls C hP hS hz hl)
theorem x_lstore {i : Nat} {x : Int64} {lv1 : List (Nat × Value)} (hd : decode (yC Y) pc = .ok (.lstore i, 2)) (hn : i + 1 < yL Y) (h : xs2 lv i (.long x) = lv1) (k : EX g Y d mc ms ce sl (pc + 2) lv1 st M P) : EX g Y d mc ms ce sl pc lv (.long x :: st) M P := by
  intro p e s m args below meth c H locs ls C hP hS hz hl
  subst h
  exact lv_lstore C.1 C.2.1 hd hl hn (xs2_m g lv i (.long x)) (fun ls1 hl1 => k p e s m args below meth c H locs ls1 C hP hS hz hl1)
theorem x_lstore_n {i : Fin 4} {x : Int64} {lv1 : List (Nat × Value)} (hd : decode (yC Y) pc = .ok (.lstore_n i, 1)) (hn : (i : Nat) + 1 < yL Y) (h : xs2 lv (i : Nat) (.long x) = lv1) (k : EX g Y d mc ms ce sl (pc + 1) lv1 st M P) : EX g Y d mc ms ce sl pc lv (.long x :: st) M P := by
  intro p e s m args below meth c H locs ls C hP hS hz hl
  subst h
  exact lv_lstore_n C.1 C.2.1 hd rfl hl hn (xs2_m g lv (i : Nat) (.long x)) (fun ls1 hl1 => k p e s m args below meth c H locs ls1 C hP hS hz hl1)
theorem x_aload {i : Nat} {x : Nat} (hd : decode (yC Y) pc = .ok (.aload i, 2)) (q : Nat) (h : lv[q]? = some (i, .ref x)) (k : EX g Y d mc ms ce sl (pc + 2) lv (.ref x :: st) M P) : EX g Y d mc ms ce sl pc lv st M P := by
  intro p e s m args below meth c H locs ls C hP hS hz hl
  exact lv_aload C.1 C.2.1 hd (lv_at hl q (xlv_at h)) (k p e s m args below meth c H locs ls C hP hS hz hl)
theorem x_aload_n {i : Fin 4} {x : Nat} (hd : decode (yC Y) pc = .ok (.aload_n i, 1)) (q : Nat) (h : lv[q]? = some ((i : Nat), .ref x)) (k : EX g Y d mc ms ce sl (pc + 1) lv (.ref x :: st) M P) : EX g Y d mc ms ce sl pc lv st M P := by
  intro p e s m args below meth c H locs ls C hP hS hz hl
  exact lv_aload_n C.1 C.2.1 hd rfl (lv_at hl q (xlv_at h)) (k p e s m args below meth c H locs ls C hP hS hz hl)
theorem x_astore {i : Nat} {x : Nat} {lv1 : List (Nat × Value)} (hd : decode (yC Y) pc = .ok (.astore i, 2)) (hn : i < yL Y) (h : xs1 lv i (.ref x) = lv1) (k : EX g Y d mc ms ce sl (pc + 2) lv1 st M P) : EX g Y d mc ms ce sl pc lv (.ref x :: st) M P := by
  intro p e s m args below meth c H locs ls C hP hS hz hl
  subst h
  exact lv_astore C.1 C.2.1 hd hl hn (xs1_m g lv i (.ref x)) (fun ls1 hl1 => k p e s m args below meth c H locs ls1 C hP hS hz hl1)
theorem x_astore_n {i : Fin 4} {x : Nat} {lv1 : List (Nat × Value)} (hd : decode (yC Y) pc = .ok (.astore_n i, 1)) (hn : (i : Nat) < yL Y) (h : xs1 lv (i : Nat) (.ref x) = lv1) (k : EX g Y d mc ms ce sl (pc + 1) lv1 st M P) : EX g Y d mc ms ce sl pc lv (.ref x :: st) M P := by
  intro p e s m args below meth c H locs ls C hP hS hz hl
  subst h
  exact lv_astore_n C.1 C.2.1 hd rfl hl hn (xs1_m g lv (i : Nat) (.ref x)) (fun ls1 hl1 => k p e s m args below meth c H locs ls1 C hP hS hz hl1)
theorem x_iinc {i : Nat} {n : Int} {x v : Int32} {lv1 : List (Nat × Value)} (hd : decode (yC Y) pc = .ok (.iinc i n, 3)) (q : Nat) (h0 : lv[q]? = some (i, .int x)) (hv : x + Int32.ofInt n = v) (hn : i < yL Y) (h : xs1 lv i (.int v) = lv1) (k : EX g Y d mc ms ce sl (pc + 3) lv1 st M P) : EX g Y d mc ms ce sl pc lv st M P := by
  intro p e s m args below meth c H locs ls C hP hS hz hl
  subst h
  exact lv_iinc (k := q) C.1 C.2.1 hd hl (xlv_at h0) hv hn (xs1_m g lv i (.int v)) (fun ls1 hl1 => k p e s m args below meth c H locs ls1 C hP hS hz hl1)
theorem x_if_eq {x : Int32} {off : Int} (tgt : Nat) (hd : decode (yC Y) pc = .ok (.ifCond .eq off, 3)) (ht : (pc : Int) + off = (tgt : Int)) (kt : x = 0 → EX g Y d mc ms ce sl tgt lv st M P) (kf : ¬ (x = 0) → EX g Y d mc ms ce sl (pc + 3) lv st M P) : EX g Y d mc ms ce sl pc lv (.int x :: st) M P := by
  intro p e s m args below meth c H locs ls C hP hS hz hl
  exact lv_if_eq C.1 C.2.1 hd ht (fun q => kt q p e s m args below meth c H locs ls C hP hS hz hl) (fun q => kf q p e s m args below meth c H locs ls C hP hS hz hl)
theorem x_ic_eq {x y : Int32} {off : Int} (tgt : Nat) (hd : decode (yC Y) pc = .ok (.if_icmp .eq off, 3)) (ht : (pc : Int) + off = (tgt : Int)) (kt : x = y → EX g Y d mc ms ce sl tgt lv st M P) (kf : ¬ (x = y) → EX g Y d mc ms ce sl (pc + 3) lv st M P) : EX g Y d mc ms ce sl pc lv (.int y :: .int x :: st) M P := by
  intro p e s m args below meth c H locs ls C hP hS hz hl
  exact lv_icmp_eq C.1 C.2.1 hd ht (fun q => kt q p e s m args below meth c H locs ls C hP hS hz hl) (fun q => kf q p e s m args below meth c H locs ls C hP hS hz hl)
theorem x_if_ne {x : Int32} {off : Int} (tgt : Nat) (hd : decode (yC Y) pc = .ok (.ifCond .ne off, 3)) (ht : (pc : Int) + off = (tgt : Int)) (kt : ¬ x = 0 → EX g Y d mc ms ce sl tgt lv st M P) (kf : x = 0 → EX g Y d mc ms ce sl (pc + 3) lv st M P) : EX g Y d mc ms ce sl pc lv (.int x :: st) M P := by
  intro p e s m args below meth c H locs ls C hP hS hz hl
  exact lv_if_ne C.1 C.2.1 hd ht (fun q => kt q p e s m args below meth c H locs ls C hP hS hz hl) (fun q => kf q p e s m args below meth c H locs ls C hP hS hz hl)
theorem x_ic_ne {x y : Int32} {off : Int} (tgt : Nat) (hd : decode (yC Y) pc = .ok (.if_icmp .ne off, 3)) (ht : (pc : Int) + off = (tgt : Int)) (kt : ¬ x = y → EX g Y d mc ms ce sl tgt lv st M P) (kf : x = y → EX g Y d mc ms ce sl (pc + 3) lv st M P) : EX g Y d mc ms ce sl pc lv (.int y :: .int x :: st) M P := by
  intro p e s m args below meth c H locs ls C hP hS hz hl
  exact lv_icmp_ne C.1 C.2.1 hd ht (fun q => kt q p e s m args below meth c H locs ls C hP hS hz hl) (fun q => kf q p e s m args below meth c H locs ls C hP hS hz hl)
theorem x_if_lt {x : Int32} {off : Int} (tgt : Nat) (hd : decode (yC Y) pc = .ok (.ifCond .lt off, 3)) (ht : (pc : Int) + off = (tgt : Int)) (kt : x < 0 → EX g Y d mc ms ce sl tgt lv st M P) (kf : ¬ (x < 0) → EX g Y d mc ms ce sl (pc + 3) lv st M P) : EX g Y d mc ms ce sl pc lv (.int x :: st) M P := by
  intro p e s m args below meth c H locs ls C hP hS hz hl
  exact lv_if_lt C.1 C.2.1 hd ht (fun q => kt q p e s m args below meth c H locs ls C hP hS hz hl) (fun q => kf q p e s m args below meth c H locs ls C hP hS hz hl)
theorem x_ic_lt {x y : Int32} {off : Int} (tgt : Nat) (hd : decode (yC Y) pc = .ok (.if_icmp .lt off, 3)) (ht : (pc : Int) + off = (tgt : Int)) (kt : x < y → EX g Y d mc ms ce sl tgt lv st M P) (kf : ¬ (x < y) → EX g Y d mc ms ce sl (pc + 3) lv st M P) : EX g Y d mc ms ce sl pc lv (.int y :: .int x :: st) M P := by
  intro p e s m args below meth c H locs ls C hP hS hz hl
  exact lv_icmp_lt C.1 C.2.1 hd ht (fun q => kt q p e s m args below meth c H locs ls C hP hS hz hl) (fun q => kf q p e s m args below meth c H locs ls C hP hS hz hl)
theorem x_if_ge {x : Int32} {off : Int} (tgt : Nat) (hd : decode (yC Y) pc = .ok (.ifCond .ge off, 3)) (ht : (pc : Int) + off = (tgt : Int)) (kt : 0 ≤ x → EX g Y d mc ms ce sl tgt lv st M P) (kf : ¬ (0 ≤ x) → EX g Y d mc ms ce sl (pc + 3) lv st M P) : EX g Y d mc ms ce sl pc lv (.int x :: st) M P := by
  intro p e s m args below meth c H locs ls C hP hS hz hl
  exact lv_if_ge C.1 C.2.1 hd ht (fun q => kt q p e s m args below meth c H locs ls C hP hS hz hl) (fun q => kf q p e s m args below meth c H locs ls C hP hS hz hl)
theorem x_ic_ge {x y : Int32} {off : Int} (tgt : Nat) (hd : decode (yC Y) pc = .ok (.if_icmp .ge off, 3)) (ht : (pc : Int) + off = (tgt : Int)) (kt : y ≤ x → EX g Y d mc ms ce sl tgt lv st M P) (kf : ¬ (y ≤ x) → EX g Y d mc ms ce sl (pc + 3) lv st M P) : EX g Y d mc ms ce sl pc lv (.int y :: .int x :: st) M P := by
  intro p e s m args below meth c H locs ls C hP hS hz hl
  exact lv_icmp_ge C.1 C.2.1 hd ht (fun q => kt q p e s m args below meth c H locs ls C hP hS hz hl) (fun q => kf q p e s m args below meth c H locs ls C hP hS hz hl)
theorem x_if_gt {x : Int32} {off : Int} (tgt : Nat) (hd : decode (yC Y) pc = .ok (.ifCond .gt off, 3)) (ht : (pc : Int) + off = (tgt : Int)) (kt : 0 < x → EX g Y d mc ms ce sl tgt lv st M P) (kf : ¬ (0 < x) → EX g Y d mc ms ce sl (pc + 3) lv st M P) : EX g Y d mc ms ce sl pc lv (.int x :: st) M P := by
  intro p e s m args below meth c H locs ls C hP hS hz hl
  exact lv_if_gt C.1 C.2.1 hd ht (fun q => kt q p e s m args below meth c H locs ls C hP hS hz hl) (fun q => kf q p e s m args below meth c H locs ls C hP hS hz hl)
theorem x_ic_gt {x y : Int32} {off : Int} (tgt : Nat) (hd : decode (yC Y) pc = .ok (.if_icmp .gt off, 3)) (ht : (pc : Int) + off = (tgt : Int)) (kt : y < x → EX g Y d mc ms ce sl tgt lv st M P) (kf : ¬ (y < x) → EX g Y d mc ms ce sl (pc + 3) lv st M P) : EX g Y d mc ms ce sl pc lv (.int y :: .int x :: st) M P := by
  intro p e s m args below meth c H locs ls C hP hS hz hl
  exact lv_icmp_gt C.1 C.2.1 hd ht (fun q => kt q p e s m args below meth c H locs ls C hP hS hz hl) (fun q => kf q p e s m args below meth c H locs ls C hP hS hz hl)
theorem x_if_le {x : Int32} {off : Int} (tgt : Nat) (hd : decode (yC Y) pc = .ok (.ifCond .le off, 3)) (ht : (pc : Int) + off = (tgt : Int)) (kt : x ≤ 0 → EX g Y d mc ms ce sl tgt lv st M P) (kf : ¬ (x ≤ 0) → EX g Y d mc ms ce sl (pc + 3) lv st M P) : EX g Y d mc ms ce sl pc lv (.int x :: st) M P := by
  intro p e s m args below meth c H locs ls C hP hS hz hl
  exact lv_if_le C.1 C.2.1 hd ht (fun q => kt q p e s m args below meth c H locs ls C hP hS hz hl) (fun q => kf q p e s m args below meth c H locs ls C hP hS hz hl)
theorem x_ic_le {x y : Int32} {off : Int} (tgt : Nat) (hd : decode (yC Y) pc = .ok (.if_icmp .le off, 3)) (ht : (pc : Int) + off = (tgt : Int)) (kt : x ≤ y → EX g Y d mc ms ce sl tgt lv st M P) (kf : ¬ (x ≤ y) → EX g Y d mc ms ce sl (pc + 3) lv st M P) : EX g Y d mc ms ce sl pc lv (.int y :: .int x :: st) M P := by
  intro p e s m args below meth c H locs ls C hP hS hz hl
  exact lv_icmp_le C.1 C.2.1 hd ht (fun q => kt q p e s m args below meth c H locs ls C hP hS hz hl) (fun q => kf q p e s m args below meth c H locs ls C hP hS hz hl)
theorem x_goto {off : Int} (tgt : Nat) (hd : decode (yC Y) pc = .ok (.goto off, 3)) (ht : (pc : Int) + off = (tgt : Int)) (k : EX g Y d mc ms ce sl tgt lv st M P) : EX g Y d mc ms ce sl pc lv st M P := by
  intro p e s m args below meth c H locs ls C hP hS hz hl
  exact lv_goto C.1 C.2.1 hd ht (k p e s m args below meth c H locs ls C hP hS hz hl)
theorem x_lookup {dflt : Int} {ps : Array (Int × Int)} {len : Nat} {x : Int32} (hd : decode (yC Y) pc = .ok (.lookupswitch dflt ps, len)) (hp : (ps.toList.zip (ps.toList.drop 1)).all (fun (a, next) => a.1 < next.1) = true) (k : ∀ tgt : Nat, (pc : Int) + Op.lookupswitch.offset ps.toList dflt x.toInt = (tgt : Int) → EX g Y d mc ms ce sl tgt lv st M P) (tg : ∃ tgt : Nat, (pc : Int) + Op.lookupswitch.offset ps.toList dflt x.toInt = (tgt : Int)) : EX g Y d mc ms ce sl pc lv (.int x :: st) M P := by
  intro p e s m args below meth c H locs ls C hP hS hz hl
  obtain ⟨tgt, ht⟩ := tg
  exact lv_lookup C.1 C.2.1 hd hp rfl ht (k tgt ht p e s m args below meth c H locs ls C hP hS hz hl)
theorem x_tabOut {dflt lo hi : Int} {offs : Array Int} {len : Nat} {x : Int32} (tgt : Nat) (hd : decode (yC Y) pc = .ok (.tableswitch dflt lo hi offs, len)) (h : x.toInt < lo ∨ hi < x.toInt) (ht : (pc : Int) + dflt = (tgt : Int)) (k : EX g Y d mc ms ce sl tgt lv st M P) : EX g Y d mc ms ce sl pc lv (.int x :: st) M P := by
  intro p e s m args below meth c H locs ls C hP hS hz hl
  exact lv_tableOut C.1 C.2.1 hd h ht (k p e s m args below meth c H locs ls C hP hS hz hl)
theorem x_tabIn {dflt lo hi off : Int} {offs : Array Int} {len : Nat} {x : Int32} (tgt : Nat) (hd : decode (yC Y) pc = .ok (.tableswitch dflt lo hi offs, len)) (h1 : ¬ x.toInt < lo) (h2 : ¬ hi < x.toInt) (ho : offs[(x.toInt - lo).toNat]? = some off) (ht : (pc : Int) + off = (tgt : Int)) (k : EX g Y d mc ms ce sl tgt lv st M P) : EX g Y d mc ms ce sl pc lv (.int x :: st) M P := by
  intro p e s m args below meth c H locs ls C hP hS hz hl
  exact lv_tableIn C.1 C.2.1 hd h1 h2 ho ht (k p e s m args below meth c H locs ls C hP hS hz hl)
theorem x_ldcw {idx : Nat} {v : Int32} (hd : decode (yC Y) pc = .ok (.ldc_w idx, 3)) (hc : Cond.constant (yN Y).cls idx v ∈ gw) (k : EX g Y d mc ms ce sl (pc + 3) lv (.int v :: st) M P) : EX g Y d mc ms ce sl pc lv st M P := by
  intro p e s m args below meth c H locs ls C hP hS hz hl
  exact lv_ldcw C.1 C.2.1 C.2.2.2.1 (C.2.2.2.2.1 _ hc) hd (k p e s m args below meth c H locs ls C hP hS hz hl)
theorem x_ldc2 {idx : Nat} {v : Int64} (hd : decode (yC Y) pc = .ok (.ldc2_w idx, 3)) (hc : Cond.constantLong (yN Y).cls idx v ∈ gw) (k : EX g Y d mc ms ce sl (pc + 3) lv (.long v :: st) M P) : EX g Y d mc ms ce sl pc lv st M P := by
  intro p e s m args below meth c H locs ls C hP hS hz hl
  exact lv_ldc2 C.1 C.2.1 C.2.2.2.1 (C.2.2.2.2.1 _ hc) hd (k p e s m args below meth c H locs ls C hP hS hz hl)
theorem x_iald {a n : Nat} {i : Int32} (hd : decode (yC Y) pc = .ok (.iaload, 1)) (ha : a < mn M) (hs : mh M a = (1, n)) (hi : vp_in i n) (k : EX g Y d mc ms ce sl (pc + 1) lv (.int (mi M a i.toNatClampNeg) :: st) M P) : EX g Y d mc ms ce sl pc lv (.int i :: .ref a :: st) M P := by
  intro p e s m args below meth c H locs ls C hP hS hz hl
  have h1 := mW_at g M ha
  rw [mE_i hs] at h1
  exact va_iald C.1 C.2.1 C.2.2.2.2.2.2.2.2.1.1 hP a 0 h1 rfl hi hd (k p e s m args below meth c H locs ls C hP hS hz hl)
theorem x_iast {a n : Nat} {i : Int32} {x : Int32} (hd : decode (yC Y) pc = .ok (.iastore, 1)) (ha : a < mn M) (hs : mh M a = (1, n)) (hi : vp_in i n) (k : EX g Y d mc ms ce sl (pc + 1) lv st (wi M a i.toNatClampNeg x) P) : EX g Y d mc ms ce sl pc lv (.int x :: .int i :: .ref a :: st) M P := by
  intro p e s m args below meth c H locs ls C hP hS hz hl
  have h1 := mW_at g M ha
  rw [mE_i hs] at h1
  have h2 : mE (gB g) g.2.2.2 (wi M a i.toNatClampNeg x) a = .inl (g.2.2.2 1, n, (.inl (upd (mi M a) i.toNatClampNeg x))) := by
    rw [mE_i (M := (wi M a i.toNatClampNeg x)) hs]
    exact congrArg (fun f => Sum.inl (g.2.2.2 1, n, Sum.inl f)) (mu_upd _ _ _ _)
  have h3 := mW_set (g := g) (M := M) (M' := (wi M a i.toNatClampNeg x)) ha rfl h2 (fun b hb => mE_wi hb)
  refine W.iast C.1 C.2.1 (hP a _ h1) ((C.2.2.2.2.2.2.2.2.1.1.2 0 _ rfl).1 n (fun j => .int (mi M a j))) (fun q => by cases q) (by show ¬ (i < 0 ∨ (arrV _ _ _).slots.size ≤ _); rw [arrV_size]; exact hi) rfl rfl hd fun H1 e1 z oq => ?_
  have hP1 := va_P.set hP (mD g M) h1 (e := .inl (g.2.2.2 1, n, (.inl (upd (mi M a) i.toNatClampNeg x)))) (by
    show H1[gB g + a]? = some (vp_cell _ _)
    rw [e1]
    rw [vp_cell_i, vp_cell_i, arrV_store]
    congr 2
    funext q
    by_cases hq : q = i.toNatClampNeg
    · subst hq
      simp [updV, upd]
    · simp [updV, upd, hq]) oq
  rw [h3] at hP1
  exact k p e s m args below meth c H1 _ ls C hP1 (hS.put z oq (Nat.le_add_right _ _)) (z.trans hz) hl
theorem x_zald {a n : Nat} {i : Int32} (hd : decode (yC Y) pc = .ok (.baload, 1)) (ha : a < mn M) (hs : mh M a = (3, n)) (hi : vp_in i n) (k : EX g Y d mc ms ce sl (pc + 1) lv (.int (mi M a i.toNatClampNeg) :: st) M P) : EX g Y d mc ms ce sl pc lv (.int i :: .ref a :: st) M P := by
  intro p e s m args below meth c H locs ls C hP hS hz hl
  have h1 := mW_at g M ha
  rw [mE_z hs] at h1
  exact va_zald C.1 C.2.1 C.2.2.2.2.2.2.2.2.1.1 hP a 2 h1 rfl hi hd (k p e s m args below meth c H locs ls C hP hS hz hl)
theorem x_zast {a n : Nat} {i : Int32} {x : Int32} (hd : decode (yC Y) pc = .ok (.bastore, 1)) (ha : a < mn M) (hs : mh M a = (3, n)) (hi : vp_in i n) (k : EX g Y d mc ms ce sl (pc + 1) lv st (wi M a i.toNatClampNeg (vp_nar .boolean x)) P) : EX g Y d mc ms ce sl pc lv (.int x :: .int i :: .ref a :: st) M P := by
  intro p e s m args below meth c H locs ls C hP hS hz hl
  have h1 := mW_at g M ha
  rw [mE_z hs] at h1
  have h2 : mE (gB g) g.2.2.2 (wi M a i.toNatClampNeg (vp_nar .boolean x)) a = .inl (g.2.2.2 3, n, (.inl (upd (mi M a) i.toNatClampNeg (vp_nar .boolean x)))) := by
    rw [mE_z (M := (wi M a i.toNatClampNeg (vp_nar .boolean x))) hs]
    exact congrArg (fun f => Sum.inl (g.2.2.2 3, n, Sum.inl f)) (mu_upd _ _ _ _)
  have h3 := mW_set (g := g) (M := M) (M' := (wi M a i.toNatClampNeg (vp_nar .boolean x))) ha rfl h2 (fun b hb => mE_wi hb)
  refine W.zast C.1 C.2.1 (hP a _ h1) ((C.2.2.2.2.2.2.2.2.1.1.2 2 _ rfl).1 n (fun j => .int (mi M a j))) (fun q => by cases q) (by show ¬ (i < 0 ∨ (arrV _ _ _).slots.size ≤ _); rw [arrV_size]; exact hi) rfl rfl hd fun H1 e1 z oq => ?_
  have hP1 := va_P.set hP (mD g M) h1 (e := .inl (g.2.2.2 3, n, (.inl (upd (mi M a) i.toNatClampNeg (vp_nar .boolean x))))) (by
    show H1[gB g + a]? = some (vp_cell _ _)
    rw [e1]
    rw [vp_cell_i, vp_cell_i, arrV_store]
    congr 2
    funext q
    by_cases hq : q = i.toNatClampNeg
    · subst hq
      simp [updV, upd, narrow, vp_nar]
    · simp [updV, upd, hq]) oq
  rw [h3] at hP1
  exact k p e s m args below meth c H1 _ ls C hP1 (hS.put z oq (Nat.le_add_right _ _)) (z.trans hz) hl
theorem x_cald {a n : Nat} {i : Int32} (hd : decode (yC Y) pc = .ok (.caload, 1)) (ha : a < mn M) (hs : mh M a = (4, n)) (hi : vp_in i n) (k : EX g Y d mc ms ce sl (pc + 1) lv (.int (mi M a i.toNatClampNeg) :: st) M P) : EX g Y d mc ms ce sl pc lv (.int i :: .ref a :: st) M P := by
  intro p e s m args below meth c H locs ls C hP hS hz hl
  have h1 := mW_at g M ha
  rw [mE_c hs] at h1
  exact va_cald C.1 C.2.1 C.2.2.2.2.2.2.2.2.1.1 hP a 3 h1 rfl hi hd (k p e s m args below meth c H locs ls C hP hS hz hl)
theorem x_cast {a n : Nat} {i : Int32} {x : Int32} (hd : decode (yC Y) pc = .ok (.castore, 1)) (ha : a < mn M) (hs : mh M a = (4, n)) (hi : vp_in i n) (k : EX g Y d mc ms ce sl (pc + 1) lv st (wi M a i.toNatClampNeg (vp_nar .char x)) P) : EX g Y d mc ms ce sl pc lv (.int x :: .int i :: .ref a :: st) M P := by
  intro p e s m args below meth c H locs ls C hP hS hz hl
  have h1 := mW_at g M ha
  rw [mE_c hs] at h1
  have h2 : mE (gB g) g.2.2.2 (wi M a i.toNatClampNeg (vp_nar .char x)) a = .inl (g.2.2.2 4, n, (.inl (upd (mi M a) i.toNatClampNeg (vp_nar .char x)))) := by
    rw [mE_c (M := (wi M a i.toNatClampNeg (vp_nar .char x))) hs]
    exact congrArg (fun f => Sum.inl (g.2.2.2 4, n, Sum.inl f)) (mu_upd _ _ _ _)
  have h3 := mW_set (g := g) (M := M) (M' := (wi M a i.toNatClampNeg (vp_nar .char x))) ha rfl h2 (fun b hb => mE_wi hb)
  refine W.cast C.1 C.2.1 (hP a _ h1) ((C.2.2.2.2.2.2.2.2.1.1.2 3 _ rfl).1 n (fun j => .int (mi M a j))) (fun q => by cases q) (by show ¬ (i < 0 ∨ (arrV _ _ _).slots.size ≤ _); rw [arrV_size]; exact hi) rfl rfl hd fun H1 e1 z oq => ?_
  have hP1 := va_P.set hP (mD g M) h1 (e := .inl (g.2.2.2 4, n, (.inl (upd (mi M a) i.toNatClampNeg (vp_nar .char x))))) (by
    show H1[gB g + a]? = some (vp_cell _ _)
    rw [e1]
    rw [vp_cell_i, vp_cell_i, arrV_store]
    congr 2
    funext q
    by_cases hq : q = i.toNatClampNeg
    · subst hq
      simp [updV, upd, narrow, vp_nar]
    · simp [updV, upd, hq]) oq
  rw [h3] at hP1
  exact k p e s m args below meth c H1 _ ls C hP1 (hS.put z oq (Nat.le_add_right _ _)) (z.trans hz) hl
theorem x_lald {a n : Nat} {i : Int32} (hd : decode (yC Y) pc = .ok (.laload, 1)) (ha : a < mn M) (hs : mh M a = (2, n)) (hi : vp_in i n) (k : EX g Y d mc ms ce sl (pc + 1) lv (.long (mj M a i.toNatClampNeg) :: st) M P) : EX g Y d mc ms ce sl pc lv (.int i :: .ref a :: st) M P := by
  intro p e s m args below meth c H locs ls C hP hS hz hl
  have h1 := mW_at g M ha
  rw [mE_j hs] at h1
  exact va_lald C.1 C.2.1 C.2.2.2.2.2.2.2.2.1.1 hP a 1 h1 rfl hi hd (k p e s m args below meth c H locs ls C hP hS hz hl)
theorem x_last {a n : Nat} {i : Int32} {x : Int64} (hd : decode (yC Y) pc = .ok (.lastore, 1)) (ha : a < mn M) (hs : mh M a = (2, n)) (hi : vp_in i n) (k : EX g Y d mc ms ce sl (pc + 1) lv st (wj M a i.toNatClampNeg x) P) : EX g Y d mc ms ce sl pc lv (.long x :: .int i :: .ref a :: st) M P := by
  intro p e s m args below meth c H locs ls C hP hS hz hl
  have h1 := mW_at g M ha
  rw [mE_j hs] at h1
  have h2 : mE (gB g) g.2.2.2 (wj M a i.toNatClampNeg x) a = .inl (g.2.2.2 2, n, .inr (.inl (vp_updL (mj M a) i.toNatClampNeg x))) := by
    rw [mE_j (M := (wj M a i.toNatClampNeg x)) hs]
    exact congrArg (fun f => Sum.inl (g.2.2.2 2, n, Sum.inr (Sum.inl f))) (mu_updL _ _ _ _)
  have h3 := mW_set (g := g) (M := M) (M' := (wj M a i.toNatClampNeg x)) ha rfl h2 (fun b hb => mE_wj hb)
  refine W.last C.1 C.2.1 (hP a _ h1) ((C.2.2.2.2.2.2.2.2.1.1.2 1 _ rfl).1 n (fun j => .long (mj M a j))) (fun q => by cases q) (by show ¬ (i < 0 ∨ (arrV _ _ _).slots.size ≤ _); rw [arrV_size]; exact hi) rfl rfl hd fun H1 e1 z oq => ?_
  have hP1 := va_P.set hP (mD g M) h1 (e := .inl (g.2.2.2 2, n, .inr (.inl (vp_updL (mj M a) i.toNatClampNeg x)))) (by
    show H1[gB g + a]? = some (vp_cell _ _)
    rw [e1]
    rw [vp_cell_l, vp_cell_l, arrV_store]
    congr 2
    funext q
    by_cases hq : q = i.toNatClampNeg
    · subst hq
      simp [updV, vp_updL]
    · simp [updV, vp_updL, hq]) oq
  rw [h3] at hP1
  exact k p e s m args below meth c H1 _ ls C hP1 (hS.put z oq (Nat.le_add_right _ _)) (z.trans hz) hl
end EXR
