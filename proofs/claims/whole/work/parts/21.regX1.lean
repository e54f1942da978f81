set_option maxRecDepth 8000 in
theorem qX1_begin_0 {g : GG} {d : Nat} {M : MM} {P : Option Value → MM → Prop} {i1 : Int32} {M1 : MM} {la lb pa pb rl : Nat} (L : Lay M la lb pa pb rl)
    (qM1 : M1 = wj M 128 0 (i1 : Int32).toInt64)
    (k1 : P none M1) :
    E0 g YX1_begin d 0 [(0, .ref 128), (1, .int i1)] [] M P := by
  have f1 : ob M 128 1 := L.s rfl (by decide)
  subst qM1
  refine x_aload_n dX1_begin_0 0 rfl ?_
  refine x_iload_n dX1_begin_1 1 rfl ?_
  refine x_i2l dX1_begin_2 ?_
  refine x_putJ fdX1_7 rfl (Or.inl rfl) dX1_begin_3 f1.1 f1.2 ?_
  exact x_vret rfl dX1_begin_6 (Nat.le_refl _) (Nat.le_refl _) (k1)
set_option maxRecDepth 8000 in
theorem qX1_below_0 {g : GG} {d : Nat} {M : MM} {P : Option Value → MM → Prop} {i1 : Int32} {M1 : MM} {la lb pa pb rl : Nat} (L : Lay M la lb pa pb rl)
    (qM1 : M1 = wj M 128 0 ((((mj M 128 0) * (1103515245)) + (12345)) - (((mj M 128 0) * (1103515245)) + (12345)) / (2147483648) * (2147483648)))
    (h1 : 1 ≤ i1 → ¬ (i1 : Int32).toInt64 = 0)
    (k1 : 1 ≤ i1 → P (some (.int ((((mj M1 128 0) / (65536)) - ((mj M1 128 0) / (65536)) / (i1 : Int32).toInt64 * (i1 : Int32).toInt64) : Int64).toInt32)) M1)
    (k2 : ¬ (1 ≤ i1) → P (some (.int 0)) M1) :
    E0 g YX1_below d 0 [(0, .ref 128), (1, .int i1)] [] M P := by
  have f1 : ob M 128 1 := L.s rfl (by decide)
  subst qM1
  refine x_aload_n dX1_below_0 0 rfl ?_
  refine x_aload_n dX1_below_1 0 rfl ?_
  refine x_getJ fdX1_7 rfl dX1_below_2 f1.1 f1.2 ?_
  refine x_ldc2 dX1_below_5 kcX1_13 ?_
  refine x_lmul dX1_below_8 ?_
  refine x_ldc2 dX1_below_9 kcX1_15 ?_
  refine x_ladd dX1_below_12 ?_
  refine x_ldc2 dX1_below_13 kcX1_17 ?_
  refine x_lrem dX1_below_16 (by decide) ?_
  refine x_putJ fdX1_7 rfl (Or.inl rfl) dX1_below_17 f1.1 f1.2 ?_
  refine x_iload_n dX1_below_20 1 rfl ?_
  refine x_iconst (v := 1) dX1_below_21 (by decide) ?_
  refine x_ic_ge 29 dX1_below_22 (by decide) (fun c1 => ?_) (fun c1 => ?_)
  · refine x_aload_n dX1_below_29 0 rfl ?_
    refine x_getJ fdX1_7 rfl dX1_below_30 f1.1 f1.2 ?_
    refine x_ldc2 dX1_below_33 kcX1_19 ?_
    refine x_ldiv dX1_below_36 (by decide) ?_
    refine x_iload_n dX1_below_37 1 rfl ?_
    refine x_i2l dX1_below_38 ?_
    refine x_lrem dX1_below_39 (h1 c1) ?_
    refine x_l2i dX1_below_40 ?_
    exact x_iret rfl dX1_below_41 (Nat.le_refl _) (Nat.le_refl _) (k1 c1)
  · refine x_iconst (v := 0) dX1_below_25 (by decide) ?_
    refine x_goto 41 dX1_below_26 (by decide) ?_
    exact x_iret rfl dX1_below_41 (Nat.le_refl _) (Nat.le_refl _) (k2 c1)
