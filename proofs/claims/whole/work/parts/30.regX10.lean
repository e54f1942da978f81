set_option maxRecDepth 8000 in
theorem qX10_begin_0 {g : GG} {d : Nat} {M : MM} {P : Option Value → MM → Prop} {a0 : Nat} {i1 : Int32} {M1 : MM} (C0 : Trv M a0)
    (qM1 : M1 = wi M a0 0 i1)
    (k1 : E0 g YX10_begin d 7 [(0, .ref a0), (2, .int 0)] [] M1 P) :
    E0 g YX10_begin d 0 [(0, .ref a0), (1, .int i1)] [] M P := by
  have f1 : ob M a0 10 := C0.o
  subst qM1
  refine x_aload_n dX10_begin_0 0 rfl ?_
  refine x_iload_n dX10_begin_1 1 rfl ?_
  refine x_putI fdX10_15 rfl (Or.inl rfl) dX10_begin_2 f1.1 f1.2 rfl rfl ?_
  refine x_iconst (v := 0) dX10_begin_5 (by decide) ?_
  refine x_istore_n (lv1 := [(2, .int 0), (0, .ref a0), (1, .int i1)]) dX10_begin_6 (by decide) rfl ?_
  exact EX.sub [1, 0] k1 rfl
set_option maxRecDepth 8000 in
theorem qX10_begin_7 {g : GG} {d : Nat} {M : MM} {P : Option Value → MM → Prop} {a0 : Nat} {i2 : Int32} {M1 : MM} {M2 : MM} {M3 : MM} {M4 : MM} (C0 : Trv M a0)
    (qM1 : M1 = wi M a0 2 0)
    (qM2 : M2 = wi M1 a0 3 0)
    (qM3 : M3 = wi M2 a0 4 0)
    (qM4 : M4 = wi M (a0 + 1) (i2 : Int32).toNatClampNeg 0)
    (h1 : ¬ (6 ≤ i2) → vp_in i2 6)
    (k1 : 6 ≤ i2 → P none M3)
    (k2 : ¬ (6 ≤ i2) → E0 g YX10_begin d 7 [(0, .ref a0), (2, .int (i2 + 1))] [] M4 P) :
    E0 g YX10_begin d 7 [(0, .ref a0), (2, .int i2)] [] M P := by
  have f1 : ob M a0 10 := C0.o
  have f2 : mr M a0 1 = some (a0 + 1) := C0.r1
  have f3 : ar M (a0 + 1) 1 6 := C0.a1
  subst qM1 qM2 qM3 qM4
  refine x_iload_n dX10_begin_7 1 rfl ?_
  refine x_bipush (v := 6) dX10_begin_8 (by decide) ?_
  refine x_ic_ge 26 dX10_begin_10 (by decide) (fun c1 => ?_) (fun c1 => ?_)
  · refine x_aload_n dX10_begin_26 0 rfl ?_
    refine x_iconst (v := 0) dX10_begin_27 (by decide) ?_
    refine x_putI fdX10_19 rfl (Or.inl rfl) dX10_begin_28 f1.1 f1.2 (by decide) (by decide) ?_
    refine x_aload_n dX10_begin_31 0 rfl ?_
    refine x_iconst (v := 0) dX10_begin_32 (by decide) ?_
    refine x_putI fdX10_23 rfl (Or.inl rfl) dX10_begin_33 f1.1 f1.2 rfl rfl ?_
    refine x_aload_n dX10_begin_36 0 rfl ?_
    refine x_iconst (v := 0) dX10_begin_37 (by decide) ?_
    refine x_putI fdX10_26 rfl (Or.inl rfl) dX10_begin_38 f1.1 f1.2 rfl rfl ?_
    exact x_vret rfl dX10_begin_41 (Nat.le_refl _) (Nat.le_refl _) (k1 c1)
  · refine x_aload_n dX10_begin_13 0 rfl ?_
    refine x_getR fdX10_9 rfl dX10_begin_14 f1.1 f1.2 f2 ?_
    refine x_iload_n dX10_begin_17 1 rfl ?_
    refine x_iconst (v := 0) dX10_begin_18 (by decide) ?_
    refine x_iast dX10_begin_19 f3.1 f3.2 (h1 c1) ?_
    refine x_iinc (v := (i2 + 1)) (lv1 := [(2, .int (i2 + 1)), (0, .ref a0)]) dX10_begin_20 1 rfl rfl (by decide) rfl ?_
    refine x_goto 7 dX10_begin_23 (by decide) ?_
    exact EX.sub [1, 0] (k2 c1) rfl
set_option maxRecDepth 8000 in
theorem qX10_copy_0 {g : GG} {d : Nat} {M : MM} {P : Option Value → MM → Prop} {a0 : Nat} {a1 : Nat} {M1 : MM} (C0 : Trv M a0) (C1 : Trv M a1)
    (qM1 : M1 = wi M a0 0 (mi M a1 0))
    (k1 : E0 g YX10_copy d 10 [(0, .ref a0), (1, .ref a1), (2, .int 0)] [] M1 P) :
    E0 g YX10_copy d 0 [(0, .ref a0), (1, .ref a1)] [] M P := by
  have f1 : ob M a1 10 := C1.o
  have f2 : ob M a0 10 := C0.o
  subst qM1
  refine x_aload_n dX10_copy_0 0 rfl ?_
  refine x_aload_n dX10_copy_1 1 rfl ?_
  refine x_getI fdX10_15 rfl dX10_copy_2 f1.1 f1.2 ?_
  refine x_putI fdX10_15 rfl (Or.inl rfl) dX10_copy_5 f2.1 f2.2 rfl rfl ?_
  refine x_iconst (v := 0) dX10_copy_8 (by decide) ?_
  refine x_istore_n (lv1 := [(2, .int 0), (0, .ref a0), (1, .ref a1)]) dX10_copy_9 (by decide) rfl ?_
  exact EX.sub [1, 2, 0] k1 rfl
set_option maxRecDepth 8000 in
theorem qX10_copy_10 {g : GG} {d : Nat} {M : MM} {P : Option Value → MM → Prop} {a0 : Nat} {a1 : Nat} {i2 : Int32} {M1 : MM} {M2 : MM} {M3 : MM} {M4 : MM} (C0 : Trv M a0) (C1 : Trv M a1)
    (qM1 : M1 = wi M a0 2 (mi M a1 2))
    (qM2 : M2 = wi M1 a0 3 (mi M1 a1 3))
    (qM3 : M3 = wi M2 a0 4 (mi M2 a1 4))
    (qM4 : M4 = wi M (a0 + 1) (i2 : Int32).toNatClampNeg (mi M (a1 + 1) (i2 : Int32).toNatClampNeg))
    (h1 : 6 ≤ i2 → narrow .boolean (.int (mi M a1 2)) = .int (mi M a1 2) ∧ fits .boolean (.int (mi M a1 2)) = true)
    (h2 : ¬ (6 ≤ i2) → vp_in i2 6)
    (h3 : ¬ (6 ≤ i2) → vp_in i2 6)
    (k1 : 6 ≤ i2 → P none M3)
    (k2 : ¬ (6 ≤ i2) → E0 g YX10_copy d 10 [(0, .ref a0), (1, .ref a1), (2, .int (i2 + 1))] [] M4 P) :
    E0 g YX10_copy d 10 [(0, .ref a0), (1, .ref a1), (2, .int i2)] [] M P := by
  have f1 : ob M a1 10 := C1.o
  have f2 : ob M a0 10 := C0.o
  have f3 : mr M a0 1 = some (a0 + 1) := C0.r1
  have f4 : mr M a1 1 = some (a1 + 1) := C1.r1
  have f5 : ar M (a1 + 1) 1 6 := C1.a1
  have f6 : ar M (a0 + 1) 1 6 := C0.a1
  subst qM1 qM2 qM3 qM4
  refine x_iload_n dX10_copy_10 2 rfl ?_
  refine x_bipush (v := 6) dX10_copy_11 (by decide) ?_
  refine x_ic_ge 34 dX10_copy_13 (by decide) (fun c1 => ?_) (fun c1 => ?_)
  · refine x_aload_n dX10_copy_34 0 rfl ?_
    refine x_aload_n dX10_copy_35 1 rfl ?_
    refine x_getI fdX10_19 rfl dX10_copy_36 f1.1 f1.2 ?_
    refine x_putI fdX10_19 rfl (Or.inl rfl) dX10_copy_39 f2.1 f2.2 (h1 c1).1 (h1 c1).2 ?_
    refine x_aload_n dX10_copy_42 0 rfl ?_
    refine x_aload_n dX10_copy_43 1 rfl ?_
    refine x_getI fdX10_23 rfl dX10_copy_44 f1.1 f1.2 ?_
    refine x_putI fdX10_23 rfl (Or.inl rfl) dX10_copy_47 f2.1 f2.2 rfl rfl ?_
    refine x_aload_n dX10_copy_50 0 rfl ?_
    refine x_aload_n dX10_copy_51 1 rfl ?_
    refine x_getI fdX10_26 rfl dX10_copy_52 f1.1 f1.2 ?_
    refine x_putI fdX10_26 rfl (Or.inl rfl) dX10_copy_55 f2.1 f2.2 rfl rfl ?_
    exact x_vret rfl dX10_copy_58 (Nat.le_refl _) (Nat.le_refl _) (k1 c1)
  · refine x_aload_n dX10_copy_16 0 rfl ?_
    refine x_getR fdX10_9 rfl dX10_copy_17 f2.1 f2.2 f3 ?_
    refine x_iload_n dX10_copy_20 2 rfl ?_
    refine x_aload_n dX10_copy_21 1 rfl ?_
    refine x_getR fdX10_9 rfl dX10_copy_22 f1.1 f1.2 f4 ?_
    refine x_iload_n dX10_copy_25 2 rfl ?_
    refine x_iald dX10_copy_26 f5.1 f5.2 (h2 c1) ?_
    refine x_iast dX10_copy_27 f6.1 f6.2 (h3 c1) ?_
    refine x_iinc (v := (i2 + 1)) (lv1 := [(2, .int (i2 + 1)), (0, .ref a0), (1, .ref a1)]) dX10_copy_28 2 rfl rfl (by decide) rfl ?_
    refine x_goto 10 dX10_copy_31 (by decide) ?_
    exact EX.sub [1, 2, 0] (k2 c1) rfl
set_option maxRecDepth 8000 in
theorem qX10_swapPlace_0 {g : GG} {d : Nat} {M : MM} {P : Option Value → MM → Prop} {a0 : Nat} {a1 : Nat} {i2 : Int32} (C0 : Trv M a0) (C1 : Cty M a1)
    (k1 : (mi M a0 2) = 0 → P (some (.int i2)) M)
    (k2 : ¬ ((mi M a0 2) = 0) → P (some (.int (((mi M a1 5) - 1) - i2))) M) :
    E0 g YX10_swapPlace d 0 [(0, .ref a0), (1, .ref a1), (2, .int i2)] [] M P := by
  have f1 : ob M a0 10 := C0.o
  have f2 : ob M a1 0 := C1.o
  refine x_aload_n dX10_swapPlace_0 0 rfl ?_
  refine x_getI fdX10_19 rfl dX10_swapPlace_1 f1.1 f1.2 ?_
  refine x_if_eq 18 dX10_swapPlace_4 (by decide) (fun c1 => ?_) (fun c1 => ?_)
  · refine x_iload_n dX10_swapPlace_18 2 rfl ?_
    exact x_iret rfl dX10_swapPlace_19 (Nat.le_refl _) (Nat.le_refl _) (k1 c1)
  · refine x_aload_n dX10_swapPlace_7 1 rfl ?_
    refine x_getI fdX10_29 rfl dX10_swapPlace_8 f2.1 f2.2 ?_
    refine x_iconst (v := 1) dX10_swapPlace_11 (by decide) ?_
    refine x_isub dX10_swapPlace_12 ?_
    refine x_iload_n dX10_swapPlace_13 2 rfl ?_
    refine x_isub dX10_swapPlace_14 ?_
    refine x_goto 19 dX10_swapPlace_15 (by decide) ?_
    exact x_iret rfl dX10_swapPlace_19 (Nat.le_refl _) (Nat.le_refl _) (k2 c1)
set_option maxRecDepth 8000 in
theorem qX10_drawn_0 {g : GG} {d : Nat} {M : MM} {P : Option Value → MM → Prop} {a0 : Nat}
    (k1 : E0 g YX10_drawn d 4 [(0, .ref a0), (1, .int 0), (2, .int 0)] [] M P) :
    E0 g YX10_drawn d 0 [(0, .ref a0)] [] M P := by
  refine x_iconst (v := 0) dX10_drawn_0 (by decide) ?_
  refine x_istore_n (lv1 := [(1, .int 0), (0, .ref a0)]) dX10_drawn_1 (by decide) rfl ?_
  refine x_iconst (v := 0) dX10_drawn_2 (by decide) ?_
  refine x_istore_n (lv1 := [(2, .int 0), (1, .int 0), (0, .ref a0)]) dX10_drawn_3 (by decide) rfl ?_
  exact EX.sub [2, 1, 0] k1 rfl
set_option maxRecDepth 8000 in
theorem qX10_drawn_4 {g : GG} {d : Nat} {M : MM} {P : Option Value → MM → Prop} {a0 : Nat} {i1 : Int32} {i2 : Int32} (C0 : Trv M a0)
    (h1 : ¬ (6 ≤ i2) → vp_in i2 6)
    (k1 : 6 ≤ i2 → P (some (.int i1)) M)
    (k2 : ¬ (6 ≤ i2) → E0 g YX10_drawn d 4 [(0, .ref a0), (1, .int (i1 ||| (mi M (a0 + 1) (i2 : Int32).toNatClampNeg))), (2, .int (i2 + 1))] [] M P) :
    E0 g YX10_drawn d 4 [(0, .ref a0), (1, .int i1), (2, .int i2)] [] M P := by
  have f1 : ob M a0 10 := C0.o
  have f2 : mr M a0 1 = some (a0 + 1) := C0.r1
  have f3 : ar M (a0 + 1) 1 6 := C0.a1
  refine x_iload_n dX10_drawn_4 2 rfl ?_
  refine x_bipush (v := 6) dX10_drawn_5 (by decide) ?_
  refine x_ic_ge 25 dX10_drawn_7 (by decide) (fun c1 => ?_) (fun c1 => ?_)
  · refine x_iload_n dX10_drawn_25 1 rfl ?_
    exact x_iret rfl dX10_drawn_26 (Nat.le_refl _) (Nat.le_refl _) (k1 c1)
  · refine x_iload_n dX10_drawn_10 1 rfl ?_
    refine x_aload_n dX10_drawn_11 0 rfl ?_
    refine x_getR fdX10_9 rfl dX10_drawn_12 f1.1 f1.2 f2 ?_
    refine x_iload_n dX10_drawn_15 2 rfl ?_
    refine x_iald dX10_drawn_16 f3.1 f3.2 (h1 c1) ?_
    refine x_ior dX10_drawn_17 ?_
    refine x_istore_n (lv1 := [(1, .int (i1 ||| (mi M (a0 + 1) (i2 : Int32).toNatClampNeg))), (0, .ref a0), (2, .int i2)]) dX10_drawn_18 (by decide) rfl ?_
    refine x_iinc (v := (i2 + 1)) (lv1 := [(2, .int (i2 + 1)), (1, .int (i1 ||| (mi M (a0 + 1) (i2 : Int32).toNatClampNeg))), (0, .ref a0)]) dX10_drawn_19 2 rfl rfl (by decide) rfl ?_
    refine x_goto 4 dX10_drawn_22 (by decide) ?_
    exact EX.sub [2, 1, 0] (k2 c1) rfl
set_option maxRecDepth 8000 in
theorem qX10_holds_0 {g : GG} {d : Nat} {M : MM} {P : Option Value → MM → Prop} {a0 : Nat} {i1 : Int32} {i2 : Int32} (C0 : Trv M a0)
    (h1 : ¬ (i1 < 0) → ¬ (6 ≤ i1) → vp_in i1 6)
    (k1 : i1 < 0 → P (some (.int 0)) M)
    (k2 : ¬ (i1 < 0) → 6 ≤ i1 → P (some (.int 0)) M)
    (k3 : ¬ (i1 < 0) → ¬ (6 ≤ i1) → ¬ (((mi M (a0 + 1) (i1 : Int32).toNatClampNeg) >>> (i2 &&& 31)) &&& 1) = 1 → P (some (.int 0)) M)
    (k4 : ¬ (i1 < 0) → ¬ (6 ≤ i1) → (((mi M (a0 + 1) (i1 : Int32).toNatClampNeg) >>> (i2 &&& 31)) &&& 1) = 1 → P (some (.int 1)) M) :
    E0 g YX10_holds d 0 [(0, .ref a0), (1, .int i1), (2, .int i2)] [] M P := by
  have f1 : ob M a0 10 := C0.o
  have f2 : mr M a0 1 = some (a0 + 1) := C0.r1
  have f3 : ar M (a0 + 1) 1 6 := C0.a1
  refine x_iload_n dX10_holds_0 1 rfl ?_
  refine x_if_lt 28 dX10_holds_1 (by decide) (fun c1 => ?_) (fun c1 => ?_)
  · refine x_iconst (v := 0) dX10_holds_28 (by decide) ?_
    exact x_zret rfl dX10_holds_29 rfl (Nat.le_refl _) (Nat.le_refl _) (k1 c1)
  · refine x_iload_n dX10_holds_4 1 rfl ?_
    refine x_bipush (v := 6) dX10_holds_5 (by decide) ?_
    refine x_ic_ge 28 dX10_holds_7 (by decide) (fun c2 => ?_) (fun c2 => ?_)
    · refine x_iconst (v := 0) dX10_holds_28 (by decide) ?_
      exact x_zret rfl dX10_holds_29 rfl (Nat.le_refl _) (Nat.le_refl _) (k2 c1 c2)
    · refine x_aload_n dX10_holds_10 0 rfl ?_
      refine x_getR fdX10_9 rfl dX10_holds_11 f1.1 f1.2 f2 ?_
      refine x_iload_n dX10_holds_14 1 rfl ?_
      refine x_iald dX10_holds_15 f3.1 f3.2 (h1 c1 c2) ?_
      refine x_iload_n dX10_holds_16 2 rfl ?_
      refine x_ishr dX10_holds_17 ?_
      refine x_iconst (v := 1) dX10_holds_18 (by decide) ?_
      refine x_iand dX10_holds_19 ?_
      refine x_iconst (v := 1) dX10_holds_20 (by decide) ?_
      refine x_ic_ne 28 dX10_holds_21 (by decide) (fun c3 => ?_) (fun c3 => ?_)
      · refine x_iconst (v := 0) dX10_holds_28 (by decide) ?_
        exact x_zret rfl dX10_holds_29 rfl (Nat.le_refl _) (Nat.le_refl _) (k3 c1 c2 c3)
      · refine x_iconst (v := 1) dX10_holds_24 (by decide) ?_
        refine x_goto 29 dX10_holds_25 (by decide) ?_
        exact x_zret rfl dX10_holds_29 rfl (Nat.le_refl _) (Nat.le_refl _) (k4 c1 c2 c3)
set_option maxRecDepth 8000 in
theorem qX10_holderOf_0 {g : GG} {d : Nat} {M : MM} {P : Option Value → MM → Prop} {a0 : Nat} {i1 : Int32}
    (k1 : E0 g YX10_holderOf d 2 [(0, .ref a0), (1, .int i1), (2, .int 0)] [] M P) :
    E0 g YX10_holderOf d 0 [(0, .ref a0), (1, .int i1)] [] M P := by
  refine x_iconst (v := 0) dX10_holderOf_0 (by decide) ?_
  refine x_istore_n (lv1 := [(2, .int 0), (0, .ref a0), (1, .int i1)]) dX10_holderOf_1 (by decide) rfl ?_
  exact EX.sub [1, 2, 0] k1 rfl
set_option maxRecDepth 8000 in
theorem qX10_holderOf_2 {g : GG} {d : Nat} {M : MM} {P : Option Value → MM → Prop} {a0 : Nat} {i1 : Int32} {i2 : Int32} (C0 : Trv M a0)
    (k1 : 6 ≤ i2 → P (some (.int (-1))) M)
    (k2 : ¬ (6 ≤ i2) → K0 g YX10_holderOf YX10_holds d 14 [.ref a0, .int i2, .int i1] [(0, .ref a0), (1, .int i1), (2, .int i2)] [] M P) :
    E0 g YX10_holderOf d 2 [(0, .ref a0), (1, .int i1), (2, .int i2)] [] M P := by
  have f1 : ob M a0 10 := C0.o
  refine x_iload_n dX10_holderOf_2 2 rfl ?_
  refine x_bipush (v := 6) dX10_holderOf_3 (by decide) ?_
  refine x_ic_ge 25 dX10_holderOf_5 (by decide) (fun c1 => ?_) (fun c1 => ?_)
  · refine x_iconst (v := (-1)) dX10_holderOf_25 (by decide) ?_
    exact x_iret rfl dX10_holderOf_26 (Nat.le_refl _) (Nat.le_refl _) (k1 c1)
  · refine x_aload_n dX10_holderOf_8 0 rfl ?_
    refine x_iload_n dX10_holderOf_9 2 rfl ?_
    refine x_iload_n dX10_holderOf_10 1 rfl ?_
    refine EX.sub [0, 1, 2] (K0.v (As := [.int i2, .int i1]) (st := []) cvX10_34 dX10_holderOf_11 rfl rfl f1 rfl (Nat.le_of_ble_eq_true rfl) (k2 c1)) rfl
set_option maxRecDepth 8000 in
theorem qX10_holderOf_14 {g : GG} {d : Nat} {M : MM} {P : Option Value → MM → Prop} {a0 : Nat} {i1 : Int32} {i2 : Int32} {s0 : Int32}
    (k1 : s0 = 0 → E0 g YX10_holderOf d 2 [(0, .ref a0), (1, .int i1), (2, .int (i2 + 1))] [] M P)
    (k2 : ¬ (s0 = 0) → P (some (.int i2)) M) :
    E0 g YX10_holderOf d 14 [(0, .ref a0), (1, .int i1), (2, .int i2)] [.int s0] M P := by
  refine x_if_eq 19 dX10_holderOf_14 (by decide) (fun c1 => ?_) (fun c1 => ?_)
  · refine x_iinc (v := (i2 + 1)) (lv1 := [(2, .int (i2 + 1)), (0, .ref a0), (1, .int i1)]) dX10_holderOf_19 2 rfl rfl (by decide) rfl ?_
    refine x_goto 2 dX10_holderOf_22 (by decide) ?_
    exact EX.sub [1, 2, 0] (k1 c1) rfl
  · refine x_iload_n dX10_holderOf_17 2 rfl ?_
    exact x_iret rfl dX10_holderOf_18 (Nat.le_refl _) (Nat.le_refl _) (k2 c1)
set_option maxRecDepth 8000 in
theorem qX10_showAt_0 {g : GG} {d : Nat} {M : MM} {P : Option Value → MM → Prop} {a0 : Nat} {a1 : Nat} {i2 : Int32} (C0 : Trv M a0) (C1 : Cty M a1)
    (k1 : i2 < 0 → P none M)
    (k2 : ¬ (i2 < 0) → 6 ≤ i2 → P none M)
    (k3 : ¬ (i2 < 0) → ¬ (6 ≤ i2) → K0 g YX10_showAt YX0_takenOut d 19 [.ref a1, .int i2, .int (mi M a0 0)] [(0, .ref a0), (2, .int i2)] [] M P) :
    E0 g YX10_showAt d 0 [(0, .ref a0), (1, .ref a1), (2, .int i2)] [] M P := by
  have f1 : ob M a0 10 := C0.o
  have f2 : ob M a1 0 := C1.o
  refine x_iload_n dX10_showAt_0 2 rfl ?_
  refine x_if_lt 42 dX10_showAt_1 (by decide) (fun c1 => ?_) (fun c1 => ?_)
  · exact x_vret rfl dX10_showAt_42 (Nat.le_refl _) (Nat.le_refl _) (k1 c1)
  · refine x_iload_n dX10_showAt_4 2 rfl ?_
    refine x_bipush (v := 6) dX10_showAt_5 (by decide) ?_
    refine x_ic_ge 42 dX10_showAt_7 (by decide) (fun c2 => ?_) (fun c2 => ?_)
    · exact x_vret rfl dX10_showAt_42 (Nat.le_refl _) (Nat.le_refl _) (k2 c1 c2)
    · refine x_aload_n dX10_showAt_10 1 rfl ?_
      refine x_iload_n dX10_showAt_11 2 rfl ?_
      refine x_aload_n dX10_showAt_12 0 rfl ?_
      refine x_getI fdX10_15 rfl dX10_showAt_13 f1.1 f1.2 ?_
      refine EX.sub [0, 2] (K0.v (As := [.int i2, .int (mi M a0 0)]) (st := []) cvX10_38 dX10_showAt_16 rfl rfl f2 rfl (Nat.le_of_ble_eq_true rfl) (k3 c1 c2)) rfl
set_option maxRecDepth 8000 in
theorem qX10_showAt_19 {g : GG} {d : Nat} {M : MM} {P : Option Value → MM → Prop} {a0 : Nat} {i2 : Int32} {s0 : Int32} {M1 : MM} {M2 : MM} (C0 : Trv M a0)
    (qM1 : M1 = wi M (a0 + 1) (i2 : Int32).toNatClampNeg ((mi M (a0 + 1) (i2 : Int32).toNatClampNeg) ||| s0))
    (qM2 : M2 = wi M1 a0 0 ((mi M1 a0 0) &&& (s0 ^^^ (-1))))
    (h1 : vp_in i2 6)
    (k1 : P none M2) :
    E0 g YX10_showAt d 19 [(0, .ref a0), (2, .int i2)] [.int s0] M P := by
  have f1 : ob M a0 10 := C0.o
  have f2 : mr M a0 1 = some (a0 + 1) := C0.r1
  have f3 : ar M (a0 + 1) 1 6 := C0.a1
  subst qM1 qM2
  refine x_istore_n (lv1 := [(3, .int s0), (0, .ref a0), (2, .int i2)]) dX10_showAt_19 (by decide) rfl ?_
  refine x_aload_n dX10_showAt_20 1 rfl ?_
  refine x_getR fdX10_9 rfl dX10_showAt_21 f1.1 f1.2 f2 ?_
  refine x_iload_n dX10_showAt_24 2 rfl ?_
  refine x_dup2 dX10_showAt_25 rfl rfl ?_
  refine x_iald dX10_showAt_26 f3.1 f3.2 (h1) ?_
  refine x_iload_n dX10_showAt_27 0 rfl ?_
  refine x_ior dX10_showAt_28 ?_
  refine x_iast dX10_showAt_29 f3.1 f3.2 (h1) ?_
  refine x_aload_n dX10_showAt_30 1 rfl ?_
  refine x_dup dX10_showAt_31 rfl ?_
  refine x_getI fdX10_15 rfl dX10_showAt_32 f1.1 f1.2 ?_
  refine x_iload_n dX10_showAt_35 0 rfl ?_
  refine x_iconst (v := (-1)) dX10_showAt_36 (by decide) ?_
  refine x_ixor dX10_showAt_37 ?_
  refine x_iand dX10_showAt_38 ?_
  refine x_putI fdX10_15 rfl (Or.inl rfl) dX10_showAt_39 f1.1 f1.2 rfl rfl ?_
  exact x_vret rfl dX10_showAt_42 (Nat.le_refl _) (Nat.le_refl _) (k1)
set_option maxRecDepth 8000 in
theorem qX10_showNext_0 {g : GG} {d : Nat} {M : MM} {P : Option Value → MM → Prop} {a0 : Nat} {a1 : Nat} (C0 : Trv M a0)
    (k1 : K0 g YX10_showNext YX10_showAt d 9 [.ref a0, .ref a1, .int (mi M a0 3)] [(0, .ref a0), (1, .ref a1)] [] M P) :
    E0 g YX10_showNext d 0 [(0, .ref a0), (1, .ref a1)] [] M P := by
  have f1 : ob M a0 10 := C0.o
  refine x_aload_n dX10_showNext_0 0 rfl ?_
  refine x_aload_n dX10_showNext_1 1 rfl ?_
  refine x_aload_n dX10_showNext_2 0 rfl ?_
  refine x_getI fdX10_23 rfl dX10_showNext_3 f1.1 f1.2 ?_
  refine EX.sub [0, 1] (K0.v (As := [.ref a1, .int (mi M a0 3)]) (st := []) cvX10_42 dX10_showNext_6 rfl rfl f1 rfl (Nat.le_of_ble_eq_true rfl) (k1)) rfl
set_option maxRecDepth 8000 in
theorem qX10_showNext_9 {g : GG} {d : Nat} {M : MM} {P : Option Value → MM → Prop} {a0 : Nat} {a1 : Nat} (C0 : Trv M a0)
    (k1 : K0 g YX10_showNext YX10_swapPlace d 18 [.ref a0, .ref a1, .int (mi M a0 3)] [(0, .ref a0), (1, .ref a1)] [] M P) :
    E0 g YX10_showNext d 9 [(0, .ref a0), (1, .ref a1)] [] M P := by
  have f1 : ob M a0 10 := C0.o
  refine x_aload_n dX10_showNext_9 0 rfl ?_
  refine x_aload_n dX10_showNext_10 1 rfl ?_
  refine x_aload_n dX10_showNext_11 0 rfl ?_
  refine x_getI fdX10_23 rfl dX10_showNext_12 f1.1 f1.2 ?_
  refine EX.sub [0, 1] (K0.v (As := [.ref a1, .int (mi M a0 3)]) (st := []) cvX10_46 dX10_showNext_15 rfl rfl f1 rfl (Nat.le_of_ble_eq_true rfl) (k1)) rfl
set_option maxRecDepth 8000 in
theorem qX10_showNext_18 {g : GG} {d : Nat} {M : MM} {P : Option Value → MM → Prop} {a0 : Nat} {a1 : Nat} {s0 : Int32} {M1 : MM} (C0 : Trv M a0) (C1 : Cty M a1)
    (qM1 : M1 = wi M a0 4 ((mi M a0 4) + 1))
    (k1 : (s0 + 1) < (mi M a1 5) → K0 g YX10_showNext YX10_swapPlace d 48 [.ref a0, .ref a1, .int (s0 + 1)] [(0, .ref a0)] [.ref a0] M P)
    (k2 : ¬ ((s0 + 1) < (mi M a1 5)) → K0 g YX10_showNext YX10_swapPlace d 48 [.ref a0, .ref a1, .int 0] [(0, .ref a0)] [.ref a0] M1 P) :
    E0 g YX10_showNext d 18 [(0, .ref a0), (1, .ref a1)] [.int s0] M P := by
  have f1 : ob M a1 0 := C1.o
  have f2 : ob M a0 10 := C0.o
  subst qM1
  refine x_iconst (v := 1) dX10_showNext_18 (by decide) ?_
  refine x_iadd dX10_showNext_19 ?_
  refine x_istore_n (lv1 := [(2, .int (s0 + 1)), (0, .ref a0), (1, .ref a1)]) dX10_showNext_20 (by decide) rfl ?_
  refine x_iload_n dX10_showNext_21 0 rfl ?_
  refine x_aload_n dX10_showNext_22 2 rfl ?_
  refine x_getI fdX10_29 rfl dX10_showNext_23 f1.1 f1.2 ?_
  refine x_ic_lt 41 dX10_showNext_26 (by decide) (fun c1 => ?_) (fun c1 => ?_)
  · refine x_aload_n dX10_showNext_41 1 rfl ?_
    refine x_aload_n dX10_showNext_42 1 rfl ?_
    refine x_aload_n dX10_showNext_43 2 rfl ?_
    refine x_iload_n dX10_showNext_44 0 rfl ?_
    refine EX.sub [1] (K0.v (As := [.ref a1, .int (s0 + 1)]) (st := [.ref a0]) cvX10_46 dX10_showNext_45 rfl rfl f2 rfl (Nat.le_of_ble_eq_true rfl) (k1 c1)) rfl
  · refine x_iconst (v := 0) dX10_showNext_29 (by decide) ?_
    refine x_istore_n (lv1 := [(2, .int 0), (0, .ref a0), (1, .ref a1)]) dX10_showNext_30 (by decide) rfl ?_
    refine x_aload_n dX10_showNext_31 1 rfl ?_
    refine x_dup dX10_showNext_32 rfl ?_
    refine x_getI fdX10_26 rfl dX10_showNext_33 f2.1 f2.2 ?_
    refine x_iconst (v := 1) dX10_showNext_36 (by decide) ?_
    refine x_iadd dX10_showNext_37 ?_
    refine x_putI fdX10_26 rfl (Or.inl rfl) dX10_showNext_38 f2.1 f2.2 rfl rfl ?_
    refine x_aload_n dX10_showNext_41 1 rfl ?_
    refine x_aload_n dX10_showNext_42 1 rfl ?_
    refine x_aload_n dX10_showNext_43 2 rfl ?_
    refine x_iload_n dX10_showNext_44 0 rfl ?_
    refine EX.sub [1] (K0.v (As := [.ref a1, .int 0]) (st := [.ref a0]) cvX10_46 dX10_showNext_45 rfl rfl f2 rfl (Nat.le_of_ble_eq_true rfl) (k2 c1)) rfl
set_option maxRecDepth 8000 in
theorem qX10_showNext_48 {g : GG} {d : Nat} {M : MM} {P : Option Value → MM → Prop} {a0 : Nat} {s0 : Nat} {s1 : Int32} {M1 : MM} (C0 : Trv M a0)
    (qM1 : M1 = wi M s0 3 s1)
    (h1 : ob M s0 10)
    (k1 : P (some (.int (mi M1 a0 0))) M1) :
    E0 g YX10_showNext d 48 [(0, .ref a0)] [.int s1, .ref s0] M P := by
  have f1 : ob M a0 10 := C0.o
  subst qM1
  refine x_putI fdX10_23 rfl (Or.inl rfl) dX10_showNext_48 h1.1 h1.2 rfl rfl ?_
  refine x_aload_n dX10_showNext_51 0 rfl ?_
  refine x_getI fdX10_15 rfl dX10_showNext_52 f1.1 f1.2 ?_
  exact x_iret rfl dX10_showNext_55 (Nat.le_refl _) (Nat.le_refl _) (k1)
set_option maxRecDepth 8000 in
theorem qX10_giveBack_0 {g : GG} {d : Nat} {M : MM} {P : Option Value → MM → Prop} {a0 : Nat} {i1 : Int32} {i2 : Int32} (C0 : Trv M a0)
    (k1 : K0 g YX10_giveBack YX10_holds d 6 [.ref a0, .int i1, .int i2] [(0, .ref a0), (1, .int i1), (2, .int i2)] [] M P) :
    E0 g YX10_giveBack d 0 [(0, .ref a0), (1, .int i1), (2, .int i2)] [] M P := by
  have f1 : ob M a0 10 := C0.o
  refine x_aload_n dX10_giveBack_0 0 rfl ?_
  refine x_iload_n dX10_giveBack_1 1 rfl ?_
  refine x_iload_n dX10_giveBack_2 2 rfl ?_
  refine EX.sub [0, 1, 2] (K0.v (As := [.int i1, .int i2]) (st := []) cvX10_34 dX10_giveBack_3 rfl rfl f1 rfl (Nat.le_of_ble_eq_true rfl) (k1)) rfl
set_option maxRecDepth 8000 in
theorem qX10_giveBack_6 {g : GG} {d : Nat} {M : MM} {P : Option Value → MM → Prop} {a0 : Nat} {i1 : Int32} {i2 : Int32} {s0 : Int32} {M1 : MM} {M2 : MM} (C0 : Trv M a0)
    (qM1 : M1 = wi M (a0 + 1) (i1 : Int32).toNatClampNeg ((mi M (a0 + 1) (i1 : Int32).toNatClampNeg) &&& (((1 : Int32) <<< (i2 &&& 31)) ^^^ (-1))))
    (qM2 : M2 = wi M1 a0 0 ((mi M1 a0 0) ||| ((1 : Int32) <<< (i2 &&& 31))))
    (h1 : ¬ (s0 = 0) → vp_in i1 6)
    (k1 : s0 = 0 → P none M)
    (k2 : ¬ (s0 = 0) → P none M2) :
    E0 g YX10_giveBack d 6 [(0, .ref a0), (1, .int i1), (2, .int i2)] [.int s0] M P := by
  have f1 : ob M a0 10 := C0.o
  have f2 : mr M a0 1 = some (a0 + 1) := C0.r1
  have f3 : ar M (a0 + 1) 1 6 := C0.a1
  subst qM1 qM2
  refine x_if_eq 35 dX10_giveBack_6 (by decide) (fun c1 => ?_) (fun c1 => ?_)
  · exact x_vret rfl dX10_giveBack_35 (Nat.le_refl _) (Nat.le_refl _) (k1 c1)
  · refine x_aload_n dX10_giveBack_9 0 rfl ?_
    refine x_getR fdX10_9 rfl dX10_giveBack_10 f1.1 f1.2 f2 ?_
    refine x_iload_n dX10_giveBack_13 1 rfl ?_
    refine x_dup2 dX10_giveBack_14 rfl rfl ?_
    refine x_iald dX10_giveBack_15 f3.1 f3.2 (h1 c1) ?_
    refine x_iconst (v := 1) dX10_giveBack_16 (by decide) ?_
    refine x_iload_n dX10_giveBack_17 2 rfl ?_
    refine x_ishl dX10_giveBack_18 ?_
    refine x_iconst (v := (-1)) dX10_giveBack_19 (by decide) ?_
    refine x_ixor dX10_giveBack_20 ?_
    refine x_iand dX10_giveBack_21 ?_
    refine x_iast dX10_giveBack_22 f3.1 f3.2 (h1 c1) ?_
    refine x_aload_n dX10_giveBack_23 0 rfl ?_
    refine x_dup dX10_giveBack_24 rfl ?_
    refine x_getI fdX10_15 rfl dX10_giveBack_25 f1.1 f1.2 ?_
    refine x_iconst (v := 1) dX10_giveBack_28 (by decide) ?_
    refine x_iload_n dX10_giveBack_29 2 rfl ?_
    refine x_ishl dX10_giveBack_30 ?_
    refine x_ior dX10_giveBack_31 ?_
    refine x_putI fdX10_15 rfl (Or.inl rfl) dX10_giveBack_32 f1.1 f1.2 rfl rfl ?_
    exact x_vret rfl dX10_giveBack_35 (Nat.le_refl _) (Nat.le_refl _) (k2 c1)
set_option maxRecDepth 8000 in
theorem qX10_handOver_0 {g : GG} {d : Nat} {M : MM} {P : Option Value → MM → Prop} {a0 : Nat} {i1 : Int32} {i2 : Int32} {i3 : Int32} (C0 : Trv M a0)
    (k1 : K0 g YX10_handOver YX10_holds d 6 [.ref a0, .int i1, .int i3] [(0, .ref a0), (1, .int i1), (2, .int i2), (3, .int i3)] [] M P) :
    E0 g YX10_handOver d 0 [(0, .ref a0), (1, .int i1), (2, .int i2), (3, .int i3)] [] M P := by
  have f1 : ob M a0 10 := C0.o
  refine x_aload_n dX10_handOver_0 0 rfl ?_
  refine x_iload_n dX10_handOver_1 1 rfl ?_
  refine x_iload_n dX10_handOver_2 3 rfl ?_
  refine EX.sub [0, 1, 2, 3] (K0.v (As := [.int i1, .int i3]) (st := []) cvX10_34 dX10_handOver_3 rfl rfl f1 rfl (Nat.le_of_ble_eq_true rfl) (k1)) rfl
set_option maxRecDepth 8000 in
theorem qX10_handOver_6 {g : GG} {d : Nat} {M : MM} {P : Option Value → MM → Prop} {a0 : Nat} {i1 : Int32} {i2 : Int32} {i3 : Int32} {s0 : Int32} {M1 : MM} {M2 : MM} (C0 : Trv M a0)
    (qM1 : M1 = wi M (a0 + 1) (i1 : Int32).toNatClampNeg ((mi M (a0 + 1) (i1 : Int32).toNatClampNeg) &&& (((1 : Int32) <<< (i3 &&& 31)) ^^^ (-1))))
    (qM2 : M2 = wi M1 (a0 + 1) (i2 : Int32).toNatClampNeg ((mi M1 (a0 + 1) (i2 : Int32).toNatClampNeg) ||| ((1 : Int32) <<< (i3 &&& 31))))
    (h1 : ¬ (s0 = 0) → ¬ (i2 < 0) → ¬ (6 ≤ i2) → vp_in i1 6)
    (h2 : ¬ (s0 = 0) → ¬ (i2 < 0) → ¬ (6 ≤ i2) → vp_in i2 6)
    (k1 : s0 = 0 → P none M)
    (k2 : ¬ (s0 = 0) → i2 < 0 → P none M)
    (k3 : ¬ (s0 = 0) → ¬ (i2 < 0) → 6 ≤ i2 → P none M)
    (k4 : ¬ (s0 = 0) → ¬ (i2 < 0) → ¬ (6 ≤ i2) → P none M2) :
    E0 g YX10_handOver d 6 [(0, .ref a0), (1, .int i1), (2, .int i2), (3, .int i3)] [.int s0] M P := by
  have f1 : ob M a0 10 := C0.o
  have f2 : mr M a0 1 = some (a0 + 1) := C0.r1
  have f3 : ar M (a0 + 1) 1 6 := C0.a1
  subst qM1 qM2
  refine x_if_eq 45 dX10_handOver_6 (by decide) (fun c1 => ?_) (fun c1 => ?_)
  · exact x_vret rfl dX10_handOver_45 (Nat.le_refl _) (Nat.le_refl _) (k1 c1)
  · refine x_iload_n dX10_handOver_9 2 rfl ?_
    refine x_if_lt 45 dX10_handOver_10 (by decide) (fun c2 => ?_) (fun c2 => ?_)
    · exact x_vret rfl dX10_handOver_45 (Nat.le_refl _) (Nat.le_refl _) (k2 c1 c2)
    · refine x_iload_n dX10_handOver_13 2 rfl ?_
      refine x_bipush (v := 6) dX10_handOver_14 (by decide) ?_
      refine x_ic_ge 45 dX10_handOver_16 (by decide) (fun c3 => ?_) (fun c3 => ?_)
      · exact x_vret rfl dX10_handOver_45 (Nat.le_refl _) (Nat.le_refl _) (k3 c1 c2 c3)
      · refine x_aload_n dX10_handOver_19 0 rfl ?_
        refine x_getR fdX10_9 rfl dX10_handOver_20 f1.1 f1.2 f2 ?_
        refine x_iload_n dX10_handOver_23 1 rfl ?_
        refine x_dup2 dX10_handOver_24 rfl rfl ?_
        refine x_iald dX10_handOver_25 f3.1 f3.2 (h1 c1 c2 c3) ?_
        refine x_iconst (v := 1) dX10_handOver_26 (by decide) ?_
        refine x_iload_n dX10_handOver_27 3 rfl ?_
        refine x_ishl dX10_handOver_28 ?_
        refine x_iconst (v := (-1)) dX10_handOver_29 (by decide) ?_
        refine x_ixor dX10_handOver_30 ?_
        refine x_iand dX10_handOver_31 ?_
        refine x_iast dX10_handOver_32 f3.1 f3.2 (h1 c1 c2 c3) ?_
        refine x_aload_n dX10_handOver_33 0 rfl ?_
        refine x_getR fdX10_9 rfl dX10_handOver_34 f1.1 f1.2 f2 ?_
        refine x_iload_n dX10_handOver_37 2 rfl ?_
        refine x_dup2 dX10_handOver_38 rfl rfl ?_
        refine x_iald dX10_handOver_39 f3.1 f3.2 (h2 c1 c2 c3) ?_
        refine x_iconst (v := 1) dX10_handOver_40 (by decide) ?_
        refine x_iload_n dX10_handOver_41 3 rfl ?_
        refine x_ishl dX10_handOver_42 ?_
        refine x_ior dX10_handOver_43 ?_
        refine x_iast dX10_handOver_44 f3.1 f3.2 (h2 c1 c2 c3) ?_
        exact x_vret rfl dX10_handOver_45 (Nat.le_refl _) (Nat.le_refl _) (k4 c1 c2 c3)
set_option maxRecDepth 8000 in
theorem qX10_turnRound_0 {g : GG} {d : Nat} {M : MM} {P : Option Value → MM → Prop} {a0 : Nat} {M1 : MM} {M2 : MM} (C0 : Trv M a0)
    (qM1 : M1 = wi M a0 2 0)
    (qM2 : M2 = wi M a0 2 1)
    (k1 : ¬ (mi M a0 2) = 0 → P none M1)
    (k2 : (mi M a0 2) = 0 → P none M2) :
    E0 g YX10_turnRound d 0 [(0, .ref a0)] [] M P := by
  have f1 : ob M a0 10 := C0.o
  subst qM1 qM2
  refine x_aload_n dX10_turnRound_0 0 rfl ?_
  refine x_aload_n dX10_turnRound_1 0 rfl ?_
  refine x_getI fdX10_19 rfl dX10_turnRound_2 f1.1 f1.2 ?_
  refine x_if_ne 12 dX10_turnRound_5 (by decide) (fun c1 => ?_) (fun c1 => ?_)
  · refine x_iconst (v := 0) dX10_turnRound_12 (by decide) ?_
    refine x_putI fdX10_19 rfl (Or.inl rfl) dX10_turnRound_13 f1.1 f1.2 (by decide) (by decide) ?_
    exact x_vret rfl dX10_turnRound_16 (Nat.le_refl _) (Nat.le_refl _) (k1 c1)
  · refine x_iconst (v := 1) dX10_turnRound_8 (by decide) ?_
    refine x_goto 13 dX10_turnRound_9 (by decide) ?_
    refine x_putI fdX10_19 rfl (Or.inl rfl) dX10_turnRound_13 f1.1 f1.2 (by decide) (by decide) ?_
    exact x_vret rfl dX10_turnRound_16 (Nat.le_refl _) (Nat.le_refl _) (k2 c1)
