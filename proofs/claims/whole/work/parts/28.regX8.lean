set_option maxRecDepth 8000 in
theorem qX8_add_0 {g : GG} {d : Nat} {M : MM} {P : Option Value → MM → Prop} {a0 : Nat} {i1 : Int32} {i2 : Int32} {M1 : MM} {M2 : MM} {M3 : MM} (C0 : Sgt M a0)
    (qM1 : M1 = wi M (a0 + 1) ((mi M a0 2) : Int32).toNatClampNeg i1)
    (qM2 : M2 = wi M1 (a0 + 2) ((mi M1 a0 2) : Int32).toNatClampNeg (vp_nar .boolean i2))
    (qM3 : M3 = wi M2 a0 2 ((mi M2 a0 2) + 1))
    (h1 : (mi M a0 2) < 8 → vp_in (mi M a0 2) 8)
    (h2 : (mi M a0 2) < 8 → vp_in (mi M1 a0 2) 8)
    (k1 : (mi M a0 2) < 8 → P (some (.int 1)) M3)
    (k2 : ¬ ((mi M a0 2) < 8) → P (some (.int 0)) M) :
    E0 g YX8_add d 0 [(0, .ref a0), (1, .int i1), (2, .int i2)] [] M P := by
  have f1 : ob M a0 8 := C0.o
  have f2 : mr M a0 0 = some (a0 + 1) := C0.r0
  have f3 : ar M (a0 + 1) 1 8 := C0.a0
  have f4 : mr M a0 1 = some (a0 + 2) := C0.r1
  have f5 : ar M (a0 + 2) 3 8 := C0.a1
  subst qM1 qM2 qM3
  refine x_aload_n dX8_add_0 0 rfl ?_
  refine x_getI fdX8_19 rfl dX8_add_1 f1.1 f1.2 ?_
  refine x_bipush (v := 8) dX8_add_4 (by decide) ?_
  refine x_ic_lt 11 dX8_add_6 (by decide) (fun c1 => ?_) (fun c1 => ?_)
  · refine x_aload_n dX8_add_11 0 rfl ?_
    refine x_getR fdX8_9 rfl dX8_add_12 f1.1 f1.2 f2 ?_
    refine x_aload_n dX8_add_15 0 rfl ?_
    refine x_getI fdX8_19 rfl dX8_add_16 f1.1 f1.2 ?_
    refine x_iload_n dX8_add_19 1 rfl ?_
    refine x_iast dX8_add_20 f3.1 f3.2 (h1 c1) ?_
    refine x_aload_n dX8_add_21 0 rfl ?_
    refine x_getR fdX8_15 rfl dX8_add_22 f1.1 f1.2 f4 ?_
    refine x_aload_n dX8_add_25 0 rfl ?_
    refine x_getI fdX8_19 rfl dX8_add_26 f1.1 f1.2 ?_
    refine x_iload_n dX8_add_29 2 rfl ?_
    refine x_zast dX8_add_30 f5.1 f5.2 (h2 c1) ?_
    refine x_aload_n dX8_add_31 0 rfl ?_
    refine x_dup dX8_add_32 rfl ?_
    refine x_getI fdX8_19 rfl dX8_add_33 f1.1 f1.2 ?_
    refine x_iconst (v := 1) dX8_add_36 (by decide) ?_
    refine x_iadd dX8_add_37 ?_
    refine x_putI fdX8_19 rfl (Or.inl rfl) dX8_add_38 f1.1 f1.2 rfl rfl ?_
    refine x_iconst (v := 1) dX8_add_41 (by decide) ?_
    exact x_zret rfl dX8_add_42 rfl (Nat.le_refl _) (Nat.le_refl _) (k1 c1)
  · refine x_iconst (v := 0) dX8_add_9 (by decide) ?_
    exact x_zret rfl dX8_add_10 rfl (Nat.le_refl _) (Nat.le_refl _) (k2 c1)
set_option maxRecDepth 8000 in
theorem qX8_copy_0 {g : GG} {d : Nat} {M : MM} {P : Option Value → MM → Prop} {a0 : Nat} {a1 : Nat} {M1 : MM} (C0 : Sgt M a0) (C1 : Sgt M a1)
    (qM1 : M1 = wi M a0 2 (mi M a1 2))
    (k1 : E0 g YX8_copy d 10 [(0, .ref a0), (1, .ref a1), (2, .int 0)] [] M1 P) :
    E0 g YX8_copy d 0 [(0, .ref a0), (1, .ref a1)] [] M P := by
  have f1 : ob M a1 8 := C1.o
  have f2 : ob M a0 8 := C0.o
  subst qM1
  refine x_aload_n dX8_copy_0 0 rfl ?_
  refine x_aload_n dX8_copy_1 1 rfl ?_
  refine x_getI fdX8_19 rfl dX8_copy_2 f1.1 f1.2 ?_
  refine x_putI fdX8_19 rfl (Or.inl rfl) dX8_copy_5 f2.1 f2.2 rfl rfl ?_
  refine x_iconst (v := 0) dX8_copy_8 (by decide) ?_
  refine x_istore_n (lv1 := [(2, .int 0), (0, .ref a0), (1, .ref a1)]) dX8_copy_9 (by decide) rfl ?_
  exact EX.sub [1, 2, 0] k1 rfl
set_option maxRecDepth 8000 in
theorem qX8_copy_10 {g : GG} {d : Nat} {M : MM} {P : Option Value → MM → Prop} {a0 : Nat} {a1 : Nat} {i2 : Int32} {M1 : MM} {M2 : MM} (C0 : Sgt M a0) (C1 : Sgt M a1)
    (qM1 : M1 = wi M (a0 + 1) (i2 : Int32).toNatClampNeg (mi M (a1 + 1) (i2 : Int32).toNatClampNeg))
    (qM2 : M2 = wi M1 (a0 + 2) (i2 : Int32).toNatClampNeg (vp_nar .boolean (mi M1 (a1 + 2) (i2 : Int32).toNatClampNeg)))
    (h1 : ¬ ((mi M a0 2) ≤ i2) → ¬ (8 ≤ i2) → vp_in i2 8)
    (h2 : ¬ ((mi M a0 2) ≤ i2) → ¬ (8 ≤ i2) → vp_in i2 8)
    (h3 : ¬ ((mi M a0 2) ≤ i2) → ¬ (8 ≤ i2) → vp_in i2 8)
    (h4 : ¬ ((mi M a0 2) ≤ i2) → ¬ (8 ≤ i2) → vp_in i2 8)
    (k1 : (mi M a0 2) ≤ i2 → P none M)
    (k2 : ¬ ((mi M a0 2) ≤ i2) → 8 ≤ i2 → P none M)
    (k3 : ¬ ((mi M a0 2) ≤ i2) → ¬ (8 ≤ i2) → E0 g YX8_copy d 10 [(0, .ref a0), (1, .ref a1), (2, .int (i2 + 1))] [] M2 P) :
    E0 g YX8_copy d 10 [(0, .ref a0), (1, .ref a1), (2, .int i2)] [] M P := by
  have f1 : ob M a0 8 := C0.o
  have f2 : mr M a0 0 = some (a0 + 1) := C0.r0
  have f3 : ob M a1 8 := C1.o
  have f4 : mr M a1 0 = some (a1 + 1) := C1.r0
  have f5 : ar M (a1 + 1) 1 8 := C1.a0
  have f6 : ar M (a0 + 1) 1 8 := C0.a0
  have f7 : mr M a0 1 = some (a0 + 2) := C0.r1
  have f8 : mr M a1 1 = some (a1 + 2) := C1.r1
  have f9 : ar M (a1 + 2) 3 8 := C1.a1
  have f10 : ar M (a0 + 2) 3 8 := C0.a1
  subst qM1 qM2
  refine x_iload_n dX8_copy_10 2 rfl ?_
  refine x_aload_n dX8_copy_11 0 rfl ?_
  refine x_getI fdX8_19 rfl dX8_copy_12 f1.1 f1.2 ?_
  refine x_ic_ge 54 dX8_copy_15 (by decide) (fun c1 => ?_) (fun c1 => ?_)
  · exact x_vret rfl dX8_copy_54 (Nat.le_refl _) (Nat.le_refl _) (k1 c1)
  · refine x_iload_n dX8_copy_18 2 rfl ?_
    refine x_bipush (v := 8) dX8_copy_19 (by decide) ?_
    refine x_ic_ge 54 dX8_copy_21 (by decide) (fun c2 => ?_) (fun c2 => ?_)
    · exact x_vret rfl dX8_copy_54 (Nat.le_refl _) (Nat.le_refl _) (k2 c1 c2)
    · refine x_aload_n dX8_copy_24 0 rfl ?_
      refine x_getR fdX8_9 rfl dX8_copy_25 f1.1 f1.2 f2 ?_
      refine x_iload_n dX8_copy_28 2 rfl ?_
      refine x_aload_n dX8_copy_29 1 rfl ?_
      refine x_getR fdX8_9 rfl dX8_copy_30 f3.1 f3.2 f4 ?_
      refine x_iload_n dX8_copy_33 2 rfl ?_
      refine x_iald dX8_copy_34 f5.1 f5.2 (h1 c1 c2) ?_
      refine x_iast dX8_copy_35 f6.1 f6.2 (h2 c1 c2) ?_
      refine x_aload_n dX8_copy_36 0 rfl ?_
      refine x_getR fdX8_15 rfl dX8_copy_37 f1.1 f1.2 f7 ?_
      refine x_iload_n dX8_copy_40 2 rfl ?_
      refine x_aload_n dX8_copy_41 1 rfl ?_
      refine x_getR fdX8_15 rfl dX8_copy_42 f3.1 f3.2 f8 ?_
      refine x_iload_n dX8_copy_45 2 rfl ?_
      refine x_zald dX8_copy_46 f9.1 f9.2 (h3 c1 c2) ?_
      refine x_zast dX8_copy_47 f10.1 f10.2 (h4 c1 c2) ?_
      refine x_iinc (v := (i2 + 1)) (lv1 := [(2, .int (i2 + 1)), (0, .ref a0), (1, .ref a1)]) dX8_copy_48 2 rfl rfl (by decide) rfl ?_
      refine x_goto 10 dX8_copy_51 (by decide) ?_
      exact EX.sub [1, 2, 0] (k3 c1 c2) rfl
set_option maxRecDepth 8000 in
theorem qX8_fit_0 {g : GG} {d : Nat} {M : MM} {P : Option Value → MM → Prop} {a0 : Nat} {i1 : Int32}
    (k1 : E0 g YX8_fit d 2 [(0, .ref a0), (1, .int i1), (2, .int 0)] [] M P) :
    E0 g YX8_fit d 0 [(0, .ref a0), (1, .int i1)] [] M P := by
  refine x_iconst (v := 0) dX8_fit_0 (by decide) ?_
  refine x_istore_n (lv1 := [(2, .int 0), (0, .ref a0), (1, .int i1)]) dX8_fit_1 (by decide) rfl ?_
  exact EX.sub [1, 2, 0] k1 rfl
set_option maxRecDepth 8000 in
theorem qX8_fit_2 {g : GG} {d : Nat} {M : MM} {P : Option Value → MM → Prop} {a0 : Nat} {i1 : Int32} {i2 : Int32} (C0 : Sgt M a0)
    (h1 : ¬ ((mi M a0 2) ≤ i2) → ¬ (8 ≤ i2) → vp_in i2 8)
    (h2 : ¬ ((mi M a0 2) ≤ i2) → ¬ (8 ≤ i2) → ¬ ((i1 >>> ((mi M (a0 + 1) (i2 : Int32).toNatClampNeg) &&& 31)) &&& 1) = 1 → vp_in i2 8)
    (h3 : ¬ ((mi M a0 2) ≤ i2) → ¬ (8 ≤ i2) → ((i1 >>> ((mi M (a0 + 1) (i2 : Int32).toNatClampNeg) &&& 31)) &&& 1) = 1 → vp_in i2 8)
    (k1 : (mi M a0 2) ≤ i2 → P (some (.int 1)) M)
    (k2 : ¬ ((mi M a0 2) ≤ i2) → 8 ≤ i2 → P (some (.int 1)) M)
    (k3 : ¬ ((mi M a0 2) ≤ i2) → ¬ (8 ≤ i2) → ¬ ((i1 >>> ((mi M (a0 + 1) (i2 : Int32).toNatClampNeg) &&& 31)) &&& 1) = 1 → (0 : Int32) = (mi M (a0 + 2) (i2 : Int32).toNatClampNeg) → E0 g YX8_fit d 2 [(0, .ref a0), (1, .int i1), (2, .int (i2 + 1))] [] M P)
    (k4 : ¬ ((mi M a0 2) ≤ i2) → ¬ (8 ≤ i2) → ¬ ((i1 >>> ((mi M (a0 + 1) (i2 : Int32).toNatClampNeg) &&& 31)) &&& 1) = 1 → ¬ ((0 : Int32) = (mi M (a0 + 2) (i2 : Int32).toNatClampNeg)) → P (some (.int 0)) M)
    (k5 : ¬ ((mi M a0 2) ≤ i2) → ¬ (8 ≤ i2) → ((i1 >>> ((mi M (a0 + 1) (i2 : Int32).toNatClampNeg) &&& 31)) &&& 1) = 1 → (1 : Int32) = (mi M (a0 + 2) (i2 : Int32).toNatClampNeg) → E0 g YX8_fit d 2 [(0, .ref a0), (1, .int i1), (2, .int (i2 + 1))] [] M P)
    (k6 : ¬ ((mi M a0 2) ≤ i2) → ¬ (8 ≤ i2) → ((i1 >>> ((mi M (a0 + 1) (i2 : Int32).toNatClampNeg) &&& 31)) &&& 1) = 1 → ¬ ((1 : Int32) = (mi M (a0 + 2) (i2 : Int32).toNatClampNeg)) → P (some (.int 0)) M) :
    E0 g YX8_fit d 2 [(0, .ref a0), (1, .int i1), (2, .int i2)] [] M P := by
  have f1 : ob M a0 8 := C0.o
  have f2 : mr M a0 0 = some (a0 + 1) := C0.r0
  have f3 : ar M (a0 + 1) 1 8 := C0.a0
  have f4 : mr M a0 1 = some (a0 + 2) := C0.r1
  have f5 : ar M (a0 + 2) 3 8 := C0.a1
  refine x_iload_n dX8_fit_2 2 rfl ?_
  refine x_aload_n dX8_fit_3 0 rfl ?_
  refine x_getI fdX8_19 rfl dX8_fit_4 f1.1 f1.2 ?_
  refine x_ic_ge 52 dX8_fit_7 (by decide) (fun c1 => ?_) (fun c1 => ?_)
  · refine x_iconst (v := 1) dX8_fit_52 (by decide) ?_
    exact x_zret rfl dX8_fit_53 rfl (Nat.le_refl _) (Nat.le_refl _) (k1 c1)
  · refine x_iload_n dX8_fit_10 2 rfl ?_
    refine x_bipush (v := 8) dX8_fit_11 (by decide) ?_
    refine x_ic_ge 52 dX8_fit_13 (by decide) (fun c2 => ?_) (fun c2 => ?_)
    · refine x_iconst (v := 1) dX8_fit_52 (by decide) ?_
      exact x_zret rfl dX8_fit_53 rfl (Nat.le_refl _) (Nat.le_refl _) (k2 c1 c2)
    · refine x_iload_n dX8_fit_16 1 rfl ?_
      refine x_aload_n dX8_fit_17 0 rfl ?_
      refine x_getR fdX8_9 rfl dX8_fit_18 f1.1 f1.2 f2 ?_
      refine x_iload_n dX8_fit_21 2 rfl ?_
      refine x_iald dX8_fit_22 f3.1 f3.2 (h1 c1 c2) ?_
      refine x_ishr dX8_fit_23 ?_
      refine x_iconst (v := 1) dX8_fit_24 (by decide) ?_
      refine x_iand dX8_fit_25 ?_
      refine x_iconst (v := 1) dX8_fit_26 (by decide) ?_
      refine x_ic_ne 34 dX8_fit_27 (by decide) (fun c3 => ?_) (fun c3 => ?_)
      · refine x_iconst (v := 0) dX8_fit_34 (by decide) ?_
        refine x_aload_n dX8_fit_35 0 rfl ?_
        refine x_getR fdX8_15 rfl dX8_fit_36 f1.1 f1.2 f4 ?_
        refine x_iload_n dX8_fit_39 2 rfl ?_
        refine x_zald dX8_fit_40 f5.1 f5.2 (h2 c1 c2 c3) ?_
        refine x_ic_eq 46 dX8_fit_41 (by decide) (fun c4 => ?_) (fun c4 => ?_)
        · refine x_iinc (v := (i2 + 1)) (lv1 := [(2, .int (i2 + 1)), (0, .ref a0), (1, .int i1)]) dX8_fit_46 2 rfl rfl (by decide) rfl ?_
          refine x_goto 2 dX8_fit_49 (by decide) ?_
          exact EX.sub [1, 2, 0] (k3 c1 c2 c3 c4) rfl
        · refine x_iconst (v := 0) dX8_fit_44 (by decide) ?_
          exact x_zret rfl dX8_fit_45 rfl (Nat.le_refl _) (Nat.le_refl _) (k4 c1 c2 c3 c4)
      · refine x_iconst (v := 1) dX8_fit_30 (by decide) ?_
        refine x_goto 35 dX8_fit_31 (by decide) ?_
        refine x_aload_n dX8_fit_35 0 rfl ?_
        refine x_getR fdX8_15 rfl dX8_fit_36 f1.1 f1.2 f4 ?_
        refine x_iload_n dX8_fit_39 2 rfl ?_
        refine x_zald dX8_fit_40 f5.1 f5.2 (h3 c1 c2 c3) ?_
        refine x_ic_eq 46 dX8_fit_41 (by decide) (fun c4 => ?_) (fun c4 => ?_)
        · refine x_iinc (v := (i2 + 1)) (lv1 := [(2, .int (i2 + 1)), (0, .ref a0), (1, .int i1)]) dX8_fit_46 2 rfl rfl (by decide) rfl ?_
          refine x_goto 2 dX8_fit_49 (by decide) ?_
          exact EX.sub [1, 2, 0] (k5 c1 c2 c3 c4) rfl
        · refine x_iconst (v := 0) dX8_fit_44 (by decide) ?_
          exact x_zret rfl dX8_fit_45 rfl (Nat.le_refl _) (Nat.le_refl _) (k6 c1 c2 c3 c4)
