set_option maxRecDepth 8000 in
theorem qX5_clear_0 {g : GG} {d : Nat} {M : MM} {P : Option Value → MM → Prop} {a0 : Nat} {M1 : MM} (C0 : Pln M a0)
    (qM1 : M1 = wi M a0 0 0)
    (k1 : P none M1) :
    E0 g YX5_clear d 0 [(0, .ref a0)] [] M P := by
  have f1 : ob M a0 5 := C0.o
  subst qM1
  refine x_aload_n dX5_clear_0 0 rfl ?_
  refine x_iconst (v := 0) dX5_clear_1 (by decide) ?_
  refine x_putI fdX5_24 rfl (Or.inl rfl) dX5_clear_2 f1.1 f1.2 rfl rfl ?_
  exact x_vret rfl dX5_clear_5 (Nat.le_refl _) (Nat.le_refl _) (k1)
set_option maxRecDepth 8000 in
theorem qX5_add_0 {g : GG} {d : Nat} {M : MM} {P : Option Value → MM → Prop} {a0 : Nat} {i1 : Int32} {i2 : Int32} {i3 : Int32} {i4 : Int32} {M1 : MM} {M2 : MM} {M3 : MM} {M4 : MM} {M5 : MM} (C0 : Pln M a0)
    (qM1 : M1 = wi M (a0 + 1) ((mi M a0 0) : Int32).toNatClampNeg i1)
    (qM2 : M2 = wi M1 (a0 + 2) ((mi M1 a0 0) : Int32).toNatClampNeg i2)
    (qM3 : M3 = wi M2 (a0 + 3) ((mi M2 a0 0) : Int32).toNatClampNeg i3)
    (qM4 : M4 = wi M3 (a0 + 4) ((mi M3 a0 0) : Int32).toNatClampNeg i4)
    (qM5 : M5 = wi M4 a0 0 ((mi M4 a0 0) + 1))
    (h1 : ¬ (40 ≤ (mi M a0 0)) → vp_in (mi M a0 0) 40)
    (h2 : ¬ (40 ≤ (mi M a0 0)) → vp_in (mi M1 a0 0) 40)
    (h3 : ¬ (40 ≤ (mi M a0 0)) → vp_in (mi M2 a0 0) 40)
    (h4 : ¬ (40 ≤ (mi M a0 0)) → vp_in (mi M3 a0 0) 40)
    (k1 : 40 ≤ (mi M a0 0) → P none M)
    (k2 : ¬ (40 ≤ (mi M a0 0)) → P none M5) :
    E0 g YX5_add d 0 [(0, .ref a0), (1, .int i1), (2, .int i2), (3, .int i3), (4, .int i4)] [] M P := by
  have f1 : ob M a0 5 := C0.o
  have f2 : mr M a0 1 = some (a0 + 1) := C0.r1
  have f3 : ar M (a0 + 1) 1 40 := C0.a1
  have f4 : mr M a0 2 = some (a0 + 2) := C0.r2
  have f5 : ar M (a0 + 2) 1 40 := C0.a2
  have f6 : mr M a0 3 = some (a0 + 3) := C0.r3
  have f7 : ar M (a0 + 3) 1 40 := C0.a3
  have f8 : mr M a0 4 = some (a0 + 4) := C0.r4
  have f9 : ar M (a0 + 4) 1 40 := C0.a4
  subst qM1 qM2 qM3 qM4 qM5
  refine x_aload_n dX5_add_0 0 rfl ?_
  refine x_getI fdX5_24 rfl dX5_add_1 f1.1 f1.2 ?_
  refine x_bipush (v := 40) dX5_add_4 (by decide) ?_
  refine x_ic_ge 60 dX5_add_6 (by decide) (fun c1 => ?_) (fun c1 => ?_)
  · exact x_vret rfl dX5_add_60 (Nat.le_refl _) (Nat.le_refl _) (k1 c1)
  · refine x_aload_n dX5_add_9 0 rfl ?_
    refine x_getR fdX5_9 rfl dX5_add_10 f1.1 f1.2 f2 ?_
    refine x_aload_n dX5_add_13 0 rfl ?_
    refine x_getI fdX5_24 rfl dX5_add_14 f1.1 f1.2 ?_
    refine x_iload_n dX5_add_17 1 rfl ?_
    refine x_iast dX5_add_18 f3.1 f3.2 (h1 c1) ?_
    refine x_aload_n dX5_add_19 0 rfl ?_
    refine x_getR fdX5_15 rfl dX5_add_20 f1.1 f1.2 f4 ?_
    refine x_aload_n dX5_add_23 0 rfl ?_
    refine x_getI fdX5_24 rfl dX5_add_24 f1.1 f1.2 ?_
    refine x_iload_n dX5_add_27 2 rfl ?_
    refine x_iast dX5_add_28 f5.1 f5.2 (h2 c1) ?_
    refine x_aload_n dX5_add_29 0 rfl ?_
    refine x_getR fdX5_18 rfl dX5_add_30 f1.1 f1.2 f6 ?_
    refine x_aload_n dX5_add_33 0 rfl ?_
    refine x_getI fdX5_24 rfl dX5_add_34 f1.1 f1.2 ?_
    refine x_iload_n dX5_add_37 3 rfl ?_
    refine x_iast dX5_add_38 f7.1 f7.2 (h3 c1) ?_
    refine x_aload_n dX5_add_39 0 rfl ?_
    refine x_getR fdX5_21 rfl dX5_add_40 f1.1 f1.2 f8 ?_
    refine x_aload_n dX5_add_43 0 rfl ?_
    refine x_getI fdX5_24 rfl dX5_add_44 f1.1 f1.2 ?_
    refine x_iload dX5_add_47 4 rfl ?_
    refine x_iast dX5_add_49 f9.1 f9.2 (h4 c1) ?_
    refine x_aload_n dX5_add_50 0 rfl ?_
    refine x_dup dX5_add_51 rfl ?_
    refine x_getI fdX5_24 rfl dX5_add_52 f1.1 f1.2 ?_
    refine x_iconst (v := 1) dX5_add_55 (by decide) ?_
    refine x_iadd dX5_add_56 ?_
    refine x_putI fdX5_24 rfl (Or.inl rfl) dX5_add_57 f1.1 f1.2 rfl rfl ?_
    exact x_vret rfl dX5_add_60 (Nat.le_refl _) (Nat.le_refl _) (k2 c1)
set_option maxRecDepth 8000 in
theorem qX5_copy_0 {g : GG} {d : Nat} {M : MM} {P : Option Value → MM → Prop} {a0 : Nat} {a1 : Nat} {M1 : MM} (C0 : Pln M a0) (C1 : Pln M a1)
    (qM1 : M1 = wi M a0 0 (mi M a1 0))
    (k1 : E0 g YX5_copy d 10 [(0, .ref a0), (1, .ref a1), (2, .int 0)] [] M1 P) :
    E0 g YX5_copy d 0 [(0, .ref a0), (1, .ref a1)] [] M P := by
  have f1 : ob M a1 5 := C1.o
  have f2 : ob M a0 5 := C0.o
  subst qM1
  refine x_aload_n dX5_copy_0 0 rfl ?_
  refine x_aload_n dX5_copy_1 1 rfl ?_
  refine x_getI fdX5_24 rfl dX5_copy_2 f1.1 f1.2 ?_
  refine x_putI fdX5_24 rfl (Or.inl rfl) dX5_copy_5 f2.1 f2.2 rfl rfl ?_
  refine x_iconst (v := 0) dX5_copy_8 (by decide) ?_
  refine x_istore_n (lv1 := [(2, .int 0), (0, .ref a0), (1, .ref a1)]) dX5_copy_9 (by decide) rfl ?_
  exact EX.sub [1, 2, 0] k1 rfl
set_option maxRecDepth 8000 in
theorem qX5_copy_10 {g : GG} {d : Nat} {M : MM} {P : Option Value → MM → Prop} {a0 : Nat} {a1 : Nat} {i2 : Int32} {M1 : MM} {M2 : MM} {M3 : MM} {M4 : MM} (C0 : Pln M a0) (C1 : Pln M a1)
    (qM1 : M1 = wi M (a0 + 1) (i2 : Int32).toNatClampNeg (mi M (a1 + 1) (i2 : Int32).toNatClampNeg))
    (qM2 : M2 = wi M1 (a0 + 2) (i2 : Int32).toNatClampNeg (mi M1 (a1 + 2) (i2 : Int32).toNatClampNeg))
    (qM3 : M3 = wi M2 (a0 + 3) (i2 : Int32).toNatClampNeg (mi M2 (a1 + 3) (i2 : Int32).toNatClampNeg))
    (qM4 : M4 = wi M3 (a0 + 4) (i2 : Int32).toNatClampNeg (mi M3 (a1 + 4) (i2 : Int32).toNatClampNeg))
    (h1 : ¬ ((mi M a0 0) ≤ i2) → ¬ (40 ≤ i2) → vp_in i2 40)
    (h2 : ¬ ((mi M a0 0) ≤ i2) → ¬ (40 ≤ i2) → vp_in i2 40)
    (h3 : ¬ ((mi M a0 0) ≤ i2) → ¬ (40 ≤ i2) → vp_in i2 40)
    (h4 : ¬ ((mi M a0 0) ≤ i2) → ¬ (40 ≤ i2) → vp_in i2 40)
    (h5 : ¬ ((mi M a0 0) ≤ i2) → ¬ (40 ≤ i2) → vp_in i2 40)
    (h6 : ¬ ((mi M a0 0) ≤ i2) → ¬ (40 ≤ i2) → vp_in i2 40)
    (h7 : ¬ ((mi M a0 0) ≤ i2) → ¬ (40 ≤ i2) → vp_in i2 40)
    (h8 : ¬ ((mi M a0 0) ≤ i2) → ¬ (40 ≤ i2) → vp_in i2 40)
    (k1 : (mi M a0 0) ≤ i2 → P none M)
    (k2 : ¬ ((mi M a0 0) ≤ i2) → 40 ≤ i2 → P none M)
    (k3 : ¬ ((mi M a0 0) ≤ i2) → ¬ (40 ≤ i2) → E0 g YX5_copy d 10 [(0, .ref a0), (1, .ref a1), (2, .int (i2 + 1))] [] M4 P) :
    E0 g YX5_copy d 10 [(0, .ref a0), (1, .ref a1), (2, .int i2)] [] M P := by
  have f1 : ob M a0 5 := C0.o
  have f2 : mr M a0 1 = some (a0 + 1) := C0.r1
  have f3 : ob M a1 5 := C1.o
  have f4 : mr M a1 1 = some (a1 + 1) := C1.r1
  have f5 : ar M (a1 + 1) 1 40 := C1.a1
  have f6 : ar M (a0 + 1) 1 40 := C0.a1
  have f7 : mr M a0 2 = some (a0 + 2) := C0.r2
  have f8 : mr M a1 2 = some (a1 + 2) := C1.r2
  have f9 : ar M (a1 + 2) 1 40 := C1.a2
  have f10 : ar M (a0 + 2) 1 40 := C0.a2
  have f11 : mr M a0 3 = some (a0 + 3) := C0.r3
  have f12 : mr M a1 3 = some (a1 + 3) := C1.r3
  have f13 : ar M (a1 + 3) 1 40 := C1.a3
  have f14 : ar M (a0 + 3) 1 40 := C0.a3
  have f15 : mr M a0 4 = some (a0 + 4) := C0.r4
  have f16 : mr M a1 4 = some (a1 + 4) := C1.r4
  have f17 : ar M (a1 + 4) 1 40 := C1.a4
  have f18 : ar M (a0 + 4) 1 40 := C0.a4
  subst qM1 qM2 qM3 qM4
  refine x_iload_n dX5_copy_10 2 rfl ?_
  refine x_aload_n dX5_copy_11 0 rfl ?_
  refine x_getI fdX5_24 rfl dX5_copy_12 f1.1 f1.2 ?_
  refine x_ic_ge 78 dX5_copy_15 (by decide) (fun c1 => ?_) (fun c1 => ?_)
  · exact x_vret rfl dX5_copy_78 (Nat.le_refl _) (Nat.le_refl _) (k1 c1)
  · refine x_iload_n dX5_copy_18 2 rfl ?_
    refine x_bipush (v := 40) dX5_copy_19 (by decide) ?_
    refine x_ic_ge 78 dX5_copy_21 (by decide) (fun c2 => ?_) (fun c2 => ?_)
    · exact x_vret rfl dX5_copy_78 (Nat.le_refl _) (Nat.le_refl _) (k2 c1 c2)
    · refine x_aload_n dX5_copy_24 0 rfl ?_
      refine x_getR fdX5_9 rfl dX5_copy_25 f1.1 f1.2 f2 ?_
      refine x_iload_n dX5_copy_28 2 rfl ?_
      refine x_aload_n dX5_copy_29 1 rfl ?_
      refine x_getR fdX5_9 rfl dX5_copy_30 f3.1 f3.2 f4 ?_
      refine x_iload_n dX5_copy_33 2 rfl ?_
      refine x_iald dX5_copy_34 f5.1 f5.2 (h1 c1 c2) ?_
      refine x_iast dX5_copy_35 f6.1 f6.2 (h2 c1 c2) ?_
      refine x_aload_n dX5_copy_36 0 rfl ?_
      refine x_getR fdX5_15 rfl dX5_copy_37 f1.1 f1.2 f7 ?_
      refine x_iload_n dX5_copy_40 2 rfl ?_
      refine x_aload_n dX5_copy_41 1 rfl ?_
      refine x_getR fdX5_15 rfl dX5_copy_42 f3.1 f3.2 f8 ?_
      refine x_iload_n dX5_copy_45 2 rfl ?_
      refine x_iald dX5_copy_46 f9.1 f9.2 (h3 c1 c2) ?_
      refine x_iast dX5_copy_47 f10.1 f10.2 (h4 c1 c2) ?_
      refine x_aload_n dX5_copy_48 0 rfl ?_
      refine x_getR fdX5_18 rfl dX5_copy_49 f1.1 f1.2 f11 ?_
      refine x_iload_n dX5_copy_52 2 rfl ?_
      refine x_aload_n dX5_copy_53 1 rfl ?_
      refine x_getR fdX5_18 rfl dX5_copy_54 f3.1 f3.2 f12 ?_
      refine x_iload_n dX5_copy_57 2 rfl ?_
      refine x_iald dX5_copy_58 f13.1 f13.2 (h5 c1 c2) ?_
      refine x_iast dX5_copy_59 f14.1 f14.2 (h6 c1 c2) ?_
      refine x_aload_n dX5_copy_60 0 rfl ?_
      refine x_getR fdX5_21 rfl dX5_copy_61 f1.1 f1.2 f15 ?_
      refine x_iload_n dX5_copy_64 2 rfl ?_
      refine x_aload_n dX5_copy_65 1 rfl ?_
      refine x_getR fdX5_21 rfl dX5_copy_66 f3.1 f3.2 f16 ?_
      refine x_iload_n dX5_copy_69 2 rfl ?_
      refine x_iald dX5_copy_70 f17.1 f17.2 (h7 c1 c2) ?_
      refine x_iast dX5_copy_71 f18.1 f18.2 (h8 c1 c2) ?_
      refine x_iinc (v := (i2 + 1)) (lv1 := [(2, .int (i2 + 1)), (0, .ref a0), (1, .ref a1)]) dX5_copy_72 2 rfl rfl (by decide) rfl ?_
      refine x_goto 10 dX5_copy_75 (by decide) ?_
      exact EX.sub [1, 2, 0] (k3 c1 c2) rfl
set_option maxRecDepth 8000 in
theorem qX5_isPossible_0 {g : GG} {d : Nat} {M : MM} {P : Option Value → MM → Prop} {a0 : Nat} {i1 : Int32} {a2 : Nat} {a3 : Nat} (C0 : Pln M a0) (C2 : Cty M a2) (C3 : Trv M a3)
    (h1 : ¬ (i1 < 0) → i1 < (mi M a0 0) → vp_in i1 40)
    (h2 : ¬ (i1 < 0) → i1 < (mi M a0 0) → ¬ ((mi M (a0 + 1) (i1 : Int32).toNatClampNeg) : Int32).toInt = 0 ∧ ¬ ((mi M (a0 + 1) (i1 : Int32).toNatClampNeg) : Int32).toInt = 3 → vp_in i1 40)
    (h3 : ¬ (i1 < 0) → i1 < (mi M a0 0) → ¬ ((mi M (a0 + 1) (i1 : Int32).toNatClampNeg) : Int32).toInt = 0 ∧ ¬ ((mi M (a0 + 1) (i1 : Int32).toNatClampNeg) : Int32).toInt = 3 → vp_in i1 40)
    (k1 : i1 < 0 → P (some (.int 0)) M)
    (k2 : ¬ (i1 < 0) → i1 < (mi M a0 0) → ((mi M (a0 + 1) (i1 : Int32).toNatClampNeg) : Int32).toInt = 0 → (mi M a2 5) ≤ 0 → P (some (.int 0)) M)
    (k3 : ¬ (i1 < 0) → i1 < (mi M a0 0) → ((mi M (a0 + 1) (i1 : Int32).toNatClampNeg) : Int32).toInt = 0 → ¬ ((mi M a2 5) ≤ 0) → P (some (.int 1)) M)
    (k4 : ¬ (i1 < 0) → i1 < (mi M a0 0) → ((mi M (a0 + 1) (i1 : Int32).toNatClampNeg) : Int32).toInt = 3 → P (some (.int 1)) M)
    (k5 : ¬ (i1 < 0) → i1 < (mi M a0 0) → ¬ ((mi M (a0 + 1) (i1 : Int32).toNatClampNeg) : Int32).toInt = 0 ∧ ¬ ((mi M (a0 + 1) (i1 : Int32).toNatClampNeg) : Int32).toInt = 3 → K0 g YX5_isPossible YX10_holds d 79 [.ref a3, .int (mi M (a0 + 2) (i1 : Int32).toNatClampNeg), .int (mi M (a0 + 4) (i1 : Int32).toNatClampNeg)] [] [] M P)
    (k6 : ¬ (i1 < 0) → ¬ (i1 < (mi M a0 0)) → P (some (.int 0)) M) :
    E0 g YX5_isPossible d 0 [(0, .ref a0), (1, .int i1), (2, .ref a2), (3, .ref a3)] [] M P := by
  have f1 : ob M a0 5 := C0.o
  have f2 : mr M a0 1 = some (a0 + 1) := C0.r1
  have f3 : ar M (a0 + 1) 1 40 := C0.a1
  have f4 : ob M a2 0 := C2.o
  have f5 : mr M a0 2 = some (a0 + 2) := C0.r2
  have f6 : ar M (a0 + 2) 1 40 := C0.a2
  have f7 : mr M a0 4 = some (a0 + 4) := C0.r4
  have f8 : ar M (a0 + 4) 1 40 := C0.a4
  have f9 : ob M a3 10 := C3.o
  refine x_iload_n dX5_isPossible_0 1 rfl ?_
  refine x_if_lt 12 dX5_isPossible_1 (by decide) (fun c1 => ?_) (fun c1 => ?_)
  · refine x_iconst (v := 0) dX5_isPossible_12 (by decide) ?_
    exact x_zret rfl dX5_isPossible_13 rfl (Nat.le_refl _) (Nat.le_refl _) (k1 c1)
  · refine x_iload_n dX5_isPossible_4 1 rfl ?_
    refine x_aload_n dX5_isPossible_5 0 rfl ?_
    refine x_getI fdX5_24 rfl dX5_isPossible_6 f1.1 f1.2 ?_
    refine x_ic_lt 14 dX5_isPossible_9 (by decide) (fun c2 => ?_) (fun c2 => ?_)
    · refine x_aload_n dX5_isPossible_14 0 rfl ?_
      refine x_getR fdX5_9 rfl dX5_isPossible_15 f1.1 f1.2 f2 ?_
      refine x_iload_n dX5_isPossible_18 1 rfl ?_
      refine x_iald dX5_isPossible_19 f3.1 f3.2 (h1 c1 c2) ?_
      by_cases c3_0 : ((mi M (a0 + 1) (i1 : Int32).toNatClampNeg) : Int32).toInt = 0
      · have c3 := c3_0
        refine x_look 48 dX5_isPossible_20 rfl (by rw [c3]; rfl) ?_
        refine x_aload_n dX5_isPossible_48 2 rfl ?_
        refine x_getI fdX5_28 rfl dX5_isPossible_49 f4.1 f4.2 ?_
        refine x_if_le 59 dX5_isPossible_52 (by decide) (fun c4 => ?_) (fun c4 => ?_)
        · refine x_iconst (v := 0) dX5_isPossible_59 (by decide) ?_
          exact x_zret rfl dX5_isPossible_60 rfl (Nat.le_refl _) (Nat.le_refl _) (k2 c1 c2 c3 c4)
        · refine x_iconst (v := 1) dX5_isPossible_55 (by decide) ?_
          refine x_goto 60 dX5_isPossible_56 (by decide) ?_
          exact x_zret rfl dX5_isPossible_60 rfl (Nat.le_refl _) (Nat.le_refl _) (k3 c1 c2 c3 c4)
      · skip
        by_cases c3_1 : ((mi M (a0 + 1) (i1 : Int32).toNatClampNeg) : Int32).toInt = 3
        · have c3 := c3_1
          refine x_look 61 dX5_isPossible_20 rfl (by rw [c3]; rfl) ?_
          refine x_iconst (v := 1) dX5_isPossible_61 (by decide) ?_
          exact x_zret rfl dX5_isPossible_62 rfl (Nat.le_refl _) (Nat.le_refl _) (k4 c1 c2 c3)
        · skip
          have c3 : ¬ ((mi M (a0 + 1) (i1 : Int32).toNatClampNeg) : Int32).toInt = 0 ∧ ¬ ((mi M (a0 + 1) (i1 : Int32).toNatClampNeg) : Int32).toInt = 3 := ⟨c3_0, c3_1⟩
          refine x_look 63 dX5_isPossible_20 rfl (by simp [Op.lookupswitch.offset, c3_0, Ne.symm c3_0, c3_1, Ne.symm c3_1]) ?_
          refine x_aload_n dX5_isPossible_63 3 rfl ?_
          refine x_aload_n dX5_isPossible_64 0 rfl ?_
          refine x_getR fdX5_15 rfl dX5_isPossible_65 f1.1 f1.2 f5 ?_
          refine x_iload_n dX5_isPossible_68 1 rfl ?_
          refine x_iald dX5_isPossible_69 f6.1 f6.2 (h2 c1 c2 c3) ?_
          refine x_aload_n dX5_isPossible_70 0 rfl ?_
          refine x_getR fdX5_21 rfl dX5_isPossible_71 f1.1 f1.2 f7 ?_
          refine x_iload_n dX5_isPossible_74 1 rfl ?_
          refine x_iald dX5_isPossible_75 f8.1 f8.2 (h3 c1 c2 c3) ?_
          refine EX.sub [] (K0.v (As := [.int (mi M (a0 + 2) (i1 : Int32).toNatClampNeg), .int (mi M (a0 + 4) (i1 : Int32).toNatClampNeg)]) (st := []) cvX5_33 dX5_isPossible_76 rfl rfl f9 rfl (Nat.le_of_ble_eq_true rfl) (k5 c1 c2 c3)) rfl
    · refine x_iconst (v := 0) dX5_isPossible_12 (by decide) ?_
      exact x_zret rfl dX5_isPossible_13 rfl (Nat.le_refl _) (Nat.le_refl _) (k6 c1 c2)
set_option maxRecDepth 8000 in
theorem qX5_isPossible_79 {g : GG} {d : Nat} {M : MM} {P : Option Value → MM → Prop} {s0 : Int32}
    (h1 : s0 &&& 1 = s0)
    (k1 : P (some (.int s0)) M) :
    E0 g YX5_isPossible d 79 [] [.int s0] M P := by
  exact x_zret rfl dX5_isPossible_79 (h1) (Nat.le_refl _) (Nat.le_refl _) (k1)
set_option maxRecDepth 8000 in
theorem qX5_follow_0 {g : GG} {d : Nat} {M : MM} {P : Option Value → MM → Prop} {a0 : Nat} {i1 : Int32} {a2 : Nat} {a3 : Nat} (C0 : Pln M a0) (C3 : Trv M a3)
    (h1 : ¬ (i1 < 0) → i1 < (mi M a0 0) → vp_in i1 40)
    (h2 : ¬ (i1 < 0) → i1 < (mi M a0 0) → ((mi M (a0 + 1) (i1 : Int32).toNatClampNeg) : Int32).toInt = 1 → vp_in i1 40)
    (h3 : ¬ (i1 < 0) → i1 < (mi M a0 0) → ((mi M (a0 + 1) (i1 : Int32).toNatClampNeg) : Int32).toInt = 1 → vp_in i1 40)
    (h4 : ¬ (i1 < 0) → i1 < (mi M a0 0) → ((mi M (a0 + 1) (i1 : Int32).toNatClampNeg) : Int32).toInt = 2 → vp_in i1 40)
    (h5 : ¬ (i1 < 0) → i1 < (mi M a0 0) → ((mi M (a0 + 1) (i1 : Int32).toNatClampNeg) : Int32).toInt = 2 → vp_in i1 40)
    (h6 : ¬ (i1 < 0) → i1 < (mi M a0 0) → ((mi M (a0 + 1) (i1 : Int32).toNatClampNeg) : Int32).toInt = 2 → vp_in i1 40)
    (k1 : i1 < 0 → P none M)
    (k2 : ¬ (i1 < 0) → i1 < (mi M a0 0) → ((mi M (a0 + 1) (i1 : Int32).toNatClampNeg) : Int32).toInt < 0 ∨ 2 < ((mi M (a0 + 1) (i1 : Int32).toNatClampNeg) : Int32).toInt → K0 g YX5_follow YX10_turnRound d 101 [.ref a3] [] [] M P)
    (k3 : ¬ (i1 < 0) → i1 < (mi M a0 0) → ((mi M (a0 + 1) (i1 : Int32).toNatClampNeg) : Int32).toInt = 0 → K0 g YX5_follow YX10_showNext d 49 [.ref a3, .ref a2] [] [] M P)
    (k4 : ¬ (i1 < 0) → i1 < (mi M a0 0) → ((mi M (a0 + 1) (i1 : Int32).toNatClampNeg) : Int32).toInt = 1 → K0 g YX5_follow YX10_giveBack d 69 [.ref a3, .int (mi M (a0 + 2) (i1 : Int32).toNatClampNeg), .int (mi M (a0 + 4) (i1 : Int32).toNatClampNeg)] [] [] M P)
    (k5 : ¬ (i1 < 0) → i1 < (mi M a0 0) → ((mi M (a0 + 1) (i1 : Int32).toNatClampNeg) : Int32).toInt = 2 → K0 g YX5_follow YX10_handOver d 94 [.ref a3, .int (mi M (a0 + 2) (i1 : Int32).toNatClampNeg), .int (mi M (a0 + 3) (i1 : Int32).toNatClampNeg), .int (mi M (a0 + 4) (i1 : Int32).toNatClampNeg)] [] [] M P)
    (k6 : ¬ (i1 < 0) → ¬ (i1 < (mi M a0 0)) → P none M) :
    E0 g YX5_follow d 0 [(0, .ref a0), (1, .int i1), (2, .ref a2), (3, .ref a3)] [] M P := by
  have f1 : ob M a0 5 := C0.o
  have f2 : mr M a0 1 = some (a0 + 1) := C0.r1
  have f3 : ar M (a0 + 1) 1 40 := C0.a1
  have f4 : ob M a3 10 := C3.o
  have f5 : mr M a0 2 = some (a0 + 2) := C0.r2
  have f6 : ar M (a0 + 2) 1 40 := C0.a2
  have f7 : mr M a0 4 = some (a0 + 4) := C0.r4
  have f8 : ar M (a0 + 4) 1 40 := C0.a4
  have f9 : mr M a0 3 = some (a0 + 3) := C0.r3
  have f10 : ar M (a0 + 3) 1 40 := C0.a3
  refine x_iload_n dX5_follow_0 1 rfl ?_
  refine x_if_lt 12 dX5_follow_1 (by decide) (fun c1 => ?_) (fun c1 => ?_)
  · exact x_vret rfl dX5_follow_12 (Nat.le_refl _) (Nat.le_refl _) (k1 c1)
  · refine x_iload_n dX5_follow_4 1 rfl ?_
    refine x_aload_n dX5_follow_5 0 rfl ?_
    refine x_getI fdX5_24 rfl dX5_follow_6 f1.1 f1.2 ?_
    refine x_ic_lt 13 dX5_follow_9 (by decide) (fun c2 => ?_) (fun c2 => ?_)
    · refine x_aload_n dX5_follow_13 0 rfl ?_
      refine x_getR fdX5_9 rfl dX5_follow_14 f1.1 f1.2 f2 ?_
      refine x_iload_n dX5_follow_17 1 rfl ?_
      refine x_iald dX5_follow_18 f3.1 f3.2 (h1 c1 c2) ?_
      by_cases c3 : ((mi M (a0 + 1) (i1 : Int32).toNatClampNeg) : Int32).toInt < 0 ∨ 2 < ((mi M (a0 + 1) (i1 : Int32).toNatClampNeg) : Int32).toInt
      · refine x_tabOut 97 dX5_follow_19 c3 (by decide) ?_
        refine x_aload_n dX5_follow_97 3 rfl ?_
        refine EX.sub [] (K0.v (As := []) (st := []) cvX5_51 dX5_follow_98 rfl rfl f4 rfl (Nat.le_of_ble_eq_true rfl) (k2 c1 c2 c3)) rfl
      · have qc3 : ((mi M (a0 + 1) (i1 : Int32).toNatClampNeg) : Int32).toInt = 0 ∨ ((mi M (a0 + 1) (i1 : Int32).toNatClampNeg) : Int32).toInt = 1 ∨ ((mi M (a0 + 1) (i1 : Int32).toNatClampNeg) : Int32).toInt = 2 := by omega
        clear c3
        rcases qc3 with c3 | c3 | c3
        · refine x_tabIn 44 dX5_follow_19 (by omega) (by omega) (off := 25) (by rw [show (((mi M (a0 + 1) (i1 : Int32).toNatClampNeg) : Int32).toInt - 0).toNat = 0 by omega]; rfl) (by decide) ?_
          refine x_aload_n dX5_follow_44 3 rfl ?_
          refine x_aload_n dX5_follow_45 2 rfl ?_
          refine EX.sub [] (K0.v (As := [.ref a2]) (st := []) cvX5_39 dX5_follow_46 rfl rfl f4 rfl (Nat.le_of_ble_eq_true rfl) (k3 c1 c2 c3)) rfl
        · refine x_tabIn 53 dX5_follow_19 (by omega) (by omega) (off := 34) (by rw [show (((mi M (a0 + 1) (i1 : Int32).toNatClampNeg) : Int32).toInt - 0).toNat = 1 by omega]; rfl) (by decide) ?_
          refine x_aload_n dX5_follow_53 3 rfl ?_
          refine x_aload_n dX5_follow_54 0 rfl ?_
          refine x_getR fdX5_15 rfl dX5_follow_55 f1.1 f1.2 f5 ?_
          refine x_iload_n dX5_follow_58 1 rfl ?_
          refine x_iald dX5_follow_59 f6.1 f6.2 (h2 c1 c2 c3) ?_
          refine x_aload_n dX5_follow_60 0 rfl ?_
          refine x_getR fdX5_21 rfl dX5_follow_61 f1.1 f1.2 f7 ?_
          refine x_iload_n dX5_follow_64 1 rfl ?_
          refine x_iald dX5_follow_65 f8.1 f8.2 (h3 c1 c2 c3) ?_
          refine EX.sub [] (K0.v (As := [.int (mi M (a0 + 2) (i1 : Int32).toNatClampNeg), .int (mi M (a0 + 4) (i1 : Int32).toNatClampNeg)]) (st := []) cvX5_43 dX5_follow_66 rfl rfl f4 rfl (Nat.le_of_ble_eq_true rfl) (k4 c1 c2 c3)) rfl
        · refine x_tabIn 72 dX5_follow_19 (by omega) (by omega) (off := 53) (by rw [show (((mi M (a0 + 1) (i1 : Int32).toNatClampNeg) : Int32).toInt - 0).toNat = 2 by omega]; rfl) (by decide) ?_
          refine x_aload_n dX5_follow_72 3 rfl ?_
          refine x_aload_n dX5_follow_73 0 rfl ?_
          refine x_getR fdX5_15 rfl dX5_follow_74 f1.1 f1.2 f5 ?_
          refine x_iload_n dX5_follow_77 1 rfl ?_
          refine x_iald dX5_follow_78 f6.1 f6.2 (h4 c1 c2 c3) ?_
          refine x_aload_n dX5_follow_79 0 rfl ?_
          refine x_getR fdX5_18 rfl dX5_follow_80 f1.1 f1.2 f9 ?_
          refine x_iload_n dX5_follow_83 1 rfl ?_
          refine x_iald dX5_follow_84 f10.1 f10.2 (h5 c1 c2 c3) ?_
          refine x_aload_n dX5_follow_85 0 rfl ?_
          refine x_getR fdX5_21 rfl dX5_follow_86 f1.1 f1.2 f7 ?_
          refine x_iload_n dX5_follow_89 1 rfl ?_
          refine x_iald dX5_follow_90 f8.1 f8.2 (h6 c1 c2 c3) ?_
          refine EX.sub [] (K0.v (As := [.int (mi M (a0 + 2) (i1 : Int32).toNatClampNeg), .int (mi M (a0 + 3) (i1 : Int32).toNatClampNeg), .int (mi M (a0 + 4) (i1 : Int32).toNatClampNeg)]) (st := []) cvX5_47 dX5_follow_91 rfl rfl f4 rfl (Nat.le_of_ble_eq_true rfl) (k5 c1 c2 c3)) rfl
    · exact x_vret rfl dX5_follow_12 (Nat.le_refl _) (Nat.le_refl _) (k6 c1 c2)
set_option maxRecDepth 8000 in
theorem qX5_follow_49 {g : GG} {d : Nat} {M : MM} {P : Option Value → MM → Prop} {s0 : Int32}
    (k1 : E0 g YX5_follow d 101 [] [] M P) :
    E0 g YX5_follow d 49 [] [.int s0] M P := by
  refine x_pop dX5_follow_49 rfl ?_
  refine x_goto 101 dX5_follow_50 (by decide) ?_
  exact EX.sub [] k1 rfl
set_option maxRecDepth 8000 in
theorem qX5_follow_69 {g : GG} {d : Nat} {M : MM} {P : Option Value → MM → Prop} 
    (k1 : E0 g YX5_follow d 101 [] [] M P) :
    E0 g YX5_follow d 69 [] [] M P := by
  refine x_goto 101 dX5_follow_69 (by decide) ?_
  exact EX.sub [] k1 rfl
set_option maxRecDepth 8000 in
theorem qX5_follow_94 {g : GG} {d : Nat} {M : MM} {P : Option Value → MM → Prop} 
    (k1 : E0 g YX5_follow d 101 [] [] M P) :
    E0 g YX5_follow d 94 [] [] M P := by
  refine x_goto 101 dX5_follow_94 (by decide) ?_
  exact EX.sub [] k1 rfl
set_option maxRecDepth 8000 in
theorem qX5_follow_101 {g : GG} {d : Nat} {M : MM} {P : Option Value → MM → Prop} 
    (k1 : P none M) :
    E0 g YX5_follow d 101 [] [] M P := by
  exact x_vret rfl dX5_follow_101 (Nat.le_refl _) (Nat.le_refl _) (k1)
