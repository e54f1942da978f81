set_option maxRecDepth 8000 in
theorem qX2_add_0 {g : GG} {d : Nat} {M : MM} {P : Option Value → MM → Prop} {a0 : Nat} {i1 : Int32} {M1 : MM} {M2 : MM} (C0 : Lws M a0)
    (qM1 : M1 = wi M (a0 + 1) ((mi M a0 1) : Int32).toNatClampNeg i1)
    (qM2 : M2 = wi M1 a0 1 ((mi M1 a0 1) + 1))
    (h1 : ¬ (1000 ≤ (mi M a0 1)) → vp_in (mi M a0 1) 1000)
    (k1 : 1000 ≤ (mi M a0 1) → P none M)
    (k2 : ¬ (1000 ≤ (mi M a0 1)) → P none M2) :
    E0 g YX2_add d 0 [(0, .ref a0), (1, .int i1)] [] M P := by
  have f1 : ob M a0 2 := C0.o
  have f2 : mr M a0 0 = some (a0 + 1) := C0.r0
  have f3 : ar M (a0 + 1) 1 1000 := C0.a0
  subst qM1 qM2
  refine x_aload_n dX2_add_0 0 rfl ?_
  refine x_getI fdX2_21 rfl dX2_add_1 f1.1 f1.2 ?_
  refine x_sipush (v := 1000) dX2_add_4 (by decide) ?_
  refine x_ic_ge 30 dX2_add_7 (by decide) (fun c1 => ?_) (fun c1 => ?_)
  · exact x_vret rfl dX2_add_30 (Nat.le_refl _) (Nat.le_refl _) (k1 c1)
  · refine x_aload_n dX2_add_10 0 rfl ?_
    refine x_getR fdX2_9 rfl dX2_add_11 f1.1 f1.2 f2 ?_
    refine x_aload_n dX2_add_14 0 rfl ?_
    refine x_getI fdX2_21 rfl dX2_add_15 f1.1 f1.2 ?_
    refine x_iload_n dX2_add_18 1 rfl ?_
    refine x_iast dX2_add_19 f3.1 f3.2 (h1 c1) ?_
    refine x_aload_n dX2_add_20 0 rfl ?_
    refine x_dup dX2_add_21 rfl ?_
    refine x_getI fdX2_21 rfl dX2_add_22 f1.1 f1.2 ?_
    refine x_iconst (v := 1) dX2_add_25 (by decide) ?_
    refine x_iadd dX2_add_26 ?_
    refine x_putI fdX2_21 rfl (Or.inl rfl) dX2_add_27 f1.1 f1.2 rfl rfl ?_
    exact x_vret rfl dX2_add_30 (Nat.le_refl _) (Nat.le_refl _) (k2 c1)
set_option maxRecDepth 8000 in
theorem qX2_valueFor_0 {g : GG} {d : Nat} {M : MM} {P : Option Value → MM → Prop} {a0 : Nat} {i1 : Int32} {i2 : Int32} {i3 : Int32} {i4 : Int32} {i5 : Int32} (C0 : Lws M a0)
    (h1 : ¬ (i1 < 0) → i1 < 6 → ¬ i1 = 0 → vp_in (i1 - 1) 6)
    (k1 : i1 < 0 → P (some (.int 0)) M)
    (k2 : ¬ (i1 < 0) → i1 < 6 → ¬ i1 = 0 → E0 g YX2_valueFor d 33 [(0, .ref a0), (1, .int i1), (2, .int i2), (3, .int i3), (4, .int i4), (5, .int i5), (6, .int 0), (7, .int (mi M (a0 + 2) ((i1 - 1) : Int32).toNatClampNeg))] [] M P)
    (k3 : ¬ (i1 < 0) → i1 < 6 → i1 = 0 → E0 g YX2_valueFor d 33 [(0, .ref a0), (1, .int i1), (2, .int i2), (3, .int i3), (4, .int i4), (5, .int i5), (6, .int 0), (7, .int 0)] [] M P)
    (k4 : ¬ (i1 < 0) → ¬ (i1 < 6) → P (some (.int 0)) M) :
    E0 g YX2_valueFor d 0 [(0, .ref a0), (1, .int i1), (2, .int i2), (3, .int i3), (4, .int i4), (5, .int i5)] [] M P := by
  have f1 : ob M a0 2 := C0.o
  have f2 : mr M a0 2 = some (a0 + 2) := C0.r2
  have f3 : ar M (a0 + 2) 1 6 := C0.a2
  refine x_iload_n dX2_valueFor_0 1 rfl ?_
  refine x_if_lt 10 dX2_valueFor_1 (by decide) (fun c1 => ?_) (fun c1 => ?_)
  · refine x_iconst (v := 0) dX2_valueFor_10 (by decide) ?_
    exact x_iret rfl dX2_valueFor_11 (Nat.le_refl _) (Nat.le_refl _) (k1 c1)
  · refine x_iload_n dX2_valueFor_4 1 rfl ?_
    refine x_bipush (v := 6) dX2_valueFor_5 (by decide) ?_
    refine x_ic_lt 12 dX2_valueFor_7 (by decide) (fun c2 => ?_) (fun c2 => ?_)
    · refine x_iconst (v := 0) dX2_valueFor_12 (by decide) ?_
      refine x_istore (lv1 := [(6, .int 0), (0, .ref a0), (1, .int i1), (2, .int i2), (3, .int i3), (4, .int i4), (5, .int i5)]) dX2_valueFor_13 (by decide) rfl ?_
      refine x_iload_n dX2_valueFor_15 2 rfl ?_
      refine x_if_ne 23 dX2_valueFor_16 (by decide) (fun c3 => ?_) (fun c3 => ?_)
      · refine x_aload_n dX2_valueFor_23 1 rfl ?_
        refine x_getR fdX2_15 rfl dX2_valueFor_24 f1.1 f1.2 f2 ?_
        refine x_iload_n dX2_valueFor_27 2 rfl ?_
        refine x_iconst (v := 1) dX2_valueFor_28 (by decide) ?_
        refine x_isub dX2_valueFor_29 ?_
        refine x_iald dX2_valueFor_30 f3.1 f3.2 (h1 c1 c2 c3) ?_
        refine x_istore (lv1 := [(7, .int (mi M (a0 + 2) ((i1 - 1) : Int32).toNatClampNeg)), (6, .int 0), (0, .ref a0), (1, .int i1), (2, .int i2), (3, .int i3), (4, .int i4), (5, .int i5)]) dX2_valueFor_31 (by decide) rfl ?_
        exact EX.sub [2, 3, 4, 5, 6, 7, 1, 0] (k2 c1 c2 c3) rfl
      · refine x_iconst (v := 0) dX2_valueFor_19 (by decide) ?_
        refine x_goto 31 dX2_valueFor_20 (by decide) ?_
        refine x_istore (lv1 := [(7, .int 0), (6, .int 0), (0, .ref a0), (1, .int i1), (2, .int i2), (3, .int i3), (4, .int i4), (5, .int i5)]) dX2_valueFor_31 (by decide) rfl ?_
        exact EX.sub [2, 3, 4, 5, 6, 7, 1, 0] (k3 c1 c2 c3) rfl
    · refine x_iconst (v := 0) dX2_valueFor_10 (by decide) ?_
      exact x_iret rfl dX2_valueFor_11 (Nat.le_refl _) (Nat.le_refl _) (k4 c1 c2)
set_option maxRecDepth 8000 in
theorem qX2_valueFor_33 {g : GG} {d : Nat} {M : MM} {P : Option Value → MM → Prop} {a0 : Nat} {i1 : Int32} {i2 : Int32} {i3 : Int32} {i4 : Int32} {i5 : Int32} {i6 : Int32} {i7 : Int32} {M1 : MM} {M2 : MM} {M3 : MM} {M4 : MM} {M5 : MM} {M6 : MM} {M7 : MM} (C0 : Lws M a0)
    (qM1 : M1 = wi M (a0 + 3) ((i6 - 1) : Int32).toNatClampNeg 0)
    (qM2 : M2 = wi M (a0 + 3) ((i6 - 1) : Int32).toNatClampNeg 1)
    (qM3 : M3 = wi M (a0 + 3) (i6 : Int32).toNatClampNeg (mi M (a0 + 1) (i7 : Int32).toNatClampNeg))
    (qM4 : M4 = wi M3 (a0 + 3) (i6 : Int32).toNatClampNeg i5)
    (qM5 : M5 = wi M3 (a0 + 3) (i6 : Int32).toNatClampNeg i4)
    (qM6 : M6 = wi M3 (a0 + 3) (i6 : Int32).toNatClampNeg i3)
    (qM7 : M7 = wi M3 (a0 + 3) (i6 : Int32).toNatClampNeg i2)
    (h1 : vp_in i1 6)
    (h2 : ¬ ((mi M (a0 + 2) (i1 : Int32).toNatClampNeg) ≤ i7) → ¬ (1000 ≤ i7) → vp_in i7 1000)
    (h3 : ¬ ((mi M (a0 + 2) (i1 : Int32).toNatClampNeg) ≤ i7) → ¬ (1000 ≤ i7) → (mi M (a0 + 1) (i7 : Int32).toNatClampNeg) ≤ (-5) → ¬ (mi M (a0 + 1) (i7 : Int32).toNatClampNeg) = (-5) → 2 ≤ i6 → vp_in ((i6 + (-1)) - 1) 24)
    (h4 : ¬ ((mi M (a0 + 2) (i1 : Int32).toNatClampNeg) ≤ i7) → ¬ (1000 ≤ i7) → (mi M (a0 + 1) (i7 : Int32).toNatClampNeg) ≤ (-5) → ¬ (mi M (a0 + 1) (i7 : Int32).toNatClampNeg) = (-5) → 2 ≤ i6 → vp_in (i6 + (-1)) 24)
    (h5 : ¬ ((mi M (a0 + 2) (i1 : Int32).toNatClampNeg) ≤ i7) → ¬ (1000 ≤ i7) → (mi M (a0 + 1) (i7 : Int32).toNatClampNeg) ≤ (-5) → (mi M (a0 + 1) (i7 : Int32).toNatClampNeg) = (-5) → 1 ≤ i6 → vp_in (i6 - 1) 24)
    (h6 : ¬ ((mi M (a0 + 2) (i1 : Int32).toNatClampNeg) ≤ i7) → ¬ (1000 ≤ i7) → (mi M (a0 + 1) (i7 : Int32).toNatClampNeg) ≤ (-5) → (mi M (a0 + 1) (i7 : Int32).toNatClampNeg) = (-5) → 1 ≤ i6 → ¬ (mi M (a0 + 3) ((i6 - 1) : Int32).toNatClampNeg) = 0 → vp_in (i6 - 1) 24)
    (h7 : ¬ ((mi M (a0 + 2) (i1 : Int32).toNatClampNeg) ≤ i7) → ¬ (1000 ≤ i7) → (mi M (a0 + 1) (i7 : Int32).toNatClampNeg) ≤ (-5) → (mi M (a0 + 1) (i7 : Int32).toNatClampNeg) = (-5) → 1 ≤ i6 → (mi M (a0 + 3) ((i6 - 1) : Int32).toNatClampNeg) = 0 → vp_in (i6 - 1) 24)
    (h8 : ¬ ((mi M (a0 + 2) (i1 : Int32).toNatClampNeg) ≤ i7) → ¬ (1000 ≤ i7) → ¬ ((mi M (a0 + 1) (i7 : Int32).toNatClampNeg) ≤ (-5)) → i6 < 24 → vp_in i6 24)
    (h9 : ¬ ((mi M (a0 + 2) (i1 : Int32).toNatClampNeg) ≤ i7) → ¬ (1000 ≤ i7) → ¬ ((mi M (a0 + 1) (i7 : Int32).toNatClampNeg) ≤ (-5)) → i6 < 24 → ((mi M (a0 + 1) (i7 : Int32).toNatClampNeg) : Int32).toInt = (-4) → vp_in i6 24)
    (h10 : ¬ ((mi M (a0 + 2) (i1 : Int32).toNatClampNeg) ≤ i7) → ¬ (1000 ≤ i7) → ¬ ((mi M (a0 + 1) (i7 : Int32).toNatClampNeg) ≤ (-5)) → i6 < 24 → ((mi M (a0 + 1) (i7 : Int32).toNatClampNeg) : Int32).toInt = (-3) → vp_in i6 24)
    (h11 : ¬ ((mi M (a0 + 2) (i1 : Int32).toNatClampNeg) ≤ i7) → ¬ (1000 ≤ i7) → ¬ ((mi M (a0 + 1) (i7 : Int32).toNatClampNeg) ≤ (-5)) → i6 < 24 → ((mi M (a0 + 1) (i7 : Int32).toNatClampNeg) : Int32).toInt = (-2) → vp_in i6 24)
    (h12 : ¬ ((mi M (a0 + 2) (i1 : Int32).toNatClampNeg) ≤ i7) → ¬ (1000 ≤ i7) → ¬ ((mi M (a0 + 1) (i7 : Int32).toNatClampNeg) ≤ (-5)) → i6 < 24 → ((mi M (a0 + 1) (i7 : Int32).toNatClampNeg) : Int32).toInt = (-1) → vp_in i6 24)
    (k1 : (mi M (a0 + 2) (i1 : Int32).toNatClampNeg) ≤ i7 → P (some (.int (mi M (a0 + 3) 0))) M)
    (k2 : ¬ ((mi M (a0 + 2) (i1 : Int32).toNatClampNeg) ≤ i7) → 1000 ≤ i7 → P (some (.int (mi M (a0 + 3) 0))) M)
    (k3 : ¬ ((mi M (a0 + 2) (i1 : Int32).toNatClampNeg) ≤ i7) → ¬ (1000 ≤ i7) → (mi M (a0 + 1) (i7 : Int32).toNatClampNeg) ≤ (-5) → ¬ (mi M (a0 + 1) (i7 : Int32).toNatClampNeg) = (-5) → 2 ≤ i6 → K0 g YX2_valueFor YX2_join d 256 [.int (mi M (a0 + 1) (i7 : Int32).toNatClampNeg), .int (mi M (a0 + 3) (((i6 + (-1)) - 1) : Int32).toNatClampNeg), .int (mi M (a0 + 3) ((i6 + (-1)) : Int32).toNatClampNeg)] [(0, .ref a0), (1, .int i1), (2, .int i2), (3, .int i3), (4, .int i4), (5, .int i5), (6, .int (i6 + (-1))), (7, .int i7)] [.int ((i6 + (-1)) - 1), .ref (a0 + 3)] M P)
    (k4 : ¬ ((mi M (a0 + 2) (i1 : Int32).toNatClampNeg) ≤ i7) → ¬ (1000 ≤ i7) → (mi M (a0 + 1) (i7 : Int32).toNatClampNeg) ≤ (-5) → ¬ (mi M (a0 + 1) (i7 : Int32).toNatClampNeg) = (-5) → ¬ (2 ≤ i6) → P (some (.int 0)) M)
    (k5 : ¬ ((mi M (a0 + 2) (i1 : Int32).toNatClampNeg) ≤ i7) → ¬ (1000 ≤ i7) → (mi M (a0 + 1) (i7 : Int32).toNatClampNeg) ≤ (-5) → (mi M (a0 + 1) (i7 : Int32).toNatClampNeg) = (-5) → 1 ≤ i6 → ¬ (mi M (a0 + 3) ((i6 - 1) : Int32).toNatClampNeg) = 0 → E0 g YX2_valueFor d 33 [(0, .ref a0), (1, .int i1), (2, .int i2), (3, .int i3), (4, .int i4), (5, .int i5), (6, .int i6), (7, .int (i7 + 1))] [] M1 P)
    (k6 : ¬ ((mi M (a0 + 2) (i1 : Int32).toNatClampNeg) ≤ i7) → ¬ (1000 ≤ i7) → (mi M (a0 + 1) (i7 : Int32).toNatClampNeg) ≤ (-5) → (mi M (a0 + 1) (i7 : Int32).toNatClampNeg) = (-5) → 1 ≤ i6 → (mi M (a0 + 3) ((i6 - 1) : Int32).toNatClampNeg) = 0 → E0 g YX2_valueFor d 33 [(0, .ref a0), (1, .int i1), (2, .int i2), (3, .int i3), (4, .int i4), (5, .int i5), (6, .int i6), (7, .int (i7 + 1))] [] M2 P)
    (k7 : ¬ ((mi M (a0 + 2) (i1 : Int32).toNatClampNeg) ≤ i7) → ¬ (1000 ≤ i7) → (mi M (a0 + 1) (i7 : Int32).toNatClampNeg) ≤ (-5) → (mi M (a0 + 1) (i7 : Int32).toNatClampNeg) = (-5) → ¬ (1 ≤ i6) → P (some (.int 0)) M)
    (k8 : ¬ ((mi M (a0 + 2) (i1 : Int32).toNatClampNeg) ≤ i7) → ¬ (1000 ≤ i7) → ¬ ((mi M (a0 + 1) (i7 : Int32).toNatClampNeg) ≤ (-5)) → i6 < 24 → ((mi M (a0 + 1) (i7 : Int32).toNatClampNeg) : Int32).toInt < (-4) ∨ (-1) < ((mi M (a0 + 1) (i7 : Int32).toNatClampNeg) : Int32).toInt → E0 g YX2_valueFor d 33 [(0, .ref a0), (1, .int i1), (2, .int i2), (3, .int i3), (4, .int i4), (5, .int i5), (6, .int (i6 + 1)), (7, .int (i7 + 1))] [] M3 P)
    (k9 : ¬ ((mi M (a0 + 2) (i1 : Int32).toNatClampNeg) ≤ i7) → ¬ (1000 ≤ i7) → ¬ ((mi M (a0 + 1) (i7 : Int32).toNatClampNeg) ≤ (-5)) → i6 < 24 → ((mi M (a0 + 1) (i7 : Int32).toNatClampNeg) : Int32).toInt = (-4) → E0 g YX2_valueFor d 33 [(0, .ref a0), (1, .int i1), (2, .int i2), (3, .int i3), (4, .int i4), (5, .int i5), (6, .int (i6 + 1)), (7, .int (i7 + 1))] [] M4 P)
    (k10 : ¬ ((mi M (a0 + 2) (i1 : Int32).toNatClampNeg) ≤ i7) → ¬ (1000 ≤ i7) → ¬ ((mi M (a0 + 1) (i7 : Int32).toNatClampNeg) ≤ (-5)) → i6 < 24 → ((mi M (a0 + 1) (i7 : Int32).toNatClampNeg) : Int32).toInt = (-3) → E0 g YX2_valueFor d 33 [(0, .ref a0), (1, .int i1), (2, .int i2), (3, .int i3), (4, .int i4), (5, .int i5), (6, .int (i6 + 1)), (7, .int (i7 + 1))] [] M5 P)
    (k11 : ¬ ((mi M (a0 + 2) (i1 : Int32).toNatClampNeg) ≤ i7) → ¬ (1000 ≤ i7) → ¬ ((mi M (a0 + 1) (i7 : Int32).toNatClampNeg) ≤ (-5)) → i6 < 24 → ((mi M (a0 + 1) (i7 : Int32).toNatClampNeg) : Int32).toInt = (-2) → E0 g YX2_valueFor d 33 [(0, .ref a0), (1, .int i1), (2, .int i2), (3, .int i3), (4, .int i4), (5, .int i5), (6, .int (i6 + 1)), (7, .int (i7 + 1))] [] M6 P)
    (k12 : ¬ ((mi M (a0 + 2) (i1 : Int32).toNatClampNeg) ≤ i7) → ¬ (1000 ≤ i7) → ¬ ((mi M (a0 + 1) (i7 : Int32).toNatClampNeg) ≤ (-5)) → i6 < 24 → ((mi M (a0 + 1) (i7 : Int32).toNatClampNeg) : Int32).toInt = (-1) → E0 g YX2_valueFor d 33 [(0, .ref a0), (1, .int i1), (2, .int i2), (3, .int i3), (4, .int i4), (5, .int i5), (6, .int (i6 + 1)), (7, .int (i7 + 1))] [] M7 P)
    (k13 : ¬ ((mi M (a0 + 2) (i1 : Int32).toNatClampNeg) ≤ i7) → ¬ (1000 ≤ i7) → ¬ ((mi M (a0 + 1) (i7 : Int32).toNatClampNeg) ≤ (-5)) → ¬ (i6 < 24) → P (some (.int 0)) M) :
    E0 g YX2_valueFor d 33 [(0, .ref a0), (1, .int i1), (2, .int i2), (3, .int i3), (4, .int i4), (5, .int i5), (6, .int i6), (7, .int i7)] [] M P := by
  have f1 : ob M a0 2 := C0.o
  have f2 : mr M a0 2 = some (a0 + 2) := C0.r2
  have f3 : ar M (a0 + 2) 1 6 := C0.a2
  have f4 : mr M a0 3 = some (a0 + 3) := C0.r3
  have f5 : ar M (a0 + 3) 1 24 := C0.a3
  have f6 : mr M a0 0 = some (a0 + 1) := C0.r0
  have f7 : ar M (a0 + 1) 1 1000 := C0.a0
  subst qM1 qM2 qM3 qM4 qM5 qM6 qM7
  refine x_iload dX2_valueFor_33 7 rfl ?_
  refine x_aload_n dX2_valueFor_35 0 rfl ?_
  refine x_getR fdX2_15 rfl dX2_valueFor_36 f1.1 f1.2 f2 ?_
  refine x_iload_n dX2_valueFor_39 1 rfl ?_
  refine x_iald dX2_valueFor_40 f3.1 f3.2 (h1) ?_
  refine x_ic_ge 263 dX2_valueFor_41 (by decide) (fun c1 => ?_) (fun c1 => ?_)
  · refine x_aload_n dX2_valueFor_263 0 rfl ?_
    refine x_getR fdX2_18 rfl dX2_valueFor_264 f1.1 f1.2 f4 ?_
    refine x_iconst (v := 0) dX2_valueFor_267 (by decide) ?_
    refine x_iald dX2_valueFor_268 f5.1 f5.2 (by unfold vp_in; decide) ?_
    exact x_iret rfl dX2_valueFor_269 (Nat.le_refl _) (Nat.le_refl _) (k1 c1)
  · refine x_iload dX2_valueFor_44 7 rfl ?_
    refine x_sipush (v := 1000) dX2_valueFor_46 (by decide) ?_
    refine x_ic_ge 263 dX2_valueFor_49 (by decide) (fun c2 => ?_) (fun c2 => ?_)
    · refine x_aload_n dX2_valueFor_263 0 rfl ?_
      refine x_getR fdX2_18 rfl dX2_valueFor_264 f1.1 f1.2 f4 ?_
      refine x_iconst (v := 0) dX2_valueFor_267 (by decide) ?_
      refine x_iald dX2_valueFor_268 f5.1 f5.2 (by unfold vp_in; decide) ?_
      exact x_iret rfl dX2_valueFor_269 (Nat.le_refl _) (Nat.le_refl _) (k2 c1 c2)
    · refine x_aload_n dX2_valueFor_52 0 rfl ?_
      refine x_getR fdX2_9 rfl dX2_valueFor_53 f1.1 f1.2 f6 ?_
      refine x_iload dX2_valueFor_56 7 rfl ?_
      refine x_iald dX2_valueFor_58 f7.1 f7.2 (h2 c1 c2) ?_
      refine x_istore (lv1 := [(8, .int (mi M (a0 + 1) (i7 : Int32).toNatClampNeg)), (0, .ref a0), (1, .int i1), (2, .int i2), (3, .int i3), (4, .int i4), (5, .int i5), (6, .int i6), (7, .int i7)]) dX2_valueFor_59 (by decide) rfl ?_
      refine x_iload dX2_valueFor_61 0 rfl ?_
      refine x_bipush (v := (-5)) dX2_valueFor_63 (by decide) ?_
      refine x_ic_le 172 dX2_valueFor_65 (by decide) (fun c3 => ?_) (fun c3 => ?_)
      · refine x_iload dX2_valueFor_172 0 rfl ?_
        refine x_bipush (v := (-5)) dX2_valueFor_174 (by decide) ?_
        refine x_ic_ne 216 dX2_valueFor_176 (by decide) (fun c4 => ?_) (fun c4 => ?_)
        · refine x_iload dX2_valueFor_216 7 rfl ?_
          refine x_iconst (v := 2) dX2_valueFor_218 (by decide) ?_
          refine x_ic_ge 224 dX2_valueFor_219 (by decide) (fun c5 => ?_) (fun c5 => ?_)
          · refine x_iinc (v := (i6 + (-1))) (lv1 := [(6, .int (i6 + (-1))), (8, .int (mi M (a0 + 1) (i7 : Int32).toNatClampNeg)), (0, .ref a0), (1, .int i1), (2, .int i2), (3, .int i3), (4, .int i4), (5, .int i5), (7, .int i7)]) dX2_valueFor_224 7 rfl rfl (by decide) rfl ?_
            refine x_aload_n dX2_valueFor_227 2 rfl ?_
            refine x_getR fdX2_18 rfl dX2_valueFor_228 f1.1 f1.2 f4 ?_
            refine x_iload dX2_valueFor_231 0 rfl ?_
            refine x_iconst (v := 1) dX2_valueFor_233 (by decide) ?_
            refine x_isub dX2_valueFor_234 ?_
            refine x_iload dX2_valueFor_235 1 rfl ?_
            refine x_aload_n dX2_valueFor_237 2 rfl ?_
            refine x_getR fdX2_18 rfl dX2_valueFor_238 f1.1 f1.2 f4 ?_
            refine x_iload dX2_valueFor_241 0 rfl ?_
            refine x_iconst (v := 1) dX2_valueFor_243 (by decide) ?_
            refine x_isub dX2_valueFor_244 ?_
            refine x_iald dX2_valueFor_245 f5.1 f5.2 (h3 c1 c2 c3 c4 c5) ?_
            refine x_aload_n dX2_valueFor_246 2 rfl ?_
            refine x_getR fdX2_18 rfl dX2_valueFor_247 f1.1 f1.2 f4 ?_
            refine x_iload dX2_valueFor_250 0 rfl ?_
            refine x_iald dX2_valueFor_252 f5.1 f5.2 (h4 c1 c2 c3 c4 c5) ?_
            refine EX.sub [2, 3, 4, 5, 6, 7, 0, 8] (K0.s (As := [.int (mi M (a0 + 1) (i7 : Int32).toNatClampNeg), .int (mi M (a0 + 3) (((i6 + (-1)) - 1) : Int32).toNatClampNeg), .int (mi M (a0 + 3) ((i6 + (-1)) : Int32).toNatClampNeg)]) (st := [.int ((i6 + (-1)) - 1), .ref (a0 + 3)]) csX2_25 dX2_valueFor_253 rfl rfl (Nat.le_of_ble_eq_true rfl) (k3 c1 c2 c3 c4 c5)) rfl
          · refine x_iconst (v := 0) dX2_valueFor_222 (by decide) ?_
            exact x_iret rfl dX2_valueFor_223 (Nat.le_refl _) (Nat.le_refl _) (k4 c1 c2 c3 c4 c5)
        · refine x_iload dX2_valueFor_179 7 rfl ?_
          refine x_iconst (v := 1) dX2_valueFor_181 (by decide) ?_
          refine x_ic_ge 187 dX2_valueFor_182 (by decide) (fun c5 => ?_) (fun c5 => ?_)
          · refine x_aload_n dX2_valueFor_187 1 rfl ?_
            refine x_getR fdX2_18 rfl dX2_valueFor_188 f1.1 f1.2 f4 ?_
            refine x_iload dX2_valueFor_191 7 rfl ?_
            refine x_iconst (v := 1) dX2_valueFor_193 (by decide) ?_
            refine x_isub dX2_valueFor_194 ?_
            refine x_aload_n dX2_valueFor_195 1 rfl ?_
            refine x_getR fdX2_18 rfl dX2_valueFor_196 f1.1 f1.2 f4 ?_
            refine x_iload dX2_valueFor_199 7 rfl ?_
            refine x_iconst (v := 1) dX2_valueFor_201 (by decide) ?_
            refine x_isub dX2_valueFor_202 ?_
            refine x_iald dX2_valueFor_203 f5.1 f5.2 (h5 c1 c2 c3 c4 c5) ?_
            refine x_if_ne 211 dX2_valueFor_204 (by decide) (fun c6 => ?_) (fun c6 => ?_)
            · refine x_iconst (v := 0) dX2_valueFor_211 (by decide) ?_
              refine x_iast dX2_valueFor_212 f5.1 f5.2 (h6 c1 c2 c3 c4 c5 c6) ?_
              refine x_goto 257 dX2_valueFor_213 (by decide) ?_
              refine x_iinc (v := (i7 + 1)) (lv1 := [(7, .int (i7 + 1)), (8, .int (mi M (a0 + 1) (i7 : Int32).toNatClampNeg)), (0, .ref a0), (1, .int i1), (2, .int i2), (3, .int i3), (4, .int i4), (5, .int i5), (6, .int i6)]) dX2_valueFor_257 8 rfl rfl (by decide) rfl ?_
              refine x_goto 33 dX2_valueFor_260 (by decide) ?_
              exact EX.sub [2, 3, 4, 5, 6, 7, 8, 0] (k5 c1 c2 c3 c4 c5 c6) rfl
            · refine x_iconst (v := 1) dX2_valueFor_207 (by decide) ?_
              refine x_goto 212 dX2_valueFor_208 (by decide) ?_
              refine x_iast dX2_valueFor_212 f5.1 f5.2 (h7 c1 c2 c3 c4 c5 c6) ?_
              refine x_goto 257 dX2_valueFor_213 (by decide) ?_
              refine x_iinc (v := (i7 + 1)) (lv1 := [(7, .int (i7 + 1)), (8, .int (mi M (a0 + 1) (i7 : Int32).toNatClampNeg)), (0, .ref a0), (1, .int i1), (2, .int i2), (3, .int i3), (4, .int i4), (5, .int i5), (6, .int i6)]) dX2_valueFor_257 8 rfl rfl (by decide) rfl ?_
              refine x_goto 33 dX2_valueFor_260 (by decide) ?_
              exact EX.sub [2, 3, 4, 5, 6, 7, 8, 0] (k6 c1 c2 c3 c4 c5 c6) rfl
          · refine x_iconst (v := 0) dX2_valueFor_185 (by decide) ?_
            exact x_iret rfl dX2_valueFor_186 (Nat.le_refl _) (Nat.le_refl _) (k7 c1 c2 c3 c4 c5)
      · refine x_iload dX2_valueFor_68 7 rfl ?_
        refine x_bipush (v := 24) dX2_valueFor_70 (by decide) ?_
        refine x_ic_lt 77 dX2_valueFor_72 (by decide) (fun c4 => ?_) (fun c4 => ?_)
        · refine x_aload_n dX2_valueFor_77 1 rfl ?_
          refine x_getR fdX2_18 rfl dX2_valueFor_78 f1.1 f1.2 f4 ?_
          refine x_iload dX2_valueFor_81 7 rfl ?_
          refine x_iload dX2_valueFor_83 0 rfl ?_
          refine x_iast dX2_valueFor_85 f5.1 f5.2 (h8 c1 c2 c3 c4) ?_
          refine x_iload dX2_valueFor_86 0 rfl ?_
          by_cases c5 : ((mi M (a0 + 1) (i7 : Int32).toNatClampNeg) : Int32).toInt < (-4) ∨ (-1) < ((mi M (a0 + 1) (i7 : Int32).toNatClampNeg) : Int32).toInt
          · refine x_tabOut 166 dX2_valueFor_88 c5 (by decide) ?_
            refine x_iinc (v := (i6 + 1)) (lv1 := [(6, .int (i6 + 1)), (8, .int (mi M (a0 + 1) (i7 : Int32).toNatClampNeg)), (0, .ref a0), (1, .int i1), (2, .int i2), (3, .int i3), (4, .int i4), (5, .int i5), (7, .int i7)]) dX2_valueFor_166 7 rfl rfl (by decide) rfl ?_
            refine x_goto 257 dX2_valueFor_169 (by decide) ?_
            refine x_iinc (v := (i7 + 1)) (lv1 := [(7, .int (i7 + 1)), (6, .int (i6 + 1)), (8, .int (mi M (a0 + 1) (i7 : Int32).toNatClampNeg)), (0, .ref a0), (1, .int i1), (2, .int i2), (3, .int i3), (4, .int i4), (5, .int i5)]) dX2_valueFor_257 8 rfl rfl (by decide) rfl ?_
            refine x_goto 33 dX2_valueFor_260 (by decide) ?_
            exact EX.sub [3, 4, 5, 6, 7, 8, 1, 0] (k8 c1 c2 c3 c4 c5) rfl
          · have qc5 : ((mi M (a0 + 1) (i7 : Int32).toNatClampNeg) : Int32).toInt = (-4) ∨ ((mi M (a0 + 1) (i7 : Int32).toNatClampNeg) : Int32).toInt = (-3) ∨ ((mi M (a0 + 1) (i7 : Int32).toNatClampNeg) : Int32).toInt = (-2) ∨ ((mi M (a0 + 1) (i7 : Int32).toNatClampNeg) : Int32).toInt = (-1) := by omega
            clear c5
            rcases qc5 with c5 | c5 | c5 | c5
            · refine x_tabIn 154 dX2_valueFor_88 (by omega) (by omega) (off := 66) (by rw [show (((mi M (a0 + 1) (i7 : Int32).toNatClampNeg) : Int32).toInt - (-4)).toNat = 0 by omega]; rfl) (by decide) ?_
              refine x_aload_n dX2_valueFor_154 1 rfl ?_
              refine x_getR fdX2_18 rfl dX2_valueFor_155 f1.1 f1.2 f4 ?_
              refine x_iload dX2_valueFor_158 7 rfl ?_
              refine x_iload dX2_valueFor_160 6 rfl ?_
              refine x_iast dX2_valueFor_162 f5.1 f5.2 (h9 c1 c2 c3 c4 c5) ?_
              refine x_goto 166 dX2_valueFor_163 (by decide) ?_
              refine x_iinc (v := (i6 + 1)) (lv1 := [(6, .int (i6 + 1)), (8, .int (mi M (a0 + 1) (i7 : Int32).toNatClampNeg)), (0, .ref a0), (1, .int i1), (2, .int i2), (3, .int i3), (4, .int i4), (5, .int i5), (7, .int i7)]) dX2_valueFor_166 7 rfl rfl (by decide) rfl ?_
              refine x_goto 257 dX2_valueFor_169 (by decide) ?_
              refine x_iinc (v := (i7 + 1)) (lv1 := [(7, .int (i7 + 1)), (6, .int (i6 + 1)), (8, .int (mi M (a0 + 1) (i7 : Int32).toNatClampNeg)), (0, .ref a0), (1, .int i1), (2, .int i2), (3, .int i3), (4, .int i4), (5, .int i5)]) dX2_valueFor_257 8 rfl rfl (by decide) rfl ?_
              refine x_goto 33 dX2_valueFor_260 (by decide) ?_
              exact EX.sub [3, 4, 5, 6, 7, 8, 1, 0] (k9 c1 c2 c3 c4 c5) rfl
            · refine x_tabIn 142 dX2_valueFor_88 (by omega) (by omega) (off := 54) (by rw [show (((mi M (a0 + 1) (i7 : Int32).toNatClampNeg) : Int32).toInt - (-4)).toNat = 1 by omega]; rfl) (by decide) ?_
              refine x_aload_n dX2_valueFor_142 1 rfl ?_
              refine x_getR fdX2_18 rfl dX2_valueFor_143 f1.1 f1.2 f4 ?_
              refine x_iload dX2_valueFor_146 7 rfl ?_
              refine x_iload dX2_valueFor_148 5 rfl ?_
              refine x_iast dX2_valueFor_150 f5.1 f5.2 (h10 c1 c2 c3 c4 c5) ?_
              refine x_goto 166 dX2_valueFor_151 (by decide) ?_
              refine x_iinc (v := (i6 + 1)) (lv1 := [(6, .int (i6 + 1)), (8, .int (mi M (a0 + 1) (i7 : Int32).toNatClampNeg)), (0, .ref a0), (1, .int i1), (2, .int i2), (3, .int i3), (4, .int i4), (5, .int i5), (7, .int i7)]) dX2_valueFor_166 7 rfl rfl (by decide) rfl ?_
              refine x_goto 257 dX2_valueFor_169 (by decide) ?_
              refine x_iinc (v := (i7 + 1)) (lv1 := [(7, .int (i7 + 1)), (6, .int (i6 + 1)), (8, .int (mi M (a0 + 1) (i7 : Int32).toNatClampNeg)), (0, .ref a0), (1, .int i1), (2, .int i2), (3, .int i3), (4, .int i4), (5, .int i5)]) dX2_valueFor_257 8 rfl rfl (by decide) rfl ?_
              refine x_goto 33 dX2_valueFor_260 (by decide) ?_
              exact EX.sub [3, 4, 5, 6, 7, 8, 1, 0] (k10 c1 c2 c3 c4 c5) rfl
            · refine x_tabIn 131 dX2_valueFor_88 (by omega) (by omega) (off := 43) (by rw [show (((mi M (a0 + 1) (i7 : Int32).toNatClampNeg) : Int32).toInt - (-4)).toNat = 2 by omega]; rfl) (by decide) ?_
              refine x_aload_n dX2_valueFor_131 1 rfl ?_
              refine x_getR fdX2_18 rfl dX2_valueFor_132 f1.1 f1.2 f4 ?_
              refine x_iload dX2_valueFor_135 7 rfl ?_
              refine x_iload_n dX2_valueFor_137 4 rfl ?_
              refine x_iast dX2_valueFor_138 f5.1 f5.2 (h11 c1 c2 c3 c4 c5) ?_
              refine x_goto 166 dX2_valueFor_139 (by decide) ?_
              refine x_iinc (v := (i6 + 1)) (lv1 := [(6, .int (i6 + 1)), (8, .int (mi M (a0 + 1) (i7 : Int32).toNatClampNeg)), (0, .ref a0), (1, .int i1), (2, .int i2), (3, .int i3), (4, .int i4), (5, .int i5), (7, .int i7)]) dX2_valueFor_166 7 rfl rfl (by decide) rfl ?_
              refine x_goto 257 dX2_valueFor_169 (by decide) ?_
              refine x_iinc (v := (i7 + 1)) (lv1 := [(7, .int (i7 + 1)), (6, .int (i6 + 1)), (8, .int (mi M (a0 + 1) (i7 : Int32).toNatClampNeg)), (0, .ref a0), (1, .int i1), (2, .int i2), (3, .int i3), (4, .int i4), (5, .int i5)]) dX2_valueFor_257 8 rfl rfl (by decide) rfl ?_
              refine x_goto 33 dX2_valueFor_260 (by decide) ?_
              exact EX.sub [3, 4, 5, 6, 7, 8, 1, 0] (k11 c1 c2 c3 c4 c5) rfl
            · refine x_tabIn 120 dX2_valueFor_88 (by omega) (by omega) (off := 32) (by rw [show (((mi M (a0 + 1) (i7 : Int32).toNatClampNeg) : Int32).toInt - (-4)).toNat = 3 by omega]; rfl) (by decide) ?_
              refine x_aload_n dX2_valueFor_120 1 rfl ?_
              refine x_getR fdX2_18 rfl dX2_valueFor_121 f1.1 f1.2 f4 ?_
              refine x_iload dX2_valueFor_124 7 rfl ?_
              refine x_iload_n dX2_valueFor_126 3 rfl ?_
              refine x_iast dX2_valueFor_127 f5.1 f5.2 (h12 c1 c2 c3 c4 c5) ?_
              refine x_goto 166 dX2_valueFor_128 (by decide) ?_
              refine x_iinc (v := (i6 + 1)) (lv1 := [(6, .int (i6 + 1)), (8, .int (mi M (a0 + 1) (i7 : Int32).toNatClampNeg)), (0, .ref a0), (1, .int i1), (2, .int i2), (3, .int i3), (4, .int i4), (5, .int i5), (7, .int i7)]) dX2_valueFor_166 7 rfl rfl (by decide) rfl ?_
              refine x_goto 257 dX2_valueFor_169 (by decide) ?_
              refine x_iinc (v := (i7 + 1)) (lv1 := [(7, .int (i7 + 1)), (6, .int (i6 + 1)), (8, .int (mi M (a0 + 1) (i7 : Int32).toNatClampNeg)), (0, .ref a0), (1, .int i1), (2, .int i2), (3, .int i3), (4, .int i4), (5, .int i5)]) dX2_valueFor_257 8 rfl rfl (by decide) rfl ?_
              refine x_goto 33 dX2_valueFor_260 (by decide) ?_
              exact EX.sub [3, 4, 5, 6, 7, 8, 1, 0] (k12 c1 c2 c3 c4 c5) rfl
        · refine x_iconst (v := 0) dX2_valueFor_75 (by decide) ?_
          exact x_iret rfl dX2_valueFor_76 (Nat.le_refl _) (Nat.le_refl _) (k13 c1 c2 c3 c4)
set_option maxRecDepth 8000 in
theorem qX2_valueFor_256 {g : GG} {d : Nat} {M : MM} {P : Option Value → MM → Prop} {a0 : Nat} {i1 : Int32} {i2 : Int32} {i3 : Int32} {i4 : Int32} {i5 : Int32} {i6 : Int32} {i7 : Int32} {s0 : Nat} {s1 : Int32} {s2 : Int32} {n_s0 : Nat} {M1 : MM}
    (qM1 : M1 = wi M s0 (s1 : Int32).toNatClampNeg s2)
    (h1 : ar M s0 1 n_s0)
    (h2 : vp_in s1 n_s0)
    (k1 : E0 g YX2_valueFor d 33 [(0, .ref a0), (1, .int i1), (2, .int i2), (3, .int i3), (4, .int i4), (5, .int i5), (6, .int i6), (7, .int (i7 + 1))] [] M1 P) :
    E0 g YX2_valueFor d 256 [(0, .ref a0), (1, .int i1), (2, .int i2), (3, .int i3), (4, .int i4), (5, .int i5), (6, .int i6), (7, .int i7)] [.int s2, .int s1, .ref s0] M P := by
  subst qM1
  refine x_iast dX2_valueFor_256 h1.1 h1.2 (h2) ?_
  refine x_iinc (v := (i7 + 1)) (lv1 := [(7, .int (i7 + 1)), (0, .ref a0), (1, .int i1), (2, .int i2), (3, .int i3), (4, .int i4), (5, .int i5), (6, .int i6)]) dX2_valueFor_257 7 rfl rfl (by decide) rfl ?_
  refine x_goto 33 dX2_valueFor_260 (by decide) ?_
  exact EX.sub [1, 2, 3, 4, 5, 6, 7, 0] k1 rfl
set_option maxRecDepth 8000 in
theorem qX2_join_0 {g : GG} {d : Nat} {M : MM} {P : Option Value → MM → Prop} {i0 : Int32} {i1 : Int32} {i2 : Int32}
    (k1 : (i0 : Int32).toInt < (-11) ∨ (-6) < (i0 : Int32).toInt → P (some (.int (i1 * i2))) M)
    (k2 : (i0 : Int32).toInt = (-11) → P (some (.int (i1 - i2))) M)
    (k3 : (i0 : Int32).toInt = (-10) → P (some (.int (i1 + i2))) M)
    (k4 : (i0 : Int32).toInt = (-9) → ¬ i1 = i2 → P (some (.int 0)) M)
    (k5 : (i0 : Int32).toInt = (-9) → i1 = i2 → P (some (.int 1)) M)
    (k6 : (i0 : Int32).toInt = (-8) → i2 ≤ i1 → P (some (.int 0)) M)
    (k7 : (i0 : Int32).toInt = (-8) → ¬ (i2 ≤ i1) → P (some (.int 1)) M)
    (k8 : (i0 : Int32).toInt = (-7) → ¬ i1 = 0 → P (some (.int 1)) M)
    (k9 : (i0 : Int32).toInt = (-7) → i1 = 0 → i2 = 0 → P (some (.int 0)) M)
    (k10 : (i0 : Int32).toInt = (-7) → i1 = 0 → ¬ (i2 = 0) → P (some (.int 1)) M)
    (k11 : (i0 : Int32).toInt = (-6) → i1 = 0 → P (some (.int 0)) M)
    (k12 : (i0 : Int32).toInt = (-6) → ¬ (i1 = 0) → i2 = 0 → P (some (.int 0)) M)
    (k13 : (i0 : Int32).toInt = (-6) → ¬ (i1 = 0) → ¬ (i2 = 0) → P (some (.int 1)) M) :
    E0 g YX2_join d 0 [(0, .int i0), (1, .int i1), (2, .int i2)] [] M P := by
  refine x_iload_n dX2_join_0 0 rfl ?_
  by_cases c1 : (i0 : Int32).toInt < (-11) ∨ (-6) < (i0 : Int32).toInt
  · refine x_tabOut 98 dX2_join_1 c1 (by decide) ?_
    refine x_iload_n dX2_join_98 1 rfl ?_
    refine x_iload_n dX2_join_99 2 rfl ?_
    refine x_imul dX2_join_100 ?_
    exact x_iret rfl dX2_join_101 (Nat.le_refl _) (Nat.le_refl _) (k1 c1)
  · have qc1 : (i0 : Int32).toInt = (-11) ∨ (i0 : Int32).toInt = (-10) ∨ (i0 : Int32).toInt = (-9) ∨ (i0 : Int32).toInt = (-8) ∨ (i0 : Int32).toInt = (-7) ∨ (i0 : Int32).toInt = (-6) := by omega
    clear c1
    rcases qc1 with c1 | c1 | c1 | c1 | c1 | c1
    · refine x_tabIn 94 dX2_join_1 (by omega) (by omega) (off := 93) (by rw [show ((i0 : Int32).toInt - (-11)).toNat = 0 by omega]; rfl) (by decide) ?_
      refine x_iload_n dX2_join_94 1 rfl ?_
      refine x_iload_n dX2_join_95 2 rfl ?_
      refine x_isub dX2_join_96 ?_
      exact x_iret rfl dX2_join_97 (Nat.le_refl _) (Nat.le_refl _) (k2 c1)
    · refine x_tabIn 90 dX2_join_1 (by omega) (by omega) (off := 89) (by rw [show ((i0 : Int32).toInt - (-11)).toNat = 1 by omega]; rfl) (by decide) ?_
      refine x_iload_n dX2_join_90 1 rfl ?_
      refine x_iload_n dX2_join_91 2 rfl ?_
      refine x_iadd dX2_join_92 ?_
      exact x_iret rfl dX2_join_93 (Nat.le_refl _) (Nat.le_refl _) (k3 c1)
    · refine x_tabIn 79 dX2_join_1 (by omega) (by omega) (off := 78) (by rw [show ((i0 : Int32).toInt - (-11)).toNat = 2 by omega]; rfl) (by decide) ?_
      refine x_iload_n dX2_join_79 1 rfl ?_
      refine x_iload_n dX2_join_80 2 rfl ?_
      refine x_ic_ne 88 dX2_join_81 (by decide) (fun c2 => ?_) (fun c2 => ?_)
      · refine x_iconst (v := 0) dX2_join_88 (by decide) ?_
        exact x_iret rfl dX2_join_89 (Nat.le_refl _) (Nat.le_refl _) (k4 c1 c2)
      · refine x_iconst (v := 1) dX2_join_84 (by decide) ?_
        refine x_goto 89 dX2_join_85 (by decide) ?_
        exact x_iret rfl dX2_join_89 (Nat.le_refl _) (Nat.le_refl _) (k5 c1 c2)
    · refine x_tabIn 68 dX2_join_1 (by omega) (by omega) (off := 67) (by rw [show ((i0 : Int32).toInt - (-11)).toNat = 3 by omega]; rfl) (by decide) ?_
      refine x_iload_n dX2_join_68 1 rfl ?_
      refine x_iload_n dX2_join_69 2 rfl ?_
      refine x_ic_ge 77 dX2_join_70 (by decide) (fun c2 => ?_) (fun c2 => ?_)
      · refine x_iconst (v := 0) dX2_join_77 (by decide) ?_
        exact x_iret rfl dX2_join_78 (Nat.le_refl _) (Nat.le_refl _) (k6 c1 c2)
      · refine x_iconst (v := 1) dX2_join_73 (by decide) ?_
        refine x_goto 78 dX2_join_74 (by decide) ?_
        exact x_iret rfl dX2_join_78 (Nat.le_refl _) (Nat.le_refl _) (k7 c1 c2)
    · refine x_tabIn 54 dX2_join_1 (by omega) (by omega) (off := 53) (by rw [show ((i0 : Int32).toInt - (-11)).toNat = 4 by omega]; rfl) (by decide) ?_
      refine x_iload_n dX2_join_54 1 rfl ?_
      refine x_if_ne 62 dX2_join_55 (by decide) (fun c2 => ?_) (fun c2 => ?_)
      · refine x_iconst (v := 1) dX2_join_62 (by decide) ?_
        refine x_goto 67 dX2_join_63 (by decide) ?_
        exact x_iret rfl dX2_join_67 (Nat.le_refl _) (Nat.le_refl _) (k8 c1 c2)
      · refine x_iload_n dX2_join_58 2 rfl ?_
        refine x_if_eq 66 dX2_join_59 (by decide) (fun c3 => ?_) (fun c3 => ?_)
        · refine x_iconst (v := 0) dX2_join_66 (by decide) ?_
          exact x_iret rfl dX2_join_67 (Nat.le_refl _) (Nat.le_refl _) (k9 c1 c2 c3)
        · refine x_iconst (v := 1) dX2_join_62 (by decide) ?_
          refine x_goto 67 dX2_join_63 (by decide) ?_
          exact x_iret rfl dX2_join_67 (Nat.le_refl _) (Nat.le_refl _) (k10 c1 c2 c3)
    · refine x_tabIn 40 dX2_join_1 (by omega) (by omega) (off := 39) (by rw [show ((i0 : Int32).toInt - (-11)).toNat = 5 by omega]; rfl) (by decide) ?_
      refine x_iload_n dX2_join_40 1 rfl ?_
      refine x_if_eq 52 dX2_join_41 (by decide) (fun c2 => ?_) (fun c2 => ?_)
      · refine x_iconst (v := 0) dX2_join_52 (by decide) ?_
        exact x_iret rfl dX2_join_53 (Nat.le_refl _) (Nat.le_refl _) (k11 c1 c2)
      · refine x_iload_n dX2_join_44 2 rfl ?_
        refine x_if_eq 52 dX2_join_45 (by decide) (fun c3 => ?_) (fun c3 => ?_)
        · refine x_iconst (v := 0) dX2_join_52 (by decide) ?_
          exact x_iret rfl dX2_join_53 (Nat.le_refl _) (Nat.le_refl _) (k12 c1 c2 c3)
        · refine x_iconst (v := 1) dX2_join_48 (by decide) ?_
          refine x_goto 53 dX2_join_49 (by decide) ?_
          exact x_iret rfl dX2_join_53 (Nat.le_refl _) (Nat.le_refl _) (k13 c1 c2 c3)
