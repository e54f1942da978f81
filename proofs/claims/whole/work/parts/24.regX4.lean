set_option maxRecDepth 8000 in
theorem qX4_keep_0 {g : GG} {d : Nat} {M : MM} {P : Option Value → MM → Prop} {a1 : Nat} {e1 : Nat} {la lb pa pb rl : Nat} (L : Lay M la lb pa pb rl) (Be1 : Trv M e1)
    (h1 : ¬ ((mi M 43 1) < 0) → ¬ (16 ≤ (mi M 43 1)) → vp_in (mi M 43 1) 16)
    (h2 : ¬ ((mi M 43 1) < 0) → ¬ (16 ≤ (mi M 43 1)) → mr M 44 ((mi M 43 1) : Int32).toNatClampNeg = some e1)
    (k1 : (mi M 43 1) < 0 → P none M)
    (k2 : ¬ ((mi M 43 1) < 0) → 16 ≤ (mi M 43 1) → P none M)
    (k3 : ¬ ((mi M 43 1) < 0) → ¬ (16 ≤ (mi M 43 1)) → K0 g YX4_keep YX10_copy d 29 [.ref e1, .ref a1] [(0, .ref 43)] [] M P) :
    E0 g YX4_keep d 0 [(0, .ref 43), (1, .ref a1)] [] M P := by
  have f1 : ob M 43 4 := L.s rfl (by decide)
  have f2 : mr M 43 0 = some 44 := L.r 45 rfl
  have f3 : ar M 44 6 16 := L.s rfl (by decide)
  have f4 : ob M e1 10 := Be1.o
  refine x_aload_n dX4_keep_0 0 rfl ?_
  refine x_getI fdX4_18 rfl dX4_keep_1 f1.1 f1.2 ?_
  refine x_if_lt 57 dX4_keep_4 (by decide) (fun c1 => ?_) (fun c1 => ?_)
  · exact x_vret rfl dX4_keep_57 (Nat.le_refl _) (Nat.le_refl _) (k1 c1)
  · refine x_aload_n dX4_keep_7 0 rfl ?_
    refine x_getI fdX4_18 rfl dX4_keep_8 f1.1 f1.2 ?_
    refine x_bipush (v := 16) dX4_keep_11 (by decide) ?_
    refine x_ic_ge 57 dX4_keep_13 (by decide) (fun c2 => ?_) (fun c2 => ?_)
    · exact x_vret rfl dX4_keep_57 (Nat.le_refl _) (Nat.le_refl _) (k2 c1 c2)
    · refine x_aload_n dX4_keep_16 0 rfl ?_
      refine x_getR fdX4_11 rfl dX4_keep_17 f1.1 f1.2 f2 ?_
      refine x_aload_n dX4_keep_20 0 rfl ?_
      refine x_getI fdX4_18 rfl dX4_keep_21 f1.1 f1.2 ?_
      refine x_aald dX4_keep_24 f3.1 f3.2 (by decide) (h1 c1 c2) (h2 c1 c2) ?_
      refine x_aload_n dX4_keep_25 1 rfl ?_
      refine EX.sub [0] (K0.v (As := [.ref a1]) (st := []) cvX4_22 dX4_keep_26 rfl rfl f4 rfl (Nat.le_of_ble_eq_true rfl) (k3 c1 c2)) rfl
set_option maxRecDepth 8000 in
theorem qX4_keep_29 {g : GG} {d : Nat} {M : MM} {P : Option Value → MM → Prop}  {M1 : MM} {M2 : MM} {la lb pa pb rl : Nat} (L : Lay M la lb pa pb rl)
    (qM1 : M1 = wi M 43 1 (((mi M 43 1) + 1) - ((mi M 43 1) + 1) / 16 * 16))
    (qM2 : M2 = wi M1 43 2 (if 16 < ((mi M1 43 2) + 1) then 16 else ((mi M1 43 2) + 1)))
    (h1 : 1 ≤ d)
    (k1 : P none M2) :
    E0 g YX4_keep d 29 [(0, .ref 43)] [] M P := by
  have f1 : ob M 43 4 := L.s rfl (by decide)
  subst qM1 qM2
  refine x_aload_n dX4_keep_29 0 rfl ?_
  refine x_aload_n dX4_keep_30 0 rfl ?_
  refine x_getI fdX4_18 rfl dX4_keep_31 f1.1 f1.2 ?_
  refine x_iconst (v := 1) dX4_keep_34 (by decide) ?_
  refine x_iadd dX4_keep_35 ?_
  refine x_bipush (v := 16) dX4_keep_36 (by decide) ?_
  refine x_irem dX4_keep_38 (by decide) ?_
  refine x_putI fdX4_18 rfl (Or.inl rfl) dX4_keep_39 f1.1 f1.2 rfl rfl ?_
  refine x_aload_n dX4_keep_42 0 rfl ?_
  refine x_aload_n dX4_keep_43 0 rfl ?_
  refine x_getI fdX4_26 rfl dX4_keep_44 f1.1 f1.2 ?_
  refine x_iconst (v := 1) dX4_keep_47 (by decide) ?_
  refine x_iadd dX4_keep_48 ?_
  refine x_bipush (v := 16) dX4_keep_49 (by decide) ?_
  refine x_min dX4_keep_51 mmX4_29 gk_min1 gk_math gk_min2 h1 (Nat.le_refl _) (Nat.le_refl _) (Nat.le_of_ble_eq_true rfl) ?_
  refine x_putI fdX4_26 rfl (Or.inl rfl) dX4_keep_54 f1.1 f1.2 rfl rfl ?_
  exact x_vret rfl dX4_keep_57 (Nat.le_refl _) (Nat.le_refl _) (k1)
set_option maxRecDepth 8000 in
theorem qX4_takeBack_0 {g : GG} {d : Nat} {M : MM} {P : Option Value → MM → Prop} {a1 : Nat} {e1 : Nat} {la lb pa pb rl : Nat} (L : Lay M la lb pa pb rl) (C1 : Trv M a1)
    (h1 : ¬ ((mi M 43 2) = 0) → 0 ≤ ((((mi M 43 1) + 16) - 1) - (((mi M 43 1) + 16) - 1) / 16 * 16) → vp_in ((((mi M 43 1) + 16) - 1) - (((mi M 43 1) + 16) - 1) / 16 * 16) 16)
    (h2 : ¬ ((mi M 43 2) = 0) → 0 ≤ ((((mi M 43 1) + 16) - 1) - (((mi M 43 1) + 16) - 1) / 16 * 16) → mr M 44 (((((mi M 43 1) + 16) - 1) - (((mi M 43 1) + 16) - 1) / 16 * 16) : Int32).toNatClampNeg = some e1)
    (k1 : (mi M 43 2) = 0 → P (some (.int 0)) M)
    (k2 : ¬ ((mi M 43 2) = 0) → 0 ≤ ((((mi M 43 1) + 16) - 1) - (((mi M 43 1) + 16) - 1) / 16 * 16) → K0 g YX4_takeBack YX10_copy d 36 [.ref a1, .ref e1] [(0, .ref 43), (2, .int ((((mi M 43 1) + 16) - 1) - (((mi M 43 1) + 16) - 1) / 16 * 16))] [] M P)
    (k3 : ¬ ((mi M 43 2) = 0) → ¬ (0 ≤ ((((mi M 43 1) + 16) - 1) - (((mi M 43 1) + 16) - 1) / 16 * 16)) → P (some (.int 0)) M) :
    E0 g YX4_takeBack d 0 [(0, .ref 43), (1, .ref a1)] [] M P := by
  have f1 : ob M 43 4 := L.s rfl (by decide)
  have f2 : mr M 43 0 = some 44 := L.r 45 rfl
  have f3 : ar M 44 6 16 := L.s rfl (by decide)
  have f4 : ob M a1 10 := C1.o
  refine x_aload_n dX4_takeBack_0 0 rfl ?_
  refine x_getI fdX4_18 rfl dX4_takeBack_1 f1.1 f1.2 ?_
  refine x_bipush (v := 16) dX4_takeBack_4 (by decide) ?_
  refine x_iadd dX4_takeBack_6 ?_
  refine x_iconst (v := 1) dX4_takeBack_7 (by decide) ?_
  refine x_isub dX4_takeBack_8 ?_
  refine x_bipush (v := 16) dX4_takeBack_9 (by decide) ?_
  refine x_irem dX4_takeBack_11 (by decide) ?_
  refine x_istore_n (lv1 := [(2, .int ((((mi M 43 1) + 16) - 1) - (((mi M 43 1) + 16) - 1) / 16 * 16)), (0, .ref 43), (1, .ref a1)]) dX4_takeBack_12 (by decide) rfl ?_
  refine x_aload_n dX4_takeBack_13 1 rfl ?_
  refine x_getI fdX4_26 rfl dX4_takeBack_14 f1.1 f1.2 ?_
  refine x_if_eq 24 dX4_takeBack_17 (by decide) (fun c1 => ?_) (fun c1 => ?_)
  · refine x_iconst (v := 0) dX4_takeBack_24 (by decide) ?_
    exact x_zret rfl dX4_takeBack_25 rfl (Nat.le_refl _) (Nat.le_refl _) (k1 c1)
  · refine x_iload_n dX4_takeBack_20 0 rfl ?_
    refine x_if_ge 26 dX4_takeBack_21 (by decide) (fun c2 => ?_) (fun c2 => ?_)
    · refine x_aload_n dX4_takeBack_26 2 rfl ?_
      refine x_aload_n dX4_takeBack_27 1 rfl ?_
      refine x_getR fdX4_11 rfl dX4_takeBack_28 f1.1 f1.2 f2 ?_
      refine x_iload_n dX4_takeBack_31 0 rfl ?_
      refine x_aald dX4_takeBack_32 f3.1 f3.2 (by decide) (h1 c1 c2) (h2 c1 c2) ?_
      refine EX.sub [1, 0] (K0.v (As := [.ref e1]) (st := []) cvX4_22 dX4_takeBack_33 rfl rfl f4 rfl (Nat.le_of_ble_eq_true rfl) (k2 c1 c2)) rfl
    · refine x_iconst (v := 0) dX4_takeBack_24 (by decide) ?_
      exact x_zret rfl dX4_takeBack_25 rfl (Nat.le_refl _) (Nat.le_refl _) (k3 c1 c2)
set_option maxRecDepth 8000 in
theorem qX4_takeBack_36 {g : GG} {d : Nat} {M : MM} {P : Option Value → MM → Prop} {i2 : Int32} {M1 : MM} {M2 : MM} {la lb pa pb rl : Nat} (L : Lay M la lb pa pb rl)
    (qM1 : M1 = wi M 43 1 i2)
    (qM2 : M2 = wi M1 43 2 ((mi M1 43 2) - 1))
    (k1 : P (some (.int 1)) M2) :
    E0 g YX4_takeBack d 36 [(0, .ref 43), (2, .int i2)] [] M P := by
  have f1 : ob M 43 4 := L.s rfl (by decide)
  subst qM1 qM2
  refine x_aload_n dX4_takeBack_36 0 rfl ?_
  refine x_iload_n dX4_takeBack_37 1 rfl ?_
  refine x_putI fdX4_18 rfl (Or.inl rfl) dX4_takeBack_38 f1.1 f1.2 rfl rfl ?_
  refine x_aload_n dX4_takeBack_41 0 rfl ?_
  refine x_dup dX4_takeBack_42 rfl ?_
  refine x_getI fdX4_26 rfl dX4_takeBack_43 f1.1 f1.2 ?_
  refine x_iconst (v := 1) dX4_takeBack_46 (by decide) ?_
  refine x_isub dX4_takeBack_47 ?_
  refine x_putI fdX4_26 rfl (Or.inl rfl) dX4_takeBack_48 f1.1 f1.2 rfl rfl ?_
  refine x_iconst (v := 1) dX4_takeBack_51 (by decide) ?_
  exact x_zret rfl dX4_takeBack_52 rfl (Nat.le_refl _) (Nat.le_refl _) (k1)
set_option maxRecDepth 8000 in
theorem qX4_forget_0 {g : GG} {d : Nat} {M : MM} {P : Option Value → MM → Prop}  {M1 : MM} {la lb pa pb rl : Nat} (L : Lay M la lb pa pb rl)
    (qM1 : M1 = wi M 43 2 0)
    (k1 : P none M1) :
    E0 g YX4_forget d 0 [(0, .ref 43)] [] M P := by
  have f1 : ob M 43 4 := L.s rfl (by decide)
  subst qM1
  refine x_aload_n dX4_forget_0 0 rfl ?_
  refine x_iconst (v := 0) dX4_forget_1 (by decide) ?_
  refine x_putI fdX4_26 rfl (Or.inl rfl) dX4_forget_2 f1.1 f1.2 rfl rfl ?_
  exact x_vret rfl dX4_forget_5 (Nat.le_refl _) (Nat.le_refl _) (k1)
