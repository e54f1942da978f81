set_option maxRecDepth 8000 in
theorem kX8_add_0 {g : GG} {d : Nat} {M : MM} {P : Option Value → MM → Prop} {a0 : Nat} {i1 : Int32} {i2 : Int32} {ba0_0 : Nat} {n_ba0_0 : Nat} {ba0_1 : Nat} {n_ba0_1 : Nat} {M1 : MM} {M2 : MM} {M3 : MM}
    (qM1 : M1 = wi M ba0_0 ((mi M a0 2) : Int32).toNatClampNeg i1)
    (qM2 : M2 = wi M1 ba0_1 ((mi M1 a0 2) : Int32).toNatClampNeg (vp_nar .boolean i2))
    (qM3 : M3 = wi M2 a0 2 ((mi M2 a0 2) + 1))
    (h1 : ob M a0 8)
    (h2 : mr M a0 0 = some ba0_0)
    (h3 : ar M ba0_0 1 n_ba0_0)
    (h4 : (mi M a0 2) < 8 → vp_in (mi M a0 2) n_ba0_0)
    (h5 : mr M a0 1 = some ba0_1)
    (h6 : ar M ba0_1 3 n_ba0_1)
    (h7 : (mi M a0 2) < 8 → vp_in (mi M1 a0 2) n_ba0_1)
    (k1 : (mi M a0 2) < 8 → P (some (.int 1)) M3)
    (k2 : ¬ ((mi M a0 2) < 8) → P (some (.int 0)) M) :
    E0 g YX8_add d 0 [(0, .ref a0), (1, .int i1), (2, .int i2)] [] M P := by
  subst qM1 qM2 qM3
  refine x_aload_n dX8_add_0 0 rfl ?_
  refine x_getI fdX8_19 rfl dX8_add_1 h1.1 h1.2 ?_
  refine x_bipush (v := 8) dX8_add_4 (by decide) ?_
  refine x_ic_lt 11 dX8_add_6 (by decide) (fun c1 => ?_) (fun c1 => ?_)
  · refine x_aload_n dX8_add_11 0 rfl ?_
    refine x_getR fdX8_9 rfl dX8_add_12 h1.1 h1.2 h2 ?_
    refine x_aload_n dX8_add_15 0 rfl ?_
    refine x_getI fdX8_19 rfl dX8_add_16 h1.1 h1.2 ?_
    refine x_iload_n dX8_add_19 1 rfl ?_
    refine x_iast dX8_add_20 h3.1 h3.2 (h4 c1) ?_
    refine x_aload_n dX8_add_21 0 rfl ?_
    refine x_getR fdX8_15 rfl dX8_add_22 h1.1 h1.2 h5 ?_
    refine x_aload_n dX8_add_25 0 rfl ?_
    refine x_getI fdX8_19 rfl dX8_add_26 h1.1 h1.2 ?_
    refine x_iload_n dX8_add_29 2 rfl ?_
    refine x_zast dX8_add_30 h6.1 h6.2 (h7 c1) ?_
    refine x_aload_n dX8_add_31 0 rfl ?_
    refine x_dup dX8_add_32 rfl ?_
    refine x_getI fdX8_19 rfl dX8_add_33 h1.1 h1.2 ?_
    refine x_iconst (v := 1) dX8_add_36 (by decide) ?_
    refine x_iadd dX8_add_37 ?_
    refine x_putI fdX8_19 rfl (Or.inl rfl) dX8_add_38 h1.1 h1.2 rfl rfl ?_
    refine x_iconst (v := 1) dX8_add_41 (by decide) ?_
    exact x_zret rfl dX8_add_42 rfl (Nat.le_refl _) (Nat.le_refl _) (k1 c1)
  · refine x_iconst (v := 0) dX8_add_9 (by decide) ?_
    exact x_zret rfl dX8_add_10 rfl (Nat.le_refl _) (Nat.le_refl _) (k2 c1)
set_option maxRecDepth 8000 in
theorem kX8_copy_0 {g : GG} {d : Nat} {M : MM} {P : Option Value → MM → Prop} {a0 : Nat} {a1 : Nat} {M1 : MM}
    (qM1 : M1 = wi M a0 2 (mi M a1 2))
    (h1 : ob M a1 8)
    (h2 : ob M a0 8)
    (k1 : E0 g YX8_copy d 10 [(0, .ref a0), (1, .ref a1), (2, .int 0)] [] M1 P) :
    E0 g YX8_copy d 0 [(0, .ref a0), (1, .ref a1)] [] M P := by
  subst qM1
  refine x_aload_n dX8_copy_0 0 rfl ?_
  refine x_aload_n dX8_copy_1 1 rfl ?_
  refine x_getI fdX8_19 rfl dX8_copy_2 h1.1 h1.2 ?_
  refine x_putI fdX8_19 rfl (Or.inl rfl) dX8_copy_5 h2.1 h2.2 rfl rfl ?_
  refine x_iconst (v := 0) dX8_copy_8 (by decide) ?_
  refine x_istore_n (lv1 := [(2, .int 0), (0, .ref a0), (1, .ref a1)]) dX8_copy_9 (by decide) rfl ?_
  exact EX.sub [1, 2, 0] k1 rfl
set_option maxRecDepth 8000 in
theorem kX8_copy_10 {g : GG} {d : Nat} {M : MM} {P : Option Value → MM → Prop} {a0 : Nat} {a1 : Nat} {i2 : Int32} {ba0_0 : Nat} {ba1_0 : Nat} {n_ba1_0 : Nat} {n_ba0_0 : Nat} {ba0_1 : Nat} {ba1_1 : Nat} {n_ba1_1 : Nat} {n_ba0_1 : Nat} {M1 : MM} {M2 : MM}
    (qM1 : M1 = wi M ba0_0 (i2 : Int32).toNatClampNeg (mi M ba1_0 (i2 : Int32).toNatClampNeg))
    (qM2 : M2 = wi M1 ba0_1 (i2 : Int32).toNatClampNeg (vp_nar .boolean (mi M1 ba1_1 (i2 : Int32).toNatClampNeg)))
    (h1 : ob M a0 8)
    (h2 : mr M a0 0 = some ba0_0)
    (h3 : ob M a1 8)
    (h4 : mr M a1 0 = some ba1_0)
    (h5 : ar M ba1_0 1 n_ba1_0)
    (h6 : ¬ ((mi M a0 2) ≤ i2) → ¬ (8 ≤ i2) → vp_in i2 n_ba1_0)
    (h7 : ar M ba0_0 1 n_ba0_0)
    (h8 : ¬ ((mi M a0 2) ≤ i2) → ¬ (8 ≤ i2) → vp_in i2 n_ba0_0)
    (h9 : mr M a0 1 = some ba0_1)
    (h10 : mr M a1 1 = some ba1_1)
    (h11 : ar M ba1_1 3 n_ba1_1)
    (h12 : ¬ ((mi M a0 2) ≤ i2) → ¬ (8 ≤ i2) → vp_in i2 n_ba1_1)
    (h13 : ar M ba0_1 3 n_ba0_1)
    (h14 : ¬ ((mi M a0 2) ≤ i2) → ¬ (8 ≤ i2) → vp_in i2 n_ba0_1)
    (k1 : (mi M a0 2) ≤ i2 → P none M)
    (k2 : ¬ ((mi M a0 2) ≤ i2) → 8 ≤ i2 → P none M)
    (k3 : ¬ ((mi M a0 2) ≤ i2) → ¬ (8 ≤ i2) → E0 g YX8_copy d 10 [(0, .ref a0), (1, .ref a1), (2, .int (i2 + 1))] [] M2 P) :
    E0 g YX8_copy d 10 [(0, .ref a0), (1, .ref a1), (2, .int i2)] [] M P := by
  subst qM1 qM2
  refine x_iload_n dX8_copy_10 2 rfl ?_
  refine x_aload_n dX8_copy_11 0 rfl ?_
  refine x_getI fdX8_19 rfl dX8_copy_12 h1.1 h1.2 ?_
  refine x_ic_ge 54 dX8_copy_15 (by decide) (fun c1 => ?_) (fun c1 => ?_)
  · exact x_vret rfl dX8_copy_54 (Nat.le_refl _) (Nat.le_refl _) (k1 c1)
  · refine x_iload_n dX8_copy_18 2 rfl ?_
    refine x_bipush (v := 8) dX8_copy_19 (by decide) ?_
    refine x_ic_ge 54 dX8_copy_21 (by decide) (fun c2 => ?_) (fun c2 => ?_)
    · exact x_vret rfl dX8_copy_54 (Nat.le_refl _) (Nat.le_refl _) (k2 c1 c2)
    · refine x_aload_n dX8_copy_24 0 rfl ?_
      refine x_getR fdX8_9 rfl dX8_copy_25 h1.1 h1.2 h2 ?_
      refine x_iload_n dX8_copy_28 2 rfl ?_
      refine x_aload_n dX8_copy_29 1 rfl ?_
      refine x_getR fdX8_9 rfl dX8_copy_30 h3.1 h3.2 h4 ?_
      refine x_iload_n dX8_copy_33 2 rfl ?_
      refine x_iald dX8_copy_34 h5.1 h5.2 (h6 c1 c2) ?_
      refine x_iast dX8_copy_35 h7.1 h7.2 (h8 c1 c2) ?_
      refine x_aload_n dX8_copy_36 0 rfl ?_
      refine x_getR fdX8_15 rfl dX8_copy_37 h1.1 h1.2 h9 ?_
      refine x_iload_n dX8_copy_40 2 rfl ?_
      refine x_aload_n dX8_copy_41 1 rfl ?_
      refine x_getR fdX8_15 rfl dX8_copy_42 h3.1 h3.2 h10 ?_
      refine x_iload_n dX8_copy_45 2 rfl ?_
      refine x_zald dX8_copy_46 h11.1 h11.2 (h12 c1 c2) ?_
      refine x_zast dX8_copy_47 h13.1 h13.2 (h14 c1 c2) ?_
      refine x_iinc (v := (i2 + 1)) (lv1 := [(2, .int (i2 + 1)), (0, .ref a0), (1, .ref a1)]) dX8_copy_48 2 rfl rfl (by decide) rfl ?_
      refine x_goto 10 dX8_copy_51 (by decide) ?_
      exact EX.sub [1, 2, 0] (k3 c1 c2) rfl
set_option maxRecDepth 8000 in
theorem kX8_fit_0 {g : GG} {d : Nat} {M : MM} {P : Option Value → MM → Prop} {a0 : Nat} {i1 : Int32}
    (k1 : E0 g YX8_fit d 2 [(0, .ref a0), (1, .int i1), (2, .int 0)] [] M P) :
    E0 g YX8_fit d 0 [(0, .ref a0), (1, .int i1)] [] M P := by
  refine x_iconst (v := 0) dX8_fit_0 (by decide) ?_
  refine x_istore_n (lv1 := [(2, .int 0), (0, .ref a0), (1, .int i1)]) dX8_fit_1 (by decide) rfl ?_
  exact EX.sub [1, 2, 0] k1 rfl
set_option maxRecDepth 8000 in
theorem kX8_fit_2 {g : GG} {d : Nat} {M : MM} {P : Option Value → MM → Prop} {a0 : Nat} {i1 : Int32} {i2 : Int32} {ba0_0 : Nat} {n_ba0_0 : Nat} {ba0_1 : Nat} {n_ba0_1 : Nat}
    (h1 : ob M a0 8)
    (h2 : mr M a0 0 = some ba0_0)
    (h3 : ar M ba0_0 1 n_ba0_0)
    (h4 : ¬ ((mi M a0 2) ≤ i2) → ¬ (8 ≤ i2) → vp_in i2 n_ba0_0)
    (h5 : mr M a0 1 = some ba0_1)
    (h6 : ar M ba0_1 3 n_ba0_1)
    (h7 : ¬ ((mi M a0 2) ≤ i2) → ¬ (8 ≤ i2) → ¬ ((i1 >>> ((mi M ba0_0 (i2 : Int32).toNatClampNeg) &&& 31)) &&& 1) = 1 → vp_in i2 n_ba0_1)
    (h8 : ¬ ((mi M a0 2) ≤ i2) → ¬ (8 ≤ i2) → ((i1 >>> ((mi M ba0_0 (i2 : Int32).toNatClampNeg) &&& 31)) &&& 1) = 1 → vp_in i2 n_ba0_1)
    (k1 : (mi M a0 2) ≤ i2 → P (some (.int 1)) M)
    (k2 : ¬ ((mi M a0 2) ≤ i2) → 8 ≤ i2 → P (some (.int 1)) M)
    (k3 : ¬ ((mi M a0 2) ≤ i2) → ¬ (8 ≤ i2) → ¬ ((i1 >>> ((mi M ba0_0 (i2 : Int32).toNatClampNeg) &&& 31)) &&& 1) = 1 → (0 : Int32) = (mi M ba0_1 (i2 : Int32).toNatClampNeg) → E0 g YX8_fit d 2 [(0, .ref a0), (1, .int i1), (2, .int (i2 + 1))] [] M P)
    (k4 : ¬ ((mi M a0 2) ≤ i2) → ¬ (8 ≤ i2) → ¬ ((i1 >>> ((mi M ba0_0 (i2 : Int32).toNatClampNeg) &&& 31)) &&& 1) = 1 → ¬ ((0 : Int32) = (mi M ba0_1 (i2 : Int32).toNatClampNeg)) → P (some (.int 0)) M)
    (k5 : ¬ ((mi M a0 2) ≤ i2) → ¬ (8 ≤ i2) → ((i1 >>> ((mi M ba0_0 (i2 : Int32).toNatClampNeg) &&& 31)) &&& 1) = 1 → (1 : Int32) = (mi M ba0_1 (i2 : Int32).toNatClampNeg) → E0 g YX8_fit d 2 [(0, .ref a0), (1, .int i1), (2, .int (i2 + 1))] [] M P)
    (k6 : ¬ ((mi M a0 2) ≤ i2) → ¬ (8 ≤ i2) → ((i1 >>> ((mi M ba0_0 (i2 : Int32).toNatClampNeg) &&& 31)) &&& 1) = 1 → ¬ ((1 : Int32) = (mi M ba0_1 (i2 : Int32).toNatClampNeg)) → P (some (.int 0)) M) :
    E0 g YX8_fit d 2 [(0, .ref a0), (1, .int i1), (2, .int i2)] [] M P := by
  refine x_iload_n dX8_fit_2 2 rfl ?_
  refine x_aload_n dX8_fit_3 0 rfl ?_
  refine x_getI fdX8_19 rfl dX8_fit_4 h1.1 h1.2 ?_
  refine x_ic_ge 52 dX8_fit_7 (by decide) (fun c1 => ?_) (fun c1 => ?_)
  · refine x_iconst (v := 1) dX8_fit_52 (by decide) ?_
    exact x_zret rfl dX8_fit_53 rfl (Nat.le_refl _) (Nat.le_refl _) (k1 c1)
  · refine x_iload_n dX8_fit_10 2 rfl ?_
    refine x_bipush (v := 8) dX8_fit_11 (by decide) ?_
    refine x_ic_ge 52 dX8_fit_13 (by decide) (fun c2 => ?_) (fun c2 => ?_)
    · refine x_iconst (v := 1) dX8_fit_52 (by decide) ?_
      exact x_zret rfl dX8_fit_53 rfl (Nat.le_refl _) (Nat.le_refl _) (k2 c1 c2)
    · refine x_iload_n dX8_fit_16 1 rfl ?_
      refine x_aload_n dX8_fit_17 0 rfl ?_
      refine x_getR fdX8_9 rfl dX8_fit_18 h1.1 h1.2 h2 ?_
      refine x_iload_n dX8_fit_21 2 rfl ?_
      refine x_iald dX8_fit_22 h3.1 h3.2 (h4 c1 c2) ?_
      refine x_ishr dX8_fit_23 ?_
      refine x_iconst (v := 1) dX8_fit_24 (by decide) ?_
      refine x_iand dX8_fit_25 ?_
      refine x_iconst (v := 1) dX8_fit_26 (by decide) ?_
      refine x_ic_ne 34 dX8_fit_27 (by decide) (fun c3 => ?_) (fun c3 => ?_)
      · refine x_iconst (v := 0) dX8_fit_34 (by decide) ?_
        refine x_aload_n dX8_fit_35 0 rfl ?_
        refine x_getR fdX8_15 rfl dX8_fit_36 h1.1 h1.2 h5 ?_
        refine x_iload_n dX8_fit_39 2 rfl ?_
        refine x_zald dX8_fit_40 h6.1 h6.2 (h7 c1 c2 c3) ?_
        refine x_ic_eq 46 dX8_fit_41 (by decide) (fun c4 => ?_) (fun c4 => ?_)
        · refine x_iinc (v := (i2 + 1)) (lv1 := [(2, .int (i2 + 1)), (0, .ref a0), (1, .int i1)]) dX8_fit_46 2 rfl rfl (by decide) rfl ?_
          refine x_goto 2 dX8_fit_49 (by decide) ?_
          exact EX.sub [1, 2, 0] (k3 c1 c2 c3 c4) rfl
        · refine x_iconst (v := 0) dX8_fit_44 (by decide) ?_
          exact x_zret rfl dX8_fit_45 rfl (Nat.le_refl _) (Nat.le_refl _) (k4 c1 c2 c3 c4)
      · refine x_iconst (v := 1) dX8_fit_30 (by decide) ?_
        refine x_goto 35 dX8_fit_31 (by decide) ?_
        refine x_aload_n dX8_fit_35 0 rfl ?_
        refine x_getR fdX8_15 rfl dX8_fit_36 h1.1 h1.2 h5 ?_
        refine x_iload_n dX8_fit_39 2 rfl ?_
        refine x_zald dX8_fit_40 h6.1 h6.2 (h8 c1 c2 c3) ?_
        refine x_ic_eq 46 dX8_fit_41 (by decide) (fun c4 => ?_) (fun c4 => ?_)
        · refine x_iinc (v := (i2 + 1)) (lv1 := [(2, .int (i2 + 1)), (0, .ref a0), (1, .int i1)]) dX8_fit_46 2 rfl rfl (by decide) rfl ?_
          refine x_goto 2 dX8_fit_49 (by decide) ?_
          exact EX.sub [1, 2, 0] (k5 c1 c2 c3 c4) rfl
        · refine x_iconst (v := 0) dX8_fit_44 (by decide) ?_
          exact x_zret rfl dX8_fit_45 rfl (Nat.le_refl _) (Nat.le_refl _) (k6 c1 c2 c3 c4)
