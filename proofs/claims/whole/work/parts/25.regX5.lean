set_option maxRecDepth 8000 in
theorem kX5_clear_0 {g : GG} {d : Nat} {M : MM} {P : Option Value → MM → Prop} {a0 : Nat} {M1 : MM}
    (qM1 : M1 = wi M a0 0 0)
    (h1 : ob M a0 5)
    (k1 : P none M1) :
    E0 g YX5_clear d 0 [(0, .ref a0)] [] M P := by
  subst qM1
  refine x_aload_n dX5_clear_0 0 rfl ?_
  refine x_iconst (v := 0) dX5_clear_1 (by decide) ?_
  refine x_putI fdX5_24 rfl (Or.inl rfl) dX5_clear_2 h1.1 h1.2 rfl rfl ?_
  exact x_vret rfl dX5_clear_5 (Nat.le_refl _) (Nat.le_refl _) (k1)
set_option maxRecDepth 8000 in
theorem kX5_add_0 {g : GG} {d : Nat} {M : MM} {P : Option Value → MM → Prop} {a0 : Nat} {i1 : Int32} {i2 : Int32} {i3 : Int32} {i4 : Int32} {ba0_1 : Nat} {n_ba0_1 : Nat} {ba0_2 : Nat} {n_ba0_2 : Nat} {ba0_3 : Nat} {n_ba0_3 : Nat} {ba0_4 : Nat} {n_ba0_4 : Nat} {M1 : MM} {M2 : MM} {M3 : MM} {M4 : MM} {M5 : MM}
    (qM1 : M1 = wi M ba0_1 ((mi M a0 0) : Int32).toNatClampNeg i1)
    (qM2 : M2 = wi M1 ba0_2 ((mi M1 a0 0) : Int32).toNatClampNeg i2)
    (qM3 : M3 = wi M2 ba0_3 ((mi M2 a0 0) : Int32).toNatClampNeg i3)
    (qM4 : M4 = wi M3 ba0_4 ((mi M3 a0 0) : Int32).toNatClampNeg i4)
    (qM5 : M5 = wi M4 a0 0 ((mi M4 a0 0) + 1))
    (h1 : ob M a0 5)
    (h2 : mr M a0 1 = some ba0_1)
    (h3 : ar M ba0_1 1 n_ba0_1)
    (h4 : ¬ (40 ≤ (mi M a0 0)) → vp_in (mi M a0 0) n_ba0_1)
    (h5 : mr M a0 2 = some ba0_2)
    (h6 : ar M ba0_2 1 n_ba0_2)
    (h7 : ¬ (40 ≤ (mi M a0 0)) → vp_in (mi M1 a0 0) n_ba0_2)
    (h8 : mr M a0 3 = some ba0_3)
    (h9 : ar M ba0_3 1 n_ba0_3)
    (h10 : ¬ (40 ≤ (mi M a0 0)) → vp_in (mi M2 a0 0) n_ba0_3)
    (h11 : mr M a0 4 = some ba0_4)
    (h12 : ar M ba0_4 1 n_ba0_4)
    (h13 : ¬ (40 ≤ (mi M a0 0)) → vp_in (mi M3 a0 0) n_ba0_4)
    (k1 : 40 ≤ (mi M a0 0) → P none M)
    (k2 : ¬ (40 ≤ (mi M a0 0)) → P none M5) :
    E0 g YX5_add d 0 [(0, .ref a0), (1, .int i1), (2, .int i2), (3, .int i3), (4, .int i4)] [] M P := by
  subst qM1 qM2 qM3 qM4 qM5
  refine x_aload_n dX5_add_0 0 rfl ?_
  refine x_getI fdX5_24 rfl dX5_add_1 h1.1 h1.2 ?_
  refine x_bipush (v := 40) dX5_add_4 (by decide) ?_
  refine x_ic_ge 60 dX5_add_6 (by decide) (fun c1 => ?_) (fun c1 => ?_)
  · exact x_vret rfl dX5_add_60 (Nat.le_refl _) (Nat.le_refl _) (k1 c1)
  · refine x_aload_n dX5_add_9 0 rfl ?_
    refine x_getR fdX5_9 rfl dX5_add_10 h1.1 h1.2 h2 ?_
    refine x_aload_n dX5_add_13 0 rfl ?_
    refine x_getI fdX5_24 rfl dX5_add_14 h1.1 h1.2 ?_
    refine x_iload_n dX5_add_17 1 rfl ?_
    refine x_iast dX5_add_18 h3.1 h3.2 (h4 c1) ?_
    refine x_aload_n dX5_add_19 0 rfl ?_
    refine x_getR fdX5_15 rfl dX5_add_20 h1.1 h1.2 h5 ?_
    refine x_aload_n dX5_add_23 0 rfl ?_
    refine x_getI fdX5_24 rfl dX5_add_24 h1.1 h1.2 ?_
    refine x_iload_n dX5_add_27 2 rfl ?_
    refine x_iast dX5_add_28 h6.1 h6.2 (h7 c1) ?_
    refine x_aload_n dX5_add_29 0 rfl ?_
    refine x_getR fdX5_18 rfl dX5_add_30 h1.1 h1.2 h8 ?_
    refine x_aload_n dX5_add_33 0 rfl ?_
    refine x_getI fdX5_24 rfl dX5_add_34 h1.1 h1.2 ?_
    refine x_iload_n dX5_add_37 3 rfl ?_
    refine x_iast dX5_add_38 h9.1 h9.2 (h10 c1) ?_
    refine x_aload_n dX5_add_39 0 rfl ?_
    refine x_getR fdX5_21 rfl dX5_add_40 h1.1 h1.2 h11 ?_
    refine x_aload_n dX5_add_43 0 rfl ?_
    refine x_getI fdX5_24 rfl dX5_add_44 h1.1 h1.2 ?_
    refine x_iload dX5_add_47 4 rfl ?_
    refine x_iast dX5_add_49 h12.1 h12.2 (h13 c1) ?_
    refine x_aload_n dX5_add_50 0 rfl ?_
    refine x_dup dX5_add_51 rfl ?_
    refine x_getI fdX5_24 rfl dX5_add_52 h1.1 h1.2 ?_
    refine x_iconst (v := 1) dX5_add_55 (by decide) ?_
    refine x_iadd dX5_add_56 ?_
    refine x_putI fdX5_24 rfl (Or.inl rfl) dX5_add_57 h1.1 h1.2 rfl rfl ?_
    exact x_vret rfl dX5_add_60 (Nat.le_refl _) (Nat.le_refl _) (k2 c1)
set_option maxRecDepth 8000 in
theorem kX5_copy_0 {g : GG} {d : Nat} {M : MM} {P : Option Value → MM → Prop} {a0 : Nat} {a1 : Nat} {M1 : MM}
    (qM1 : M1 = wi M a0 0 (mi M a1 0))
    (h1 : ob M a1 5)
    (h2 : ob M a0 5)
    (k1 : E0 g YX5_copy d 10 [(0, .ref a0), (1, .ref a1), (2, .int 0)] [] M1 P) :
    E0 g YX5_copy d 0 [(0, .ref a0), (1, .ref a1)] [] M P := by
  subst qM1
  refine x_aload_n dX5_copy_0 0 rfl ?_
  refine x_aload_n dX5_copy_1 1 rfl ?_
  refine x_getI fdX5_24 rfl dX5_copy_2 h1.1 h1.2 ?_
  refine x_putI fdX5_24 rfl (Or.inl rfl) dX5_copy_5 h2.1 h2.2 rfl rfl ?_
  refine x_iconst (v := 0) dX5_copy_8 (by decide) ?_
  refine x_istore_n (lv1 := [(2, .int 0), (0, .ref a0), (1, .ref a1)]) dX5_copy_9 (by decide) rfl ?_
  exact EX.sub [1, 2, 0] k1 rfl
set_option maxRecDepth 8000 in
theorem kX5_copy_10 {g : GG} {d : Nat} {M : MM} {P : Option Value → MM → Prop} {a0 : Nat} {a1 : Nat} {i2 : Int32} {ba0_1 : Nat} {ba1_1 : Nat} {n_ba1_1 : Nat} {n_ba0_1 : Nat} {ba0_2 : Nat} {ba1_2 : Nat} {n_ba1_2 : Nat} {n_ba0_2 : Nat} {ba0_3 : Nat} {ba1_3 : Nat} {n_ba1_3 : Nat} {n_ba0_3 : Nat} {ba0_4 : Nat} {ba1_4 : Nat} {n_ba1_4 : Nat} {n_ba0_4 : Nat} {M1 : MM} {M2 : MM} {M3 : MM} {M4 : MM}
    (qM1 : M1 = wi M ba0_1 (i2 : Int32).toNatClampNeg (mi M ba1_1 (i2 : Int32).toNatClampNeg))
    (qM2 : M2 = wi M1 ba0_2 (i2 : Int32).toNatClampNeg (mi M1 ba1_2 (i2 : Int32).toNatClampNeg))
    (qM3 : M3 = wi M2 ba0_3 (i2 : Int32).toNatClampNeg (mi M2 ba1_3 (i2 : Int32).toNatClampNeg))
    (qM4 : M4 = wi M3 ba0_4 (i2 : Int32).toNatClampNeg (mi M3 ba1_4 (i2 : Int32).toNatClampNeg))
    (h1 : ob M a0 5)
    (h2 : mr M a0 1 = some ba0_1)
    (h3 : ob M a1 5)
    (h4 : mr M a1 1 = some ba1_1)
    (h5 : ar M ba1_1 1 n_ba1_1)
    (h6 : ¬ ((mi M a0 0) ≤ i2) → ¬ (40 ≤ i2) → vp_in i2 n_ba1_1)
    (h7 : ar M ba0_1 1 n_ba0_1)
    (h8 : ¬ ((mi M a0 0) ≤ i2) → ¬ (40 ≤ i2) → vp_in i2 n_ba0_1)
    (h9 : mr M a0 2 = some ba0_2)
    (h10 : mr M a1 2 = some ba1_2)
    (h11 : ar M ba1_2 1 n_ba1_2)
    (h12 : ¬ ((mi M a0 0) ≤ i2) → ¬ (40 ≤ i2) → vp_in i2 n_ba1_2)
    (h13 : ar M ba0_2 1 n_ba0_2)
    (h14 : ¬ ((mi M a0 0) ≤ i2) → ¬ (40 ≤ i2) → vp_in i2 n_ba0_2)
    (h15 : mr M a0 3 = some ba0_3)
    (h16 : mr M a1 3 = some ba1_3)
    (h17 : ar M ba1_3 1 n_ba1_3)
    (h18 : ¬ ((mi M a0 0) ≤ i2) → ¬ (40 ≤ i2) → vp_in i2 n_ba1_3)
    (h19 : ar M ba0_3 1 n_ba0_3)
    (h20 : ¬ ((mi M a0 0) ≤ i2) → ¬ (40 ≤ i2) → vp_in i2 n_ba0_3)
    (h21 : mr M a0 4 = some ba0_4)
    (h22 : mr M a1 4 = some ba1_4)
    (h23 : ar M ba1_4 1 n_ba1_4)
    (h24 : ¬ ((mi M a0 0) ≤ i2) → ¬ (40 ≤ i2) → vp_in i2 n_ba1_4)
    (h25 : ar M ba0_4 1 n_ba0_4)
    (h26 : ¬ ((mi M a0 0) ≤ i2) → ¬ (40 ≤ i2) → vp_in i2 n_ba0_4)
    (k1 : (mi M a0 0) ≤ i2 → P none M)
    (k2 : ¬ ((mi M a0 0) ≤ i2) → 40 ≤ i2 → P none M)
    (k3 : ¬ ((mi M a0 0) ≤ i2) → ¬ (40 ≤ i2) → E0 g YX5_copy d 10 [(0, .ref a0), (1, .ref a1), (2, .int (i2 + 1))] [] M4 P) :
    E0 g YX5_copy d 10 [(0, .ref a0), (1, .ref a1), (2, .int i2)] [] M P := by
  subst qM1 qM2 qM3 qM4
  refine x_iload_n dX5_copy_10 2 rfl ?_
  refine x_aload_n dX5_copy_11 0 rfl ?_
  refine x_getI fdX5_24 rfl dX5_copy_12 h1.1 h1.2 ?_
  refine x_ic_ge 78 dX5_copy_15 (by decide) (fun c1 => ?_) (fun c1 => ?_)
  · exact x_vret rfl dX5_copy_78 (Nat.le_refl _) (Nat.le_refl _) (k1 c1)
  · refine x_iload_n dX5_copy_18 2 rfl ?_
    refine x_bipush (v := 40) dX5_copy_19 (by decide) ?_
    refine x_ic_ge 78 dX5_copy_21 (by decide) (fun c2 => ?_) (fun c2 => ?_)
    · exact x_vret rfl dX5_copy_78 (Nat.le_refl _) (Nat.le_refl _) (k2 c1 c2)
    · refine x_aload_n dX5_copy_24 0 rfl ?_
      refine x_getR fdX5_9 rfl dX5_copy_25 h1.1 h1.2 h2 ?_
      refine x_iload_n dX5_copy_28 2 rfl ?_
      refine x_aload_n dX5_copy_29 1 rfl ?_
      refine x_getR fdX5_9 rfl dX5_copy_30 h3.1 h3.2 h4 ?_
      refine x_iload_n dX5_copy_33 2 rfl ?_
      refine x_iald dX5_copy_34 h5.1 h5.2 (h6 c1 c2) ?_
      refine x_iast dX5_copy_35 h7.1 h7.2 (h8 c1 c2) ?_
      refine x_aload_n dX5_copy_36 0 rfl ?_
      refine x_getR fdX5_15 rfl dX5_copy_37 h1.1 h1.2 h9 ?_
      refine x_iload_n dX5_copy_40 2 rfl ?_
      refine x_aload_n dX5_copy_41 1 rfl ?_
      refine x_getR fdX5_15 rfl dX5_copy_42 h3.1 h3.2 h10 ?_
      refine x_iload_n dX5_copy_45 2 rfl ?_
      refine x_iald dX5_copy_46 h11.1 h11.2 (h12 c1 c2) ?_
      refine x_iast dX5_copy_47 h13.1 h13.2 (h14 c1 c2) ?_
      refine x_aload_n dX5_copy_48 0 rfl ?_
      refine x_getR fdX5_18 rfl dX5_copy_49 h1.1 h1.2 h15 ?_
      refine x_iload_n dX5_copy_52 2 rfl ?_
      refine x_aload_n dX5_copy_53 1 rfl ?_
      refine x_getR fdX5_18 rfl dX5_copy_54 h3.1 h3.2 h16 ?_
      refine x_iload_n dX5_copy_57 2 rfl ?_
      refine x_iald dX5_copy_58 h17.1 h17.2 (h18 c1 c2) ?_
      refine x_iast dX5_copy_59 h19.1 h19.2 (h20 c1 c2) ?_
      refine x_aload_n dX5_copy_60 0 rfl ?_
      refine x_getR fdX5_21 rfl dX5_copy_61 h1.1 h1.2 h21 ?_
      refine x_iload_n dX5_copy_64 2 rfl ?_
      refine x_aload_n dX5_copy_65 1 rfl ?_
      refine x_getR fdX5_21 rfl dX5_copy_66 h3.1 h3.2 h22 ?_
      refine x_iload_n dX5_copy_69 2 rfl ?_
      refine x_iald dX5_copy_70 h23.1 h23.2 (h24 c1 c2) ?_
      refine x_iast dX5_copy_71 h25.1 h25.2 (h26 c1 c2) ?_
      refine x_iinc (v := (i2 + 1)) (lv1 := [(2, .int (i2 + 1)), (0, .ref a0), (1, .ref a1)]) dX5_copy_72 2 rfl rfl (by decide) rfl ?_
      refine x_goto 10 dX5_copy_75 (by decide) ?_
      exact EX.sub [1, 2, 0] (k3 c1 c2) rfl
set_option maxRecDepth 8000 in
theorem kX5_isPossible_0 {g : GG} {d : Nat} {M : MM} {P : Option Value → MM → Prop} {a0 : Nat} {i1 : Int32} {a2 : Nat} {a3 : Nat} {ba0_1 : Nat} {n_ba0_1 : Nat} {ba0_2 : Nat} {n_ba0_2 : Nat} {ba0_4 : Nat} {n_ba0_4 : Nat}
    (h1 : ob M a0 5)
    (h2 : mr M a0 1 = some ba0_1)
    (h3 : ar M ba0_1 1 n_ba0_1)
    (h4 : ¬ (i1 < 0) → i1 < (mi M a0 0) → vp_in i1 n_ba0_1)
    (h5 : ob M a2 0)
    (h6 : mr M a0 2 = some ba0_2)
    (h7 : ar M ba0_2 1 n_ba0_2)
    (h8 : ¬ (i1 < 0) → i1 < (mi M a0 0) → ¬ ((mi M ba0_1 (i1 : Int32).toNatClampNeg) : Int32).toInt = 0 ∧ ¬ ((mi M ba0_1 (i1 : Int32).toNatClampNeg) : Int32).toInt = 3 → vp_in i1 n_ba0_2)
    (h9 : mr M a0 4 = some ba0_4)
    (h10 : ar M ba0_4 1 n_ba0_4)
    (h11 : ¬ (i1 < 0) → i1 < (mi M a0 0) → ¬ ((mi M ba0_1 (i1 : Int32).toNatClampNeg) : Int32).toInt = 0 ∧ ¬ ((mi M ba0_1 (i1 : Int32).toNatClampNeg) : Int32).toInt = 3 → vp_in i1 n_ba0_4)
    (h12 : ob M a3 10)
    (k1 : i1 < 0 → P (some (.int 0)) M)
    (k2 : ¬ (i1 < 0) → i1 < (mi M a0 0) → ((mi M ba0_1 (i1 : Int32).toNatClampNeg) : Int32).toInt = 0 → (mi M a2 5) ≤ 0 → P (some (.int 0)) M)
    (k3 : ¬ (i1 < 0) → i1 < (mi M a0 0) → ((mi M ba0_1 (i1 : Int32).toNatClampNeg) : Int32).toInt = 0 → ¬ ((mi M a2 5) ≤ 0) → P (some (.int 1)) M)
    (k4 : ¬ (i1 < 0) → i1 < (mi M a0 0) → ((mi M ba0_1 (i1 : Int32).toNatClampNeg) : Int32).toInt = 3 → P (some (.int 1)) M)
    (k5 : ¬ (i1 < 0) → i1 < (mi M a0 0) → ¬ ((mi M ba0_1 (i1 : Int32).toNatClampNeg) : Int32).toInt = 0 ∧ ¬ ((mi M ba0_1 (i1 : Int32).toNatClampNeg) : Int32).toInt = 3 → K0 g YX5_isPossible YX10_holds d 79 [.ref a3, .int (mi M ba0_2 (i1 : Int32).toNatClampNeg), .int (mi M ba0_4 (i1 : Int32).toNatClampNeg)] [] [] M P)
    (k6 : ¬ (i1 < 0) → ¬ (i1 < (mi M a0 0)) → P (some (.int 0)) M) :
    E0 g YX5_isPossible d 0 [(0, .ref a0), (1, .int i1), (2, .ref a2), (3, .ref a3)] [] M P := by
  refine x_iload_n dX5_isPossible_0 1 rfl ?_
  refine x_if_lt 12 dX5_isPossible_1 (by decide) (fun c1 => ?_) (fun c1 => ?_)
  · refine x_iconst (v := 0) dX5_isPossible_12 (by decide) ?_
    exact x_zret rfl dX5_isPossible_13 rfl (Nat.le_refl _) (Nat.le_refl _) (k1 c1)
  · refine x_iload_n dX5_isPossible_4 1 rfl ?_
    refine x_aload_n dX5_isPossible_5 0 rfl ?_
    refine x_getI fdX5_24 rfl dX5_isPossible_6 h1.1 h1.2 ?_
    refine x_ic_lt 14 dX5_isPossible_9 (by decide) (fun c2 => ?_) (fun c2 => ?_)
    · refine x_aload_n dX5_isPossible_14 0 rfl ?_
      refine x_getR fdX5_9 rfl dX5_isPossible_15 h1.1 h1.2 h2 ?_
      refine x_iload_n dX5_isPossible_18 1 rfl ?_
      refine x_iald dX5_isPossible_19 h3.1 h3.2 (h4 c1 c2) ?_
      by_cases c3_0 : ((mi M ba0_1 (i1 : Int32).toNatClampNeg) : Int32).toInt = 0
      · have c3 := c3_0
        refine x_look 48 dX5_isPossible_20 rfl (by rw [c3]; rfl) ?_
        refine x_aload_n dX5_isPossible_48 2 rfl ?_
        refine x_getI fdX5_28 rfl dX5_isPossible_49 h5.1 h5.2 ?_
        refine x_if_le 59 dX5_isPossible_52 (by decide) (fun c4 => ?_) (fun c4 => ?_)
        · refine x_iconst (v := 0) dX5_isPossible_59 (by decide) ?_
          exact x_zret rfl dX5_isPossible_60 rfl (Nat.le_refl _) (Nat.le_refl _) (k2 c1 c2 c3 c4)
        · refine x_iconst (v := 1) dX5_isPossible_55 (by decide) ?_
          refine x_goto 60 dX5_isPossible_56 (by decide) ?_
          exact x_zret rfl dX5_isPossible_60 rfl (Nat.le_refl _) (Nat.le_refl _) (k3 c1 c2 c3 c4)
      · skip
        by_cases c3_1 : ((mi M ba0_1 (i1 : Int32).toNatClampNeg) : Int32).toInt = 3
        · have c3 := c3_1
          refine x_look 61 dX5_isPossible_20 rfl (by rw [c3]; rfl) ?_
          refine x_iconst (v := 1) dX5_isPossible_61 (by decide) ?_
          exact x_zret rfl dX5_isPossible_62 rfl (Nat.le_refl _) (Nat.le_refl _) (k4 c1 c2 c3)
        · skip
          have c3 : ¬ ((mi M ba0_1 (i1 : Int32).toNatClampNeg) : Int32).toInt = 0 ∧ ¬ ((mi M ba0_1 (i1 : Int32).toNatClampNeg) : Int32).toInt = 3 := ⟨c3_0, c3_1⟩
          refine x_look 63 dX5_isPossible_20 rfl (by simp [Op.lookupswitch.offset, c3_0, Ne.symm c3_0, c3_1, Ne.symm c3_1]) ?_
          refine x_aload_n dX5_isPossible_63 3 rfl ?_
          refine x_aload_n dX5_isPossible_64 0 rfl ?_
          refine x_getR fdX5_15 rfl dX5_isPossible_65 h1.1 h1.2 h6 ?_
          refine x_iload_n dX5_isPossible_68 1 rfl ?_
          refine x_iald dX5_isPossible_69 h7.1 h7.2 (h8 c1 c2 c3) ?_
          refine x_aload_n dX5_isPossible_70 0 rfl ?_
          refine x_getR fdX5_21 rfl dX5_isPossible_71 h1.1 h1.2 h9 ?_
          refine x_iload_n dX5_isPossible_74 1 rfl ?_
          refine x_iald dX5_isPossible_75 h10.1 h10.2 (h11 c1 c2 c3) ?_
          refine EX.sub [] (K0.v (As := [.int (mi M ba0_2 (i1 : Int32).toNatClampNeg), .int (mi M ba0_4 (i1 : Int32).toNatClampNeg)]) (st := []) cvX5_33 dX5_isPossible_76 rfl rfl h12 rfl (Nat.le_of_ble_eq_true rfl) (k5 c1 c2 c3)) rfl
    · refine x_iconst (v := 0) dX5_isPossible_12 (by decide) ?_
      exact x_zret rfl dX5_isPossible_13 rfl (Nat.le_refl _) (Nat.le_refl _) (k6 c1 c2)
set_option maxRecDepth 8000 in
theorem kX5_isPossible_79 {g : GG} {d : Nat} {M : MM} {P : Option Value → MM → Prop} {s0 : Int32}
    (h1 : s0 &&& 1 = s0)
    (k1 : P (some (.int s0)) M) :
    E0 g YX5_isPossible d 79 [] [.int s0] M P := by
  exact x_zret rfl dX5_isPossible_79 (h1) (Nat.le_refl _) (Nat.le_refl _) (k1)
set_option maxRecDepth 8000 in
theorem kX5_follow_0 {g : GG} {d : Nat} {M : MM} {P : Option Value → MM → Prop} {a0 : Nat} {i1 : Int32} {a2 : Nat} {a3 : Nat} {ba0_1 : Nat} {n_ba0_1 : Nat} {ba0_2 : Nat} {n_ba0_2 : Nat} {ba0_4 : Nat} {n_ba0_4 : Nat} {ba0_3 : Nat} {n_ba0_3 : Nat}
    (h1 : ob M a0 5)
    (h2 : mr M a0 1 = some ba0_1)
    (h3 : ar M ba0_1 1 n_ba0_1)
    (h4 : ¬ (i1 < 0) → i1 < (mi M a0 0) → vp_in i1 n_ba0_1)
    (h5 : ob M a3 10)
    (h6 : mr M a0 2 = some ba0_2)
    (h7 : ar M ba0_2 1 n_ba0_2)
    (h8 : ¬ (i1 < 0) → i1 < (mi M a0 0) → ((mi M ba0_1 (i1 : Int32).toNatClampNeg) : Int32).toInt = 1 → vp_in i1 n_ba0_2)
    (h9 : mr M a0 4 = some ba0_4)
    (h10 : ar M ba0_4 1 n_ba0_4)
    (h11 : ¬ (i1 < 0) → i1 < (mi M a0 0) → ((mi M ba0_1 (i1 : Int32).toNatClampNeg) : Int32).toInt = 1 → vp_in i1 n_ba0_4)
    (h12 : ¬ (i1 < 0) → i1 < (mi M a0 0) → ((mi M ba0_1 (i1 : Int32).toNatClampNeg) : Int32).toInt = 2 → vp_in i1 n_ba0_2)
    (h13 : mr M a0 3 = some ba0_3)
    (h14 : ar M ba0_3 1 n_ba0_3)
    (h15 : ¬ (i1 < 0) → i1 < (mi M a0 0) → ((mi M ba0_1 (i1 : Int32).toNatClampNeg) : Int32).toInt = 2 → vp_in i1 n_ba0_3)
    (h16 : ¬ (i1 < 0) → i1 < (mi M a0 0) → ((mi M ba0_1 (i1 : Int32).toNatClampNeg) : Int32).toInt = 2 → vp_in i1 n_ba0_4)
    (k1 : i1 < 0 → P none M)
    (k2 : ¬ (i1 < 0) → i1 < (mi M a0 0) → ((mi M ba0_1 (i1 : Int32).toNatClampNeg) : Int32).toInt < 0 ∨ 2 < ((mi M ba0_1 (i1 : Int32).toNatClampNeg) : Int32).toInt → K0 g YX5_follow YX10_turnRound d 101 [.ref a3] [] [] M P)
    (k3 : ¬ (i1 < 0) → i1 < (mi M a0 0) → ((mi M ba0_1 (i1 : Int32).toNatClampNeg) : Int32).toInt = 0 → K0 g YX5_follow YX10_showNext d 49 [.ref a3, .ref a2] [] [] M P)
    (k4 : ¬ (i1 < 0) → i1 < (mi M a0 0) → ((mi M ba0_1 (i1 : Int32).toNatClampNeg) : Int32).toInt = 1 → K0 g YX5_follow YX10_giveBack d 69 [.ref a3, .int (mi M ba0_2 (i1 : Int32).toNatClampNeg), .int (mi M ba0_4 (i1 : Int32).toNatClampNeg)] [] [] M P)
    (k5 : ¬ (i1 < 0) → i1 < (mi M a0 0) → ((mi M ba0_1 (i1 : Int32).toNatClampNeg) : Int32).toInt = 2 → K0 g YX5_follow YX10_handOver d 94 [.ref a3, .int (mi M ba0_2 (i1 : Int32).toNatClampNeg), .int (mi M ba0_3 (i1 : Int32).toNatClampNeg), .int (mi M ba0_4 (i1 : Int32).toNatClampNeg)] [] [] M P)
    (k6 : ¬ (i1 < 0) → ¬ (i1 < (mi M a0 0)) → P none M) :
    E0 g YX5_follow d 0 [(0, .ref a0), (1, .int i1), (2, .ref a2), (3, .ref a3)] [] M P := by
  refine x_iload_n dX5_follow_0 1 rfl ?_
  refine x_if_lt 12 dX5_follow_1 (by decide) (fun c1 => ?_) (fun c1 => ?_)
  · exact x_vret rfl dX5_follow_12 (Nat.le_refl _) (Nat.le_refl _) (k1 c1)
  · refine x_iload_n dX5_follow_4 1 rfl ?_
    refine x_aload_n dX5_follow_5 0 rfl ?_
    refine x_getI fdX5_24 rfl dX5_follow_6 h1.1 h1.2 ?_
    refine x_ic_lt 13 dX5_follow_9 (by decide) (fun c2 => ?_) (fun c2 => ?_)
    · refine x_aload_n dX5_follow_13 0 rfl ?_
      refine x_getR fdX5_9 rfl dX5_follow_14 h1.1 h1.2 h2 ?_
      refine x_iload_n dX5_follow_17 1 rfl ?_
      refine x_iald dX5_follow_18 h3.1 h3.2 (h4 c1 c2) ?_
      by_cases c3 : ((mi M ba0_1 (i1 : Int32).toNatClampNeg) : Int32).toInt < 0 ∨ 2 < ((mi M ba0_1 (i1 : Int32).toNatClampNeg) : Int32).toInt
      · refine x_tabOut 97 dX5_follow_19 c3 (by decide) ?_
        refine x_aload_n dX5_follow_97 3 rfl ?_
        refine EX.sub [] (K0.v (As := []) (st := []) cvX5_51 dX5_follow_98 rfl rfl h5 rfl (Nat.le_of_ble_eq_true rfl) (k2 c1 c2 c3)) rfl
      · have qc3 : ((mi M ba0_1 (i1 : Int32).toNatClampNeg) : Int32).toInt = 0 ∨ ((mi M ba0_1 (i1 : Int32).toNatClampNeg) : Int32).toInt = 1 ∨ ((mi M ba0_1 (i1 : Int32).toNatClampNeg) : Int32).toInt = 2 := by omega
        clear c3
        rcases qc3 with c3 | c3 | c3
        · refine x_tabIn 44 dX5_follow_19 (by omega) (by omega) (off := 25) (by rw [show (((mi M ba0_1 (i1 : Int32).toNatClampNeg) : Int32).toInt - 0).toNat = 0 by omega]; rfl) (by decide) ?_
          refine x_aload_n dX5_follow_44 3 rfl ?_
          refine x_aload_n dX5_follow_45 2 rfl ?_
          refine EX.sub [] (K0.v (As := [.ref a2]) (st := []) cvX5_39 dX5_follow_46 rfl rfl h5 rfl (Nat.le_of_ble_eq_true rfl) (k3 c1 c2 c3)) rfl
        · refine x_tabIn 53 dX5_follow_19 (by omega) (by omega) (off := 34) (by rw [show (((mi M ba0_1 (i1 : Int32).toNatClampNeg) : Int32).toInt - 0).toNat = 1 by omega]; rfl) (by decide) ?_
          refine x_aload_n dX5_follow_53 3 rfl ?_
          refine x_aload_n dX5_follow_54 0 rfl ?_
          refine x_getR fdX5_15 rfl dX5_follow_55 h1.1 h1.2 h6 ?_
          refine x_iload_n dX5_follow_58 1 rfl ?_
          refine x_iald dX5_follow_59 h7.1 h7.2 (h8 c1 c2 c3) ?_
          refine x_aload_n dX5_follow_60 0 rfl ?_
          refine x_getR fdX5_21 rfl dX5_follow_61 h1.1 h1.2 h9 ?_
          refine x_iload_n dX5_follow_64 1 rfl ?_
          refine x_iald dX5_follow_65 h10.1 h10.2 (h11 c1 c2 c3) ?_
          refine EX.sub [] (K0.v (As := [.int (mi M ba0_2 (i1 : Int32).toNatClampNeg), .int (mi M ba0_4 (i1 : Int32).toNatClampNeg)]) (st := []) cvX5_43 dX5_follow_66 rfl rfl h5 rfl (Nat.le_of_ble_eq_true rfl) (k4 c1 c2 c3)) rfl
        · refine x_tabIn 72 dX5_follow_19 (by omega) (by omega) (off := 53) (by rw [show (((mi M ba0_1 (i1 : Int32).toNatClampNeg) : Int32).toInt - 0).toNat = 2 by omega]; rfl) (by decide) ?_
          refine x_aload_n dX5_follow_72 3 rfl ?_
          refine x_aload_n dX5_follow_73 0 rfl ?_
          refine x_getR fdX5_15 rfl dX5_follow_74 h1.1 h1.2 h6 ?_
          refine x_iload_n dX5_follow_77 1 rfl ?_
          refine x_iald dX5_follow_78 h7.1 h7.2 (h12 c1 c2 c3) ?_
          refine x_aload_n dX5_follow_79 0 rfl ?_
          refine x_getR fdX5_18 rfl dX5_follow_80 h1.1 h1.2 h13 ?_
          refine x_iload_n dX5_follow_83 1 rfl ?_
          refine x_iald dX5_follow_84 h14.1 h14.2 (h15 c1 c2 c3) ?_
          refine x_aload_n dX5_follow_85 0 rfl ?_
          refine x_getR fdX5_21 rfl dX5_follow_86 h1.1 h1.2 h9 ?_
          refine x_iload_n dX5_follow_89 1 rfl ?_
          refine x_iald dX5_follow_90 h10.1 h10.2 (h16 c1 c2 c3) ?_
          refine EX.sub [] (K0.v (As := [.int (mi M ba0_2 (i1 : Int32).toNatClampNeg), .int (mi M ba0_3 (i1 : Int32).toNatClampNeg), .int (mi M ba0_4 (i1 : Int32).toNatClampNeg)]) (st := []) cvX5_47 dX5_follow_91 rfl rfl h5 rfl (Nat.le_of_ble_eq_true rfl) (k5 c1 c2 c3)) rfl
    · exact x_vret rfl dX5_follow_12 (Nat.le_refl _) (Nat.le_refl _) (k6 c1 c2)
set_option maxRecDepth 8000 in
theorem kX5_follow_49 {g : GG} {d : Nat} {M : MM} {P : Option Value → MM → Prop} {s0 : Int32}
    (k1 : E0 g YX5_follow d 101 [] [] M P) :
    E0 g YX5_follow d 49 [] [.int s0] M P := by
  refine x_pop dX5_follow_49 rfl ?_
  refine x_goto 101 dX5_follow_50 (by decide) ?_
  exact EX.sub [] k1 rfl
set_option maxRecDepth 8000 in
theorem kX5_follow_69 {g : GG} {d : Nat} {M : MM} {P : Option Value → MM → Prop} 
    (k1 : E0 g YX5_follow d 101 [] [] M P) :
    E0 g YX5_follow d 69 [] [] M P := by
  refine x_goto 101 dX5_follow_69 (by decide) ?_
  exact EX.sub [] k1 rfl
set_option maxRecDepth 8000 in
theorem kX5_follow_94 {g : GG} {d : Nat} {M : MM} {P : Option Value → MM → Prop} 
    (k1 : E0 g YX5_follow d 101 [] [] M P) :
    E0 g YX5_follow d 94 [] [] M P := by
  refine x_goto 101 dX5_follow_94 (by decide) ?_
  exact EX.sub [] k1 rfl
set_option maxRecDepth 8000 in
theorem kX5_follow_101 {g : GG} {d : Nat} {M : MM} {P : Option Value → MM → Prop} 
    (k1 : P none M) :
    E0 g YX5_follow d 101 [] [] M P := by
  exact x_vret rfl dX5_follow_101 (Nat.le_refl _) (Nat.le_refl _) (k1)
