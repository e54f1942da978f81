set_option maxRecDepth 8000 in
theorem qX0_clear_0 {g : GG} {d : Nat} {M : MM} {P : Option Value → MM → Prop} {a0 : Nat} {M1 : MM} {M2 : MM} {M3 : MM} (C0 : Cty M a0)
    (qM1 : M1 = wi M a0 0 0)
    (qM2 : M2 = wi M1 a0 5 0)
    (qM3 : M3 = wi M2 (a0 + 7) 1 0)
    (k1 : P none M3) :
    E0 g YX0_clear d 0 [(0, .ref a0)] [] M P := by
  have f1 : ob M a0 0 := C0.o
  have f2 : mr M a0 8 = some (a0 + 7) := C0.r8
  have f3 : ob M (a0 + 7) 2 := C0.a8.o
  subst qM1 qM2 qM3
  refine x_aload_n dX0_clear_0 0 rfl ?_
  refine x_iconst (v := 0) dX0_clear_1 (by decide) ?_
  refine x_putI fdX0_41 rfl (Or.inl rfl) dX0_clear_2 f1.1 f1.2 rfl rfl ?_
  refine x_aload_n dX0_clear_5 0 rfl ?_
  refine x_iconst (v := 0) dX0_clear_6 (by decide) ?_
  refine x_putI fdX0_45 rfl (Or.inl rfl) dX0_clear_7 f1.1 f1.2 rfl rfl ?_
  refine x_aload_n dX0_clear_10 0 rfl ?_
  refine x_getR fdX0_34 rfl dX0_clear_11 f1.1 f1.2 f2 ?_
  refine x_iconst (v := 0) dX0_clear_14 (by decide) ?_
  refine x_putI fdX0_48 rfl (Or.inl rfl) dX0_clear_15 f3.1 f3.2 rfl rfl ?_
  exact x_vret rfl dX0_clear_18 (Nat.le_refl _) (Nat.le_refl _) (k1)
set_option maxRecDepth 8000 in
theorem qX0_addShot_0 {g : GG} {d : Nat} {M : MM} {P : Option Value → MM → Prop} {a0 : Nat} {j1 : Int64} {i3 : Int32} {i4 : Int32} {M1 : MM} {M2 : MM} {M3 : MM} {M4 : MM} {M5 : MM} (C0 : Cty M a0)
    (qM1 : M1 = wj M (a0 + 1) ((mi M a0 0) : Int32).toNatClampNeg j1)
    (qM2 : M2 = wi M1 (a0 + 2) ((mi M a0 0) : Int32).toNatClampNeg i3)
    (qM3 : M3 = wi M2 (a0 + 3) ((mi M2 a0 0) : Int32).toNatClampNeg i4)
    (qM4 : M4 = wi M3 (a0 + 4) ((mi M3 a0 0) : Int32).toNatClampNeg 0)
    (qM5 : M5 = wi M4 a0 0 ((mi M4 a0 0) + 1))
    (h1 : ¬ (10 ≤ (mi M a0 0)) → vp_in (mi M a0 0) 10)
    (h2 : ¬ (10 ≤ (mi M a0 0)) → vp_in (mi M a0 0) 10)
    (h3 : ¬ (10 ≤ (mi M a0 0)) → vp_in (mi M2 a0 0) 10)
    (h4 : ¬ (10 ≤ (mi M a0 0)) → vp_in (mi M3 a0 0) 10)
    (k1 : 10 ≤ (mi M a0 0) → P none M)
    (k2 : ¬ (10 ≤ (mi M a0 0)) → P none M5) :
    E0 g YX0_addShot d 0 [(0, .ref a0), (1, .long j1), (3, .int i3), (4, .int i4)] [] M P := by
  have f1 : ob M a0 0 := C0.o
  have f2 : mr M a0 1 = some (a0 + 1) := C0.r1
  have f3 : ar M (a0 + 1) 2 10 := C0.a1
  have f4 : mr M a0 2 = some (a0 + 2) := C0.r2
  have f5 : ar M (a0 + 2) 1 10 := C0.a2
  have f6 : mr M a0 3 = some (a0 + 3) := C0.r3
  have f7 : ar M (a0 + 3) 1 10 := C0.a3
  have f8 : mr M a0 4 = some (a0 + 4) := C0.r4
  have f9 : ar M (a0 + 4) 1 10 := C0.a4
  subst qM1 qM2 qM3 qM4 qM5
  refine x_aload_n dX0_addShot_0 0 rfl ?_
  refine x_getI fdX0_41 rfl dX0_addShot_1 f1.1 f1.2 ?_
  refine x_bipush (v := 10) dX0_addShot_4 (by decide) ?_
  refine x_ic_ge 60 dX0_addShot_6 (by decide) (fun c1 => ?_) (fun c1 => ?_)
  · exact x_vret rfl dX0_addShot_60 (Nat.le_refl _) (Nat.le_refl _) (k1 c1)
  · refine x_aload_n dX0_addShot_9 0 rfl ?_
    refine x_getR fdX0_9 rfl dX0_addShot_10 f1.1 f1.2 f2 ?_
    refine x_aload_n dX0_addShot_13 0 rfl ?_
    refine x_getI fdX0_41 rfl dX0_addShot_14 f1.1 f1.2 ?_
    refine x_lload_n dX0_addShot_17 1 rfl ?_
    refine x_last dX0_addShot_18 f3.1 f3.2 (h1 c1) ?_
    refine x_aload_n dX0_addShot_19 0 rfl ?_
    refine x_getR fdX0_15 rfl dX0_addShot_20 f1.1 f1.2 f4 ?_
    refine x_aload_n dX0_addShot_23 0 rfl ?_
    refine x_getI fdX0_41 rfl dX0_addShot_24 f1.1 f1.2 ?_
    refine x_iload_n dX0_addShot_27 2 rfl ?_
    refine x_iast dX0_addShot_28 f5.1 f5.2 (h2 c1) ?_
    refine x_aload_n dX0_addShot_29 0 rfl ?_
    refine x_getR fdX0_19 rfl dX0_addShot_30 f1.1 f1.2 f6 ?_
    refine x_aload_n dX0_addShot_33 0 rfl ?_
    refine x_getI fdX0_41 rfl dX0_addShot_34 f1.1 f1.2 ?_
    refine x_iload dX0_addShot_37 3 rfl ?_
    refine x_iast dX0_addShot_39 f7.1 f7.2 (h3 c1) ?_
    refine x_aload_n dX0_addShot_40 0 rfl ?_
    refine x_getR fdX0_22 rfl dX0_addShot_41 f1.1 f1.2 f8 ?_
    refine x_aload_n dX0_addShot_44 0 rfl ?_
    refine x_getI fdX0_41 rfl dX0_addShot_45 f1.1 f1.2 ?_
    refine x_iconst (v := 0) dX0_addShot_48 (by decide) ?_
    refine x_iast dX0_addShot_49 f9.1 f9.2 (h4 c1) ?_
    refine x_aload_n dX0_addShot_50 0 rfl ?_
    refine x_dup dX0_addShot_51 rfl ?_
    refine x_getI fdX0_41 rfl dX0_addShot_52 f1.1 f1.2 ?_
    refine x_iconst (v := 1) dX0_addShot_55 (by decide) ?_
    refine x_iadd dX0_addShot_56 ?_
    refine x_putI fdX0_41 rfl (Or.inl rfl) dX0_addShot_57 f1.1 f1.2 rfl rfl ?_
    exact x_vret rfl dX0_addShot_60 (Nat.le_refl _) (Nat.le_refl _) (k2 c1)
set_option maxRecDepth 8000 in
theorem qX0_addNeed_0 {g : GG} {d : Nat} {M : MM} {P : Option Value → MM → Prop} {a0 : Nat} {i1 : Int32} {i2 : Int32} (C0 : Cty M a0)
    (k1 : K0 g YX0_addNeed YX0_isShot d 5 [.ref a0, .int i1] [(0, .ref a0), (1, .int i1), (2, .int i2)] [] M P) :
    E0 g YX0_addNeed d 0 [(0, .ref a0), (1, .int i1), (2, .int i2)] [] M P := by
  have f1 : ob M a0 0 := C0.o
  refine x_aload_n dX0_addNeed_0 0 rfl ?_
  refine x_iload_n dX0_addNeed_1 1 rfl ?_
  refine EX.sub [0, 1, 2] (K0.v (As := [.int i1]) (st := []) cvX0_51 dX0_addNeed_2 rfl rfl f1 rfl (Nat.le_of_ble_eq_true rfl) (k1)) rfl
set_option maxRecDepth 8000 in
theorem qX0_addNeed_5 {g : GG} {d : Nat} {M : MM} {P : Option Value → MM → Prop} {a0 : Nat} {i1 : Int32} {i2 : Int32} {s0 : Int32} {M1 : MM} (C0 : Cty M a0)
    (qM1 : M1 = wi M (a0 + 4) (i1 : Int32).toNatClampNeg ((mi M (a0 + 4) (i1 : Int32).toNatClampNeg) ||| ((1 : Int32) <<< (i2 &&& 31))))
    (h1 : ¬ (s0 = 0) → vp_in i1 10)
    (k1 : s0 = 0 → P none M)
    (k2 : ¬ (s0 = 0) → P none M1) :
    E0 g YX0_addNeed d 5 [(0, .ref a0), (1, .int i1), (2, .int i2)] [.int s0] M P := by
  have f1 : ob M a0 0 := C0.o
  have f2 : mr M a0 4 = some (a0 + 4) := C0.r4
  have f3 : ar M (a0 + 4) 1 10 := C0.a4
  subst qM1
  refine x_if_eq 20 dX0_addNeed_5 (by decide) (fun c1 => ?_) (fun c1 => ?_)
  · exact x_vret rfl dX0_addNeed_20 (Nat.le_refl _) (Nat.le_refl _) (k1 c1)
  · refine x_aload_n dX0_addNeed_8 0 rfl ?_
    refine x_getR fdX0_22 rfl dX0_addNeed_9 f1.1 f1.2 f2 ?_
    refine x_iload_n dX0_addNeed_12 1 rfl ?_
    refine x_dup2 dX0_addNeed_13 rfl rfl ?_
    refine x_iald dX0_addNeed_14 f3.1 f3.2 (h1 c1) ?_
    refine x_iconst (v := 1) dX0_addNeed_15 (by decide) ?_
    refine x_iload_n dX0_addNeed_16 2 rfl ?_
    refine x_ishl dX0_addNeed_17 ?_
    refine x_ior dX0_addNeed_18 ?_
    refine x_iast dX0_addNeed_19 f3.1 f3.2 (h1 c1) ?_
    exact x_vret rfl dX0_addNeed_20 (Nat.le_refl _) (Nat.le_refl _) (k2 c1)
set_option maxRecDepth 8000 in
theorem qX0_addHall_0 {g : GG} {d : Nat} {M : MM} {P : Option Value → MM → Prop} {a0 : Nat} {j1 : Int64} {i3 : Int32} {M1 : MM} {M2 : MM} {M3 : MM} {M4 : MM} (C0 : Cty M a0)
    (qM1 : M1 = wj M (a0 + 5) ((mi M a0 5) : Int32).toNatClampNeg j1)
    (qM2 : M2 = wi M1 (a0 + 6) ((mi M a0 5) : Int32).toNatClampNeg i3)
    (qM3 : M3 = wi M2 ((a0 + 7) + 2) ((mi M2 a0 5) : Int32).toNatClampNeg (mi M2 (a0 + 7) 1))
    (qM4 : M4 = wi M3 a0 5 ((mi M3 a0 5) + 1))
    (h1 : ¬ (6 ≤ (mi M a0 5)) → vp_in (mi M a0 5) 6)
    (h2 : ¬ (6 ≤ (mi M a0 5)) → vp_in (mi M a0 5) 6)
    (h3 : ¬ (6 ≤ (mi M a0 5)) → vp_in (mi M2 a0 5) 6)
    (k1 : 6 ≤ (mi M a0 5) → P none M)
    (k2 : ¬ (6 ≤ (mi M a0 5)) → P none M4) :
    E0 g YX0_addHall d 0 [(0, .ref a0), (1, .long j1), (3, .int i3)] [] M P := by
  have f1 : ob M a0 0 := C0.o
  have f2 : mr M a0 6 = some (a0 + 5) := C0.r6
  have f3 : ar M (a0 + 5) 2 6 := C0.a6
  have f4 : mr M a0 7 = some (a0 + 6) := C0.r7
  have f5 : ar M (a0 + 6) 1 6 := C0.a7
  have f6 : mr M a0 8 = some (a0 + 7) := C0.r8
  have f7 : ob M (a0 + 7) 2 := C0.a8.o
  have f8 : mr M (a0 + 7) 2 = some ((a0 + 7) + 2) := C0.a8.r2
  have f9 : ar M ((a0 + 7) + 2) 1 6 := C0.a8.a2
  subst qM1 qM2 qM3 qM4
  refine x_aload_n dX0_addHall_0 0 rfl ?_
  refine x_getI fdX0_45 rfl dX0_addHall_1 f1.1 f1.2 ?_
  refine x_bipush (v := 6) dX0_addHall_4 (by decide) ?_
  refine x_ic_ge 58 dX0_addHall_6 (by decide) (fun c1 => ?_) (fun c1 => ?_)
  · exact x_vret rfl dX0_addHall_58 (Nat.le_refl _) (Nat.le_refl _) (k1 c1)
  · refine x_aload_n dX0_addHall_9 0 rfl ?_
    refine x_getR fdX0_25 rfl dX0_addHall_10 f1.1 f1.2 f2 ?_
    refine x_aload_n dX0_addHall_13 0 rfl ?_
    refine x_getI fdX0_45 rfl dX0_addHall_14 f1.1 f1.2 ?_
    refine x_lload_n dX0_addHall_17 1 rfl ?_
    refine x_last dX0_addHall_18 f3.1 f3.2 (h1 c1) ?_
    refine x_aload_n dX0_addHall_19 0 rfl ?_
    refine x_getR fdX0_28 rfl dX0_addHall_20 f1.1 f1.2 f4 ?_
    refine x_aload_n dX0_addHall_23 0 rfl ?_
    refine x_getI fdX0_45 rfl dX0_addHall_24 f1.1 f1.2 ?_
    refine x_iload_n dX0_addHall_27 2 rfl ?_
    refine x_iast dX0_addHall_28 f5.1 f5.2 (h2 c1) ?_
    refine x_aload_n dX0_addHall_29 0 rfl ?_
    refine x_getR fdX0_34 rfl dX0_addHall_30 f1.1 f1.2 f6 ?_
    refine x_getR fdX0_55 rfl dX0_addHall_33 f7.1 f7.2 f8 ?_
    refine x_aload_n dX0_addHall_36 0 rfl ?_
    refine x_getI fdX0_45 rfl dX0_addHall_37 f1.1 f1.2 ?_
    refine x_aload_n dX0_addHall_40 0 rfl ?_
    refine x_getR fdX0_34 rfl dX0_addHall_41 f1.1 f1.2 f6 ?_
    refine x_getI fdX0_48 rfl dX0_addHall_44 f7.1 f7.2 ?_
    refine x_iast dX0_addHall_47 f9.1 f9.2 (h3 c1) ?_
    refine x_aload_n dX0_addHall_48 0 rfl ?_
    refine x_dup dX0_addHall_49 rfl ?_
    refine x_getI fdX0_45 rfl dX0_addHall_50 f1.1 f1.2 ?_
    refine x_iconst (v := 1) dX0_addHall_53 (by decide) ?_
    refine x_iadd dX0_addHall_54 ?_
    refine x_putI fdX0_45 rfl (Or.inl rfl) dX0_addHall_55 f1.1 f1.2 rfl rfl ?_
    exact x_vret rfl dX0_addHall_58 (Nat.le_refl _) (Nat.le_refl _) (k2 c1)
set_option maxRecDepth 8000 in
theorem qX0_isShot_0 {g : GG} {d : Nat} {M : MM} {P : Option Value → MM → Prop} {a0 : Nat} {i1 : Int32} (C0 : Cty M a0)
    (k1 : i1 < 0 → P (some (.int 0)) M)
    (k2 : ¬ (i1 < 0) → (mi M a0 0) ≤ i1 → P (some (.int 0)) M)
    (k3 : ¬ (i1 < 0) → ¬ ((mi M a0 0) ≤ i1) → P (some (.int 1)) M) :
    E0 g YX0_isShot d 0 [(0, .ref a0), (1, .int i1)] [] M P := by
  have f1 : ob M a0 0 := C0.o
  refine x_iload_n dX0_isShot_0 1 rfl ?_
  refine x_if_lt 16 dX0_isShot_1 (by decide) (fun c1 => ?_) (fun c1 => ?_)
  · refine x_iconst (v := 0) dX0_isShot_16 (by decide) ?_
    exact x_zret rfl dX0_isShot_17 rfl (Nat.le_refl _) (Nat.le_refl _) (k1 c1)
  · refine x_iload_n dX0_isShot_4 1 rfl ?_
    refine x_aload_n dX0_isShot_5 0 rfl ?_
    refine x_getI fdX0_41 rfl dX0_isShot_6 f1.1 f1.2 ?_
    refine x_ic_ge 16 dX0_isShot_9 (by decide) (fun c2 => ?_) (fun c2 => ?_)
    · refine x_iconst (v := 0) dX0_isShot_16 (by decide) ?_
      exact x_zret rfl dX0_isShot_17 rfl (Nat.le_refl _) (Nat.le_refl _) (k2 c1 c2)
    · refine x_iconst (v := 1) dX0_isShot_12 (by decide) ?_
      refine x_goto 17 dX0_isShot_13 (by decide) ?_
      exact x_zret rfl dX0_isShot_17 rfl (Nat.le_refl _) (Nat.le_refl _) (k3 c1 c2)
set_option maxRecDepth 8000 in
theorem qX0_isHall_0 {g : GG} {d : Nat} {M : MM} {P : Option Value → MM → Prop} {a0 : Nat} {i1 : Int32} (C0 : Cty M a0)
    (k1 : i1 < 0 → P (some (.int 0)) M)
    (k2 : ¬ (i1 < 0) → (mi M a0 5) ≤ i1 → P (some (.int 0)) M)
    (k3 : ¬ (i1 < 0) → ¬ ((mi M a0 5) ≤ i1) → P (some (.int 1)) M) :
    E0 g YX0_isHall d 0 [(0, .ref a0), (1, .int i1)] [] M P := by
  have f1 : ob M a0 0 := C0.o
  refine x_iload_n dX0_isHall_0 1 rfl ?_
  refine x_if_lt 16 dX0_isHall_1 (by decide) (fun c1 => ?_) (fun c1 => ?_)
  · refine x_iconst (v := 0) dX0_isHall_16 (by decide) ?_
    exact x_zret rfl dX0_isHall_17 rfl (Nat.le_refl _) (Nat.le_refl _) (k1 c1)
  · refine x_iload_n dX0_isHall_4 1 rfl ?_
    refine x_aload_n dX0_isHall_5 0 rfl ?_
    refine x_getI fdX0_45 rfl dX0_isHall_6 f1.1 f1.2 ?_
    refine x_ic_ge 16 dX0_isHall_9 (by decide) (fun c2 => ?_) (fun c2 => ?_)
    · refine x_iconst (v := 0) dX0_isHall_16 (by decide) ?_
      exact x_zret rfl dX0_isHall_17 rfl (Nat.le_refl _) (Nat.le_refl _) (k2 c1 c2)
    · refine x_iconst (v := 1) dX0_isHall_12 (by decide) ?_
      refine x_goto 17 dX0_isHall_13 (by decide) ?_
      exact x_zret rfl dX0_isHall_17 rfl (Nat.le_refl _) (Nat.le_refl _) (k3 c1 c2)
set_option maxRecDepth 8000 in
theorem qX0_isNeeded_0 {g : GG} {d : Nat} {M : MM} {P : Option Value → MM → Prop} {a0 : Nat} {i1 : Int32} {i2 : Int32} (C0 : Cty M a0)
    (k1 : K0 g YX0_isNeeded YX0_isShot d 5 [.ref a0, .int i1] [(0, .ref a0), (1, .int i1), (2, .int i2)] [] M P) :
    E0 g YX0_isNeeded d 0 [(0, .ref a0), (1, .int i1), (2, .int i2)] [] M P := by
  have f1 : ob M a0 0 := C0.o
  refine x_aload_n dX0_isNeeded_0 0 rfl ?_
  refine x_iload_n dX0_isNeeded_1 1 rfl ?_
  refine EX.sub [0, 1, 2] (K0.v (As := [.int i1]) (st := []) cvX0_51 dX0_isNeeded_2 rfl rfl f1 rfl (Nat.le_of_ble_eq_true rfl) (k1)) rfl
set_option maxRecDepth 8000 in
theorem qX0_isNeeded_5 {g : GG} {d : Nat} {M : MM} {P : Option Value → MM → Prop} {a0 : Nat} {i1 : Int32} {i2 : Int32} {s0 : Int32} (C0 : Cty M a0)
    (k1 : s0 = 0 → P (some (.int 0)) M)
    (k2 : ¬ (s0 = 0) → K0 g YX0_isNeeded YX0_isShot d 13 [.ref a0, .int i2] [(0, .ref a0), (1, .int i1), (2, .int i2)] [] M P) :
    E0 g YX0_isNeeded d 5 [(0, .ref a0), (1, .int i1), (2, .int i2)] [.int s0] M P := by
  have f1 : ob M a0 0 := C0.o
  refine x_if_eq 34 dX0_isNeeded_5 (by decide) (fun c1 => ?_) (fun c1 => ?_)
  · refine x_iconst (v := 0) dX0_isNeeded_34 (by decide) ?_
    exact x_zret rfl dX0_isNeeded_35 rfl (Nat.le_refl _) (Nat.le_refl _) (k1 c1)
  · refine x_aload_n dX0_isNeeded_8 0 rfl ?_
    refine x_iload_n dX0_isNeeded_9 2 rfl ?_
    refine EX.sub [0, 1, 2] (K0.v (As := [.int i2]) (st := []) cvX0_51 dX0_isNeeded_10 rfl rfl f1 rfl (Nat.le_of_ble_eq_true rfl) (k2 c1)) rfl
set_option maxRecDepth 8000 in
theorem qX0_isNeeded_13 {g : GG} {d : Nat} {M : MM} {P : Option Value → MM → Prop} {a0 : Nat} {i1 : Int32} {i2 : Int32} {s0 : Int32} (C0 : Cty M a0)
    (h1 : ¬ (s0 = 0) → vp_in i1 10)
    (k1 : s0 = 0 → P (some (.int 0)) M)
    (k2 : ¬ (s0 = 0) → ¬ (((mi M (a0 + 4) (i1 : Int32).toNatClampNeg) >>> (i2 &&& 31)) &&& 1) = 1 → P (some (.int 0)) M)
    (k3 : ¬ (s0 = 0) → (((mi M (a0 + 4) (i1 : Int32).toNatClampNeg) >>> (i2 &&& 31)) &&& 1) = 1 → P (some (.int 1)) M) :
    E0 g YX0_isNeeded d 13 [(0, .ref a0), (1, .int i1), (2, .int i2)] [.int s0] M P := by
  have f1 : ob M a0 0 := C0.o
  have f2 : mr M a0 4 = some (a0 + 4) := C0.r4
  have f3 : ar M (a0 + 4) 1 10 := C0.a4
  refine x_if_eq 34 dX0_isNeeded_13 (by decide) (fun c1 => ?_) (fun c1 => ?_)
  · refine x_iconst (v := 0) dX0_isNeeded_34 (by decide) ?_
    exact x_zret rfl dX0_isNeeded_35 rfl (Nat.le_refl _) (Nat.le_refl _) (k1 c1)
  · refine x_aload_n dX0_isNeeded_16 0 rfl ?_
    refine x_getR fdX0_22 rfl dX0_isNeeded_17 f1.1 f1.2 f2 ?_
    refine x_iload_n dX0_isNeeded_20 1 rfl ?_
    refine x_iald dX0_isNeeded_21 f3.1 f3.2 (h1 c1) ?_
    refine x_iload_n dX0_isNeeded_22 2 rfl ?_
    refine x_ishr dX0_isNeeded_23 ?_
    refine x_iconst (v := 1) dX0_isNeeded_24 (by decide) ?_
    refine x_iand dX0_isNeeded_25 ?_
    refine x_iconst (v := 1) dX0_isNeeded_26 (by decide) ?_
    refine x_ic_ne 34 dX0_isNeeded_27 (by decide) (fun c2 => ?_) (fun c2 => ?_)
    · refine x_iconst (v := 0) dX0_isNeeded_34 (by decide) ?_
      exact x_zret rfl dX0_isNeeded_35 rfl (Nat.le_refl _) (Nat.le_refl _) (k2 c1 c2)
    · refine x_iconst (v := 1) dX0_isNeeded_30 (by decide) ?_
      refine x_goto 35 dX0_isNeeded_31 (by decide) ?_
      exact x_zret rfl dX0_isNeeded_35 rfl (Nat.le_refl _) (Nat.le_refl _) (k3 c1 c2)
set_option maxRecDepth 8000 in
theorem qX0_shotNamed_0 {g : GG} {d : Nat} {M : MM} {P : Option Value → MM → Prop} {a0 : Nat} {j1 : Int64}
    (k1 : E0 g YX0_shotNamed d 2 [(0, .ref a0), (1, .long j1), (3, .int 0)] [] M P) :
    E0 g YX0_shotNamed d 0 [(0, .ref a0), (1, .long j1)] [] M P := by
  refine x_iconst (v := 0) dX0_shotNamed_0 (by decide) ?_
  refine x_istore_n (lv1 := [(3, .int 0), (0, .ref a0), (1, .long j1)]) dX0_shotNamed_1 (by decide) rfl ?_
  exact EX.sub [1, 2, 0] k1 rfl
set_option maxRecDepth 8000 in
theorem qX0_shotNamed_2 {g : GG} {d : Nat} {M : MM} {P : Option Value → MM → Prop} {a0 : Nat} {j1 : Int64} {i3 : Int32} (C0 : Cty M a0)
    (h1 : ¬ ((mi M a0 0) ≤ i3) → vp_in i3 10)
    (k1 : (mi M a0 0) ≤ i3 → P (some (.int (-1))) M)
    (k2 : ¬ ((mi M a0 0) ≤ i3) → ¬ (lg_cmp (mj M (a0 + 1) (i3 : Int32).toNatClampNeg) j1) = 0 → E0 g YX0_shotNamed d 2 [(0, .ref a0), (1, .long j1), (3, .int (i3 + 1))] [] M P)
    (k3 : ¬ ((mi M a0 0) ≤ i3) → (lg_cmp (mj M (a0 + 1) (i3 : Int32).toNatClampNeg) j1) = 0 → P (some (.int i3)) M) :
    E0 g YX0_shotNamed d 2 [(0, .ref a0), (1, .long j1), (3, .int i3)] [] M P := by
  have f1 : ob M a0 0 := C0.o
  have f2 : mr M a0 1 = some (a0 + 1) := C0.r1
  have f3 : ar M (a0 + 1) 2 10 := C0.a1
  refine x_iload_n dX0_shotNamed_2 2 rfl ?_
  refine x_aload_n dX0_shotNamed_3 0 rfl ?_
  refine x_getI fdX0_41 rfl dX0_shotNamed_4 f1.1 f1.2 ?_
  refine x_ic_ge 29 dX0_shotNamed_7 (by decide) (fun c1 => ?_) (fun c1 => ?_)
  · refine x_iconst (v := (-1)) dX0_shotNamed_29 (by decide) ?_
    exact x_iret rfl dX0_shotNamed_30 (Nat.le_refl _) (Nat.le_refl _) (k1 c1)
  · refine x_aload_n dX0_shotNamed_10 0 rfl ?_
    refine x_getR fdX0_9 rfl dX0_shotNamed_11 f1.1 f1.2 f2 ?_
    refine x_iload_n dX0_shotNamed_14 2 rfl ?_
    refine x_lald dX0_shotNamed_15 f3.1 f3.2 (h1 c1) ?_
    refine x_lload_n dX0_shotNamed_16 1 rfl ?_
    refine x_lcmp dX0_shotNamed_17 ?_
    refine x_if_ne 23 dX0_shotNamed_18 (by decide) (fun c2 => ?_) (fun c2 => ?_)
    · refine x_iinc (v := (i3 + 1)) (lv1 := [(3, .int (i3 + 1)), (0, .ref a0), (1, .long j1)]) dX0_shotNamed_23 2 rfl rfl (by decide) rfl ?_
      refine x_goto 2 dX0_shotNamed_26 (by decide) ?_
      exact EX.sub [1, 2, 0] (k2 c1 c2) rfl
    · refine x_iload_n dX0_shotNamed_21 2 rfl ?_
      exact x_iret rfl dX0_shotNamed_22 (Nat.le_refl _) (Nat.le_refl _) (k3 c1 c2)
set_option maxRecDepth 8000 in
theorem qX0_hallNamed_0 {g : GG} {d : Nat} {M : MM} {P : Option Value → MM → Prop} {a0 : Nat} {j1 : Int64}
    (k1 : E0 g YX0_hallNamed d 2 [(0, .ref a0), (1, .long j1), (3, .int 0)] [] M P) :
    E0 g YX0_hallNamed d 0 [(0, .ref a0), (1, .long j1)] [] M P := by
  refine x_iconst (v := 0) dX0_hallNamed_0 (by decide) ?_
  refine x_istore_n (lv1 := [(3, .int 0), (0, .ref a0), (1, .long j1)]) dX0_hallNamed_1 (by decide) rfl ?_
  exact EX.sub [1, 2, 0] k1 rfl
set_option maxRecDepth 8000 in
theorem qX0_hallNamed_2 {g : GG} {d : Nat} {M : MM} {P : Option Value → MM → Prop} {a0 : Nat} {j1 : Int64} {i3 : Int32} (C0 : Cty M a0)
    (h1 : ¬ ((mi M a0 5) ≤ i3) → vp_in i3 6)
    (k1 : (mi M a0 5) ≤ i3 → P (some (.int (-1))) M)
    (k2 : ¬ ((mi M a0 5) ≤ i3) → ¬ (lg_cmp (mj M (a0 + 5) (i3 : Int32).toNatClampNeg) j1) = 0 → E0 g YX0_hallNamed d 2 [(0, .ref a0), (1, .long j1), (3, .int (i3 + 1))] [] M P)
    (k3 : ¬ ((mi M a0 5) ≤ i3) → (lg_cmp (mj M (a0 + 5) (i3 : Int32).toNatClampNeg) j1) = 0 → P (some (.int i3)) M) :
    E0 g YX0_hallNamed d 2 [(0, .ref a0), (1, .long j1), (3, .int i3)] [] M P := by
  have f1 : ob M a0 0 := C0.o
  have f2 : mr M a0 6 = some (a0 + 5) := C0.r6
  have f3 : ar M (a0 + 5) 2 6 := C0.a6
  refine x_iload_n dX0_hallNamed_2 2 rfl ?_
  refine x_aload_n dX0_hallNamed_3 0 rfl ?_
  refine x_getI fdX0_45 rfl dX0_hallNamed_4 f1.1 f1.2 ?_
  refine x_ic_ge 29 dX0_hallNamed_7 (by decide) (fun c1 => ?_) (fun c1 => ?_)
  · refine x_iconst (v := (-1)) dX0_hallNamed_29 (by decide) ?_
    exact x_iret rfl dX0_hallNamed_30 (Nat.le_refl _) (Nat.le_refl _) (k1 c1)
  · refine x_aload_n dX0_hallNamed_10 0 rfl ?_
    refine x_getR fdX0_25 rfl dX0_hallNamed_11 f1.1 f1.2 f2 ?_
    refine x_iload_n dX0_hallNamed_14 2 rfl ?_
    refine x_lald dX0_hallNamed_15 f3.1 f3.2 (h1 c1) ?_
    refine x_lload_n dX0_hallNamed_16 1 rfl ?_
    refine x_lcmp dX0_hallNamed_17 ?_
    refine x_if_ne 23 dX0_hallNamed_18 (by decide) (fun c2 => ?_) (fun c2 => ?_)
    · refine x_iinc (v := (i3 + 1)) (lv1 := [(3, .int (i3 + 1)), (0, .ref a0), (1, .long j1)]) dX0_hallNamed_23 2 rfl rfl (by decide) rfl ?_
      refine x_goto 2 dX0_hallNamed_26 (by decide) ?_
      exact EX.sub [1, 2, 0] (k2 c1 c2) rfl
    · refine x_iload_n dX0_hallNamed_21 2 rfl ?_
      exact x_iret rfl dX0_hallNamed_22 (Nat.le_refl _) (Nat.le_refl _) (k3 c1 c2)
set_option maxRecDepth 8000 in
theorem qX0_film_0 {g : GG} {d : Nat} {M : MM} {P : Option Value → MM → Prop} {a0 : Nat} (C0 : Cty M a0)
    (k1 : P (some (.int (((1 : Int32) <<< ((mi M a0 0) &&& 31)) - 1))) M) :
    E0 g YX0_film d 0 [(0, .ref a0)] [] M P := by
  have f1 : ob M a0 0 := C0.o
  refine x_iconst (v := 1) dX0_film_0 (by decide) ?_
  refine x_aload_n dX0_film_1 0 rfl ?_
  refine x_getI fdX0_41 rfl dX0_film_2 f1.1 f1.2 ?_
  refine x_ishl dX0_film_5 ?_
  refine x_iconst (v := 1) dX0_film_6 (by decide) ?_
  refine x_isub dX0_film_7 ?_
  exact x_iret rfl dX0_film_8 (Nat.le_refl _) (Nat.le_refl _) (k1)
set_option maxRecDepth 8000 in
theorem qX0_minutesOf_0 {g : GG} {d : Nat} {M : MM} {P : Option Value → MM → Prop} {a0 : Nat} {i1 : Int32}
    (k1 : E0 g YX0_minutesOf d 4 [(0, .ref a0), (1, .int i1), (2, .int 0), (3, .int 0)] [] M P) :
    E0 g YX0_minutesOf d 0 [(0, .ref a0), (1, .int i1)] [] M P := by
  refine x_iconst (v := 0) dX0_minutesOf_0 (by decide) ?_
  refine x_istore_n (lv1 := [(2, .int 0), (0, .ref a0), (1, .int i1)]) dX0_minutesOf_1 (by decide) rfl ?_
  refine x_iconst (v := 0) dX0_minutesOf_2 (by decide) ?_
  refine x_istore_n (lv1 := [(3, .int 0), (2, .int 0), (0, .ref a0), (1, .int i1)]) dX0_minutesOf_3 (by decide) rfl ?_
  exact EX.sub [2, 3, 1, 0] k1 rfl
set_option maxRecDepth 8000 in
theorem qX0_minutesOf_4 {g : GG} {d : Nat} {M : MM} {P : Option Value → MM → Prop} {a0 : Nat} {i1 : Int32} {i2 : Int32} {i3 : Int32} (C0 : Cty M a0)
    (h1 : ¬ ((mi M a0 0) ≤ i3) → ((i1 >>> (i3 &&& 31)) &&& 1) = 1 → vp_in i3 10)
    (k1 : (mi M a0 0) ≤ i3 → P (some (.int i2)) M)
    (k2 : ¬ ((mi M a0 0) ≤ i3) → ¬ ((i1 >>> (i3 &&& 31)) &&& 1) = 1 → E0 g YX0_minutesOf d 4 [(0, .ref a0), (1, .int i1), (2, .int i2), (3, .int (i3 + 1))] [] M P)
    (k3 : ¬ ((mi M a0 0) ≤ i3) → ((i1 >>> (i3 &&& 31)) &&& 1) = 1 → E0 g YX0_minutesOf d 4 [(0, .ref a0), (1, .int i1), (2, .int (i2 + (mi M (a0 + 3) (i3 : Int32).toNatClampNeg))), (3, .int (i3 + 1))] [] M P) :
    E0 g YX0_minutesOf d 4 [(0, .ref a0), (1, .int i1), (2, .int i2), (3, .int i3)] [] M P := by
  have f1 : ob M a0 0 := C0.o
  have f2 : mr M a0 3 = some (a0 + 3) := C0.r3
  have f3 : ar M (a0 + 3) 1 10 := C0.a3
  refine x_iload_n dX0_minutesOf_4 3 rfl ?_
  refine x_aload_n dX0_minutesOf_5 0 rfl ?_
  refine x_getI fdX0_41 rfl dX0_minutesOf_6 f1.1 f1.2 ?_
  refine x_ic_ge 36 dX0_minutesOf_9 (by decide) (fun c1 => ?_) (fun c1 => ?_)
  · refine x_iload_n dX0_minutesOf_36 2 rfl ?_
    exact x_iret rfl dX0_minutesOf_37 (Nat.le_refl _) (Nat.le_refl _) (k1 c1)
  · refine x_iload_n dX0_minutesOf_12 1 rfl ?_
    refine x_iload_n dX0_minutesOf_13 3 rfl ?_
    refine x_ishr dX0_minutesOf_14 ?_
    refine x_iconst (v := 1) dX0_minutesOf_15 (by decide) ?_
    refine x_iand dX0_minutesOf_16 ?_
    refine x_iconst (v := 1) dX0_minutesOf_17 (by decide) ?_
    refine x_ic_ne 30 dX0_minutesOf_18 (by decide) (fun c2 => ?_) (fun c2 => ?_)
    · refine x_iinc (v := (i3 + 1)) (lv1 := [(3, .int (i3 + 1)), (0, .ref a0), (1, .int i1), (2, .int i2)]) dX0_minutesOf_30 3 rfl rfl (by decide) rfl ?_
      refine x_goto 4 dX0_minutesOf_33 (by decide) ?_
      exact EX.sub [1, 2, 3, 0] (k2 c1 c2) rfl
    · refine x_iload_n dX0_minutesOf_21 2 rfl ?_
      refine x_aload_n dX0_minutesOf_22 0 rfl ?_
      refine x_getR fdX0_19 rfl dX0_minutesOf_23 f1.1 f1.2 f2 ?_
      refine x_iload_n dX0_minutesOf_26 3 rfl ?_
      refine x_iald dX0_minutesOf_27 f3.1 f3.2 (h1 c1 c2) ?_
      refine x_iadd dX0_minutesOf_28 ?_
      refine x_istore_n (lv1 := [(2, .int (i2 + (mi M (a0 + 3) (i3 : Int32).toNatClampNeg))), (0, .ref a0), (1, .int i1), (3, .int i3)]) dX0_minutesOf_29 (by decide) rfl ?_
      refine x_iinc (v := (i3 + 1)) (lv1 := [(3, .int (i3 + 1)), (2, .int (i2 + (mi M (a0 + 3) (i3 : Int32).toNatClampNeg))), (0, .ref a0), (1, .int i1)]) dX0_minutesOf_30 3 rfl rfl (by decide) rfl ?_
      refine x_goto 4 dX0_minutesOf_33 (by decide) ?_
      exact EX.sub [2, 3, 1, 0] (k3 c1 c2) rfl
set_option maxRecDepth 8000 in
theorem qX0_isLonger_0 {g : GG} {d : Nat} {M : MM} {P : Option Value → MM → Prop} {a0 : Nat} {i1 : Int32} {i2 : Int32} (C0 : Cty M a0)
    (k1 : K0 g YX0_isLonger YX0_minutesOf d 5 [.ref a0, .int i1] [(0, .ref a0), (1, .int i1), (2, .int i2)] [] M P) :
    E0 g YX0_isLonger d 0 [(0, .ref a0), (1, .int i1), (2, .int i2)] [] M P := by
  have f1 : ob M a0 0 := C0.o
  refine x_aload_n dX0_isLonger_0 0 rfl ?_
  refine x_iload_n dX0_isLonger_1 1 rfl ?_
  refine EX.sub [0, 1, 2] (K0.v (As := [.int i1]) (st := []) cvX0_58 dX0_isLonger_2 rfl rfl f1 rfl (Nat.le_of_ble_eq_true rfl) (k1)) rfl
set_option maxRecDepth 8000 in
theorem qX0_isLonger_5 {g : GG} {d : Nat} {M : MM} {P : Option Value → MM → Prop} {a0 : Nat} {i1 : Int32} {i2 : Int32} {s0 : Int32} (C0 : Cty M a0)
    (k1 : K0 g YX0_isLonger YX0_minutesOf d 10 [.ref a0, .int i2] [(1, .int i1), (2, .int i2)] [.int s0] M P) :
    E0 g YX0_isLonger d 5 [(0, .ref a0), (1, .int i1), (2, .int i2)] [.int s0] M P := by
  have f1 : ob M a0 0 := C0.o
  refine x_aload_n dX0_isLonger_5 0 rfl ?_
  refine x_iload_n dX0_isLonger_6 2 rfl ?_
  refine EX.sub [1, 2] (K0.v (As := [.int i2]) (st := [.int s0]) cvX0_58 dX0_isLonger_7 rfl rfl f1 rfl (Nat.le_of_ble_eq_true rfl) (k1)) rfl
set_option maxRecDepth 8000 in
theorem qX0_isLonger_10 {g : GG} {d : Nat} {M : MM} {P : Option Value → MM → Prop} {i1 : Int32} {i2 : Int32} {s0 : Int32} {s1 : Int32}
    (k1 : 0 < (s0 - s1) → P (some (.int 1)) M)
    (k2 : ¬ (0 < (s0 - s1)) → ¬ (s0 - s1) = 0 → P (some (.int 0)) M)
    (k3 : ¬ (0 < (s0 - s1)) → (s0 - s1) = 0 → K0 g YX0_isLonger YJ6_bitCount_0f7a4 d 24 [.int i1] [(2, .int i2)] [] M P) :
    E0 g YX0_isLonger d 10 [(1, .int i1), (2, .int i2)] [.int s1, .int s0] M P := by
  refine x_isub dX0_isLonger_10 ?_
  refine x_istore_n (lv1 := [(3, .int (s0 - s1)), (1, .int i1), (2, .int i2)]) dX0_isLonger_11 (by decide) rfl ?_
  refine x_iload_n dX0_isLonger_12 0 rfl ?_
  refine x_if_gt 31 dX0_isLonger_13 (by decide) (fun c1 => ?_) (fun c1 => ?_)
  · refine x_iconst (v := 1) dX0_isLonger_31 (by decide) ?_
    refine x_goto 36 dX0_isLonger_32 (by decide) ?_
    exact x_zret rfl dX0_isLonger_36 rfl (Nat.le_refl _) (Nat.le_refl _) (k1 c1)
  · refine x_iload_n dX0_isLonger_16 0 rfl ?_
    refine x_if_ne 35 dX0_isLonger_17 (by decide) (fun c2 => ?_) (fun c2 => ?_)
    · refine x_iconst (v := 0) dX0_isLonger_35 (by decide) ?_
      exact x_zret rfl dX0_isLonger_36 rfl (Nat.le_refl _) (Nat.le_refl _) (k2 c1 c2)
    · refine x_iload_n dX0_isLonger_20 1 rfl ?_
      refine EX.sub [2] (K0.s (As := [.int i1]) (st := []) csX0_62 dX0_isLonger_21 rfl rfl (Nat.le_of_ble_eq_true rfl) (k3 c1 c2)) rfl
set_option maxRecDepth 8000 in
theorem qX0_isLonger_24 {g : GG} {d : Nat} {M : MM} {P : Option Value → MM → Prop} {i2 : Int32} {s0 : Int32}
    (k1 : K0 g YX0_isLonger YJ6_bitCount_0f7a4 d 28 [.int i2] [] [.int s0] M P) :
    E0 g YX0_isLonger d 24 [(2, .int i2)] [.int s0] M P := by
  refine x_iload_n dX0_isLonger_24 0 rfl ?_
  refine EX.sub [] (K0.s (As := [.int i2]) (st := [.int s0]) csX0_62 dX0_isLonger_25 rfl rfl (Nat.le_of_ble_eq_true rfl) (k1)) rfl
set_option maxRecDepth 8000 in
theorem qX0_isLonger_28 {g : GG} {d : Nat} {M : MM} {P : Option Value → MM → Prop} {s0 : Int32} {s1 : Int32}
    (k1 : s1 ≤ s0 → P (some (.int 0)) M)
    (k2 : ¬ (s1 ≤ s0) → P (some (.int 1)) M) :
    E0 g YX0_isLonger d 28 [] [.int s1, .int s0] M P := by
  refine x_ic_ge 35 dX0_isLonger_28 (by decide) (fun c1 => ?_) (fun c1 => ?_)
  · refine x_iconst (v := 0) dX0_isLonger_35 (by decide) ?_
    exact x_zret rfl dX0_isLonger_36 rfl (Nat.le_refl _) (Nat.le_refl _) (k1 c1)
  · refine x_iconst (v := 1) dX0_isLonger_31 (by decide) ?_
    refine x_goto 36 dX0_isLonger_32 (by decide) ?_
    exact x_zret rfl dX0_isLonger_36 rfl (Nat.le_refl _) (Nat.le_refl _) (k2 c1)
set_option maxRecDepth 8000 in
theorem qX0_shotAt_0 {g : GG} {d : Nat} {M : MM} {P : Option Value → MM → Prop} {a0 : Nat} {i1 : Int32} {i2 : Int32}
    (k1 : E0 g YX0_shotAt d 5 [(0, .ref a0), (1, .int i1), (2, .int i2), (3, .int 0), (4, .int 0)] [] M P) :
    E0 g YX0_shotAt d 0 [(0, .ref a0), (1, .int i1), (2, .int i2)] [] M P := by
  refine x_iconst (v := 0) dX0_shotAt_0 (by decide) ?_
  refine x_istore_n (lv1 := [(3, .int 0), (0, .ref a0), (1, .int i1), (2, .int i2)]) dX0_shotAt_1 (by decide) rfl ?_
  refine x_iconst (v := 0) dX0_shotAt_2 (by decide) ?_
  refine x_istore (lv1 := [(4, .int 0), (3, .int 0), (0, .ref a0), (1, .int i1), (2, .int i2)]) dX0_shotAt_3 (by decide) rfl ?_
  exact EX.sub [2, 3, 4, 1, 0] k1 rfl
set_option maxRecDepth 8000 in
theorem qX0_shotAt_5 {g : GG} {d : Nat} {M : MM} {P : Option Value → MM → Prop} {a0 : Nat} {i1 : Int32} {i2 : Int32} {i3 : Int32} {i4 : Int32} (C0 : Cty M a0)
    (k1 : (mi M a0 0) ≤ i4 → P (some (.int (-1))) M)
    (k2 : ¬ ((mi M a0 0) ≤ i4) → ¬ ((i1 >>> (i4 &&& 31)) &&& 1) = 1 → E0 g YX0_shotAt d 5 [(0, .ref a0), (1, .int i1), (2, .int i2), (3, .int i3), (4, .int (i4 + 1))] [] M P)
    (k3 : ¬ ((mi M a0 0) ≤ i4) → ((i1 >>> (i4 &&& 31)) &&& 1) = 1 → ¬ i3 = i2 → E0 g YX0_shotAt d 5 [(0, .ref a0), (1, .int i1), (2, .int i2), (3, .int (i3 + 1)), (4, .int (i4 + 1))] [] M P)
    (k4 : ¬ ((mi M a0 0) ≤ i4) → ((i1 >>> (i4 &&& 31)) &&& 1) = 1 → i3 = i2 → P (some (.int i4)) M) :
    E0 g YX0_shotAt d 5 [(0, .ref a0), (1, .int i1), (2, .int i2), (3, .int i3), (4, .int i4)] [] M P := by
  have f1 : ob M a0 0 := C0.o
  refine x_iload dX0_shotAt_5 4 rfl ?_
  refine x_aload_n dX0_shotAt_7 0 rfl ?_
  refine x_getI fdX0_41 rfl dX0_shotAt_8 f1.1 f1.2 ?_
  refine x_ic_ge 41 dX0_shotAt_11 (by decide) (fun c1 => ?_) (fun c1 => ?_)
  · refine x_iconst (v := (-1)) dX0_shotAt_41 (by decide) ?_
    exact x_iret rfl dX0_shotAt_42 (Nat.le_refl _) (Nat.le_refl _) (k1 c1)
  · refine x_iload_n dX0_shotAt_14 1 rfl ?_
    refine x_iload dX0_shotAt_15 4 rfl ?_
    refine x_ishr dX0_shotAt_17 ?_
    refine x_iconst (v := 1) dX0_shotAt_18 (by decide) ?_
    refine x_iand dX0_shotAt_19 ?_
    refine x_iconst (v := 1) dX0_shotAt_20 (by decide) ?_
    refine x_ic_ne 35 dX0_shotAt_21 (by decide) (fun c2 => ?_) (fun c2 => ?_)
    · refine x_iinc (v := (i4 + 1)) (lv1 := [(4, .int (i4 + 1)), (0, .ref a0), (1, .int i1), (2, .int i2), (3, .int i3)]) dX0_shotAt_35 4 rfl rfl (by decide) rfl ?_
      refine x_goto 5 dX0_shotAt_38 (by decide) ?_
      exact EX.sub [1, 2, 3, 4, 0] (k2 c1 c2) rfl
    · refine x_iload_n dX0_shotAt_24 3 rfl ?_
      refine x_iload_n dX0_shotAt_25 2 rfl ?_
      refine x_ic_ne 32 dX0_shotAt_26 (by decide) (fun c3 => ?_) (fun c3 => ?_)
      · refine x_iinc (v := (i3 + 1)) (lv1 := [(3, .int (i3 + 1)), (0, .ref a0), (1, .int i1), (2, .int i2), (4, .int i4)]) dX0_shotAt_32 3 rfl rfl (by decide) rfl ?_
        refine x_iinc (v := (i4 + 1)) (lv1 := [(4, .int (i4 + 1)), (3, .int (i3 + 1)), (0, .ref a0), (1, .int i1), (2, .int i2)]) dX0_shotAt_35 4 rfl rfl (by decide) rfl ?_
        refine x_goto 5 dX0_shotAt_38 (by decide) ?_
        exact EX.sub [2, 3, 4, 1, 0] (k3 c1 c2 c3) rfl
      · refine x_iload dX0_shotAt_29 4 rfl ?_
        exact x_iret rfl dX0_shotAt_31 (Nat.le_refl _) (Nat.le_refl _) (k4 c1 c2 c3)
set_option maxRecDepth 8000 in
theorem qX0_makesSense_0 {g : GG} {d : Nat} {M : MM} {P : Option Value → MM → Prop} {a0 : Nat} {i1 : Int32}
    (k1 : E0 g YX0_makesSense d 2 [(0, .ref a0), (1, .int i1), (2, .int 0)] [] M P) :
    E0 g YX0_makesSense d 0 [(0, .ref a0), (1, .int i1)] [] M P := by
  refine x_iconst (v := 0) dX0_makesSense_0 (by decide) ?_
  refine x_istore_n (lv1 := [(2, .int 0), (0, .ref a0), (1, .int i1)]) dX0_makesSense_1 (by decide) rfl ?_
  exact EX.sub [1, 2, 0] k1 rfl
set_option maxRecDepth 8000 in
theorem qX0_makesSense_2 {g : GG} {d : Nat} {M : MM} {P : Option Value → MM → Prop} {a0 : Nat} {i1 : Int32} {i2 : Int32} (C0 : Cty M a0)
    (h1 : ¬ ((mi M a0 0) ≤ i2) → ((i1 >>> (i2 &&& 31)) &&& 1) = 1 → vp_in i2 10)
    (k1 : (mi M a0 0) ≤ i2 → P (some (.int 1)) M)
    (k2 : ¬ ((mi M a0 0) ≤ i2) → ¬ ((i1 >>> (i2 &&& 31)) &&& 1) = 1 → E0 g YX0_makesSense d 2 [(0, .ref a0), (1, .int i1), (2, .int (i2 + 1))] [] M P)
    (k3 : ¬ ((mi M a0 0) ≤ i2) → ((i1 >>> (i2 &&& 31)) &&& 1) = 1 → ((mi M (a0 + 4) (i2 : Int32).toNatClampNeg) &&& ((i1 &&& (((1 : Int32) <<< (i2 &&& 31)) - 1)) ^^^ (-1))) = 0 → E0 g YX0_makesSense d 2 [(0, .ref a0), (1, .int i1), (2, .int (i2 + 1))] [] M P)
    (k4 : ¬ ((mi M a0 0) ≤ i2) → ((i1 >>> (i2 &&& 31)) &&& 1) = 1 → ¬ (((mi M (a0 + 4) (i2 : Int32).toNatClampNeg) &&& ((i1 &&& (((1 : Int32) <<< (i2 &&& 31)) - 1)) ^^^ (-1))) = 0) → P (some (.int 0)) M) :
    E0 g YX0_makesSense d 2 [(0, .ref a0), (1, .int i1), (2, .int i2)] [] M P := by
  have f1 : ob M a0 0 := C0.o
  have f2 : mr M a0 4 = some (a0 + 4) := C0.r4
  have f3 : ar M (a0 + 4) 1 10 := C0.a4
  refine x_iload_n dX0_makesSense_2 2 rfl ?_
  refine x_aload_n dX0_makesSense_3 0 rfl ?_
  refine x_getI fdX0_41 rfl dX0_makesSense_4 f1.1 f1.2 ?_
  refine x_ic_ge 48 dX0_makesSense_7 (by decide) (fun c1 => ?_) (fun c1 => ?_)
  · refine x_iconst (v := 1) dX0_makesSense_48 (by decide) ?_
    exact x_zret rfl dX0_makesSense_49 rfl (Nat.le_refl _) (Nat.le_refl _) (k1 c1)
  · refine x_iload_n dX0_makesSense_10 1 rfl ?_
    refine x_iconst (v := 1) dX0_makesSense_11 (by decide) ?_
    refine x_iload_n dX0_makesSense_12 2 rfl ?_
    refine x_ishl dX0_makesSense_13 ?_
    refine x_iconst (v := 1) dX0_makesSense_14 (by decide) ?_
    refine x_isub dX0_makesSense_15 ?_
    refine x_iand dX0_makesSense_16 ?_
    refine x_istore_n (lv1 := [(3, .int (i1 &&& (((1 : Int32) <<< (i2 &&& 31)) - 1))), (0, .ref a0), (1, .int i1), (2, .int i2)]) dX0_makesSense_17 (by decide) rfl ?_
    refine x_iload_n dX0_makesSense_18 2 rfl ?_
    refine x_iload_n dX0_makesSense_19 3 rfl ?_
    refine x_ishr dX0_makesSense_20 ?_
    refine x_iconst (v := 1) dX0_makesSense_21 (by decide) ?_
    refine x_iand dX0_makesSense_22 ?_
    refine x_iconst (v := 1) dX0_makesSense_23 (by decide) ?_
    refine x_ic_ne 42 dX0_makesSense_24 (by decide) (fun c2 => ?_) (fun c2 => ?_)
    · refine x_iinc (v := (i2 + 1)) (lv1 := [(2, .int (i2 + 1)), (3, .int (i1 &&& (((1 : Int32) <<< (i2 &&& 31)) - 1))), (0, .ref a0), (1, .int i1)]) dX0_makesSense_42 3 rfl rfl (by decide) rfl ?_
      refine x_goto 2 dX0_makesSense_45 (by decide) ?_
      exact EX.sub [2, 3, 0] (k2 c1 c2) rfl
    · refine x_aload_n dX0_makesSense_27 1 rfl ?_
      refine x_getR fdX0_22 rfl dX0_makesSense_28 f1.1 f1.2 f2 ?_
      refine x_iload_n dX0_makesSense_31 3 rfl ?_
      refine x_iald dX0_makesSense_32 f3.1 f3.2 (h1 c1 c2) ?_
      refine x_iload_n dX0_makesSense_33 0 rfl ?_
      refine x_iconst (v := (-1)) dX0_makesSense_34 (by decide) ?_
      refine x_ixor dX0_makesSense_35 ?_
      refine x_iand dX0_makesSense_36 ?_
      refine x_if_eq 42 dX0_makesSense_37 (by decide) (fun c3 => ?_) (fun c3 => ?_)
      · refine x_iinc (v := (i2 + 1)) (lv1 := [(2, .int (i2 + 1)), (3, .int (i1 &&& (((1 : Int32) <<< (i2 &&& 31)) - 1))), (0, .ref a0), (1, .int i1)]) dX0_makesSense_42 3 rfl rfl (by decide) rfl ?_
        refine x_goto 2 dX0_makesSense_45 (by decide) ?_
        exact EX.sub [2, 3, 0] (k3 c1 c2 c3) rfl
      · refine x_iconst (v := 0) dX0_makesSense_40 (by decide) ?_
        exact x_zret rfl dX0_makesSense_41 rfl (Nat.le_refl _) (Nat.le_refl _) (k4 c1 c2 c3)
set_option maxRecDepth 8000 in
theorem qX0_allNeeds_0 {g : GG} {d : Nat} {M : MM} {P : Option Value → MM → Prop} {a0 : Nat} {i1 : Int32} (C0 : Cty M a0)
    (k1 : K0 g YX0_allNeeds YX0_isShot d 5 [.ref a0, .int i1] [(0, .ref a0), (1, .int i1)] [] M P) :
    E0 g YX0_allNeeds d 0 [(0, .ref a0), (1, .int i1)] [] M P := by
  have f1 : ob M a0 0 := C0.o
  refine x_aload_n dX0_allNeeds_0 0 rfl ?_
  refine x_iload_n dX0_allNeeds_1 1 rfl ?_
  refine EX.sub [0, 1] (K0.v (As := [.int i1]) (st := []) cvX0_51 dX0_allNeeds_2 rfl rfl f1 rfl (Nat.le_of_ble_eq_true rfl) (k1)) rfl
set_option maxRecDepth 8000 in
theorem qX0_allNeeds_5 {g : GG} {d : Nat} {M : MM} {P : Option Value → MM → Prop} {a0 : Nat} {i1 : Int32} {s0 : Int32} (C0 : Cty M a0)
    (h1 : ¬ (s0 = 0) → vp_in i1 10)
    (k1 : s0 = 0 → E0 g YX0_allNeeds d 21 [(0, .ref a0), (2, .int 0), (3, .int 0)] [] M P)
    (k2 : ¬ (s0 = 0) → E0 g YX0_allNeeds d 21 [(0, .ref a0), (2, .int (mi M (a0 + 4) (i1 : Int32).toNatClampNeg)), (3, .int 0)] [] M P) :
    E0 g YX0_allNeeds d 5 [(0, .ref a0), (1, .int i1)] [.int s0] M P := by
  have f1 : ob M a0 0 := C0.o
  have f2 : mr M a0 4 = some (a0 + 4) := C0.r4
  have f3 : ar M (a0 + 4) 1 10 := C0.a4
  refine x_if_eq 17 dX0_allNeeds_5 (by decide) (fun c1 => ?_) (fun c1 => ?_)
  · refine x_iconst (v := 0) dX0_allNeeds_17 (by decide) ?_
    refine x_istore_n (lv1 := [(2, .int 0), (0, .ref a0), (1, .int i1)]) dX0_allNeeds_18 (by decide) rfl ?_
    refine x_iconst (v := 0) dX0_allNeeds_19 (by decide) ?_
    refine x_istore_n (lv1 := [(3, .int 0), (2, .int 0), (0, .ref a0), (1, .int i1)]) dX0_allNeeds_20 (by decide) rfl ?_
    exact EX.sub [2, 1, 0] (k1 c1) rfl
  · refine x_aload_n dX0_allNeeds_8 0 rfl ?_
    refine x_getR fdX0_22 rfl dX0_allNeeds_9 f1.1 f1.2 f2 ?_
    refine x_iload_n dX0_allNeeds_12 1 rfl ?_
    refine x_iald dX0_allNeeds_13 f3.1 f3.2 (h1 c1) ?_
    refine x_goto 18 dX0_allNeeds_14 (by decide) ?_
    refine x_istore_n (lv1 := [(2, .int (mi M (a0 + 4) (i1 : Int32).toNatClampNeg)), (0, .ref a0), (1, .int i1)]) dX0_allNeeds_18 (by decide) rfl ?_
    refine x_iconst (v := 0) dX0_allNeeds_19 (by decide) ?_
    refine x_istore_n (lv1 := [(3, .int 0), (2, .int (mi M (a0 + 4) (i1 : Int32).toNatClampNeg)), (0, .ref a0), (1, .int i1)]) dX0_allNeeds_20 (by decide) rfl ?_
    exact EX.sub [2, 1, 0] (k2 c1) rfl
set_option maxRecDepth 8000 in
theorem qX0_allNeeds_21 {g : GG} {d : Nat} {M : MM} {P : Option Value → MM → Prop} {a0 : Nat} {i2 : Int32} {i3 : Int32} (C0 : Cty M a0)
    (k1 : (mi M a0 0) ≤ i3 → P (some (.int i2)) M)
    (k2 : ¬ ((mi M a0 0) ≤ i3) → E0 g YX0_allNeeds d 32 [(0, .ref a0), (2, .int i2), (3, .int i3), (4, .int 0)] [] M P) :
    E0 g YX0_allNeeds d 21 [(0, .ref a0), (2, .int i2), (3, .int i3)] [] M P := by
  have f1 : ob M a0 0 := C0.o
  refine x_iload_n dX0_allNeeds_21 2 rfl ?_
  refine x_aload_n dX0_allNeeds_22 0 rfl ?_
  refine x_getI fdX0_41 rfl dX0_allNeeds_23 f1.1 f1.2 ?_
  refine x_ic_ge 73 dX0_allNeeds_26 (by decide) (fun c1 => ?_) (fun c1 => ?_)
  · refine x_iload_n dX0_allNeeds_73 1 rfl ?_
    exact x_iret rfl dX0_allNeeds_74 (Nat.le_refl _) (Nat.le_refl _) (k1 c1)
  · refine x_iconst (v := 0) dX0_allNeeds_29 (by decide) ?_
    refine x_istore (lv1 := [(4, .int 0), (0, .ref a0), (2, .int i2), (3, .int i3)]) dX0_allNeeds_30 (by decide) rfl ?_
    exact EX.sub [1, 2, 3, 0] (k2 c1) rfl
set_option maxRecDepth 8000 in
theorem qX0_allNeeds_32 {g : GG} {d : Nat} {M : MM} {P : Option Value → MM → Prop} {a0 : Nat} {i2 : Int32} {i3 : Int32} {i4 : Int32} (C0 : Cty M a0)
    (h1 : ¬ ((mi M a0 0) ≤ i4) → ((i2 >>> (i4 &&& 31)) &&& 1) = 1 → vp_in i4 10)
    (k1 : (mi M a0 0) ≤ i4 → E0 g YX0_allNeeds d 21 [(0, .ref a0), (2, .int i2), (3, .int (i3 + 1))] [] M P)
    (k2 : ¬ ((mi M a0 0) ≤ i4) → ¬ ((i2 >>> (i4 &&& 31)) &&& 1) = 1 → E0 g YX0_allNeeds d 32 [(0, .ref a0), (2, .int i2), (3, .int i3), (4, .int (i4 + 1))] [] M P)
    (k3 : ¬ ((mi M a0 0) ≤ i4) → ((i2 >>> (i4 &&& 31)) &&& 1) = 1 → E0 g YX0_allNeeds d 32 [(0, .ref a0), (2, .int (i2 ||| (mi M (a0 + 4) (i4 : Int32).toNatClampNeg))), (3, .int i3), (4, .int (i4 + 1))] [] M P) :
    E0 g YX0_allNeeds d 32 [(0, .ref a0), (2, .int i2), (3, .int i3), (4, .int i4)] [] M P := by
  have f1 : ob M a0 0 := C0.o
  have f2 : mr M a0 4 = some (a0 + 4) := C0.r4
  have f3 : ar M (a0 + 4) 1 10 := C0.a4
  refine x_iload dX0_allNeeds_32 3 rfl ?_
  refine x_aload_n dX0_allNeeds_34 0 rfl ?_
  refine x_getI fdX0_41 rfl dX0_allNeeds_35 f1.1 f1.2 ?_
  refine x_ic_ge 67 dX0_allNeeds_38 (by decide) (fun c1 => ?_) (fun c1 => ?_)
  · refine x_iinc (v := (i3 + 1)) (lv1 := [(3, .int (i3 + 1)), (0, .ref a0), (2, .int i2), (4, .int i4)]) dX0_allNeeds_67 2 rfl rfl (by decide) rfl ?_
    refine x_goto 21 dX0_allNeeds_70 (by decide) ?_
    exact EX.sub [1, 2, 0] (k1 c1) rfl
  · refine x_iload_n dX0_allNeeds_41 1 rfl ?_
    refine x_iload dX0_allNeeds_42 3 rfl ?_
    refine x_ishr dX0_allNeeds_44 ?_
    refine x_iconst (v := 1) dX0_allNeeds_45 (by decide) ?_
    refine x_iand dX0_allNeeds_46 ?_
    refine x_iconst (v := 1) dX0_allNeeds_47 (by decide) ?_
    refine x_ic_ne 61 dX0_allNeeds_48 (by decide) (fun c2 => ?_) (fun c2 => ?_)
    · refine x_iinc (v := (i4 + 1)) (lv1 := [(4, .int (i4 + 1)), (0, .ref a0), (2, .int i2), (3, .int i3)]) dX0_allNeeds_61 3 rfl rfl (by decide) rfl ?_
      refine x_goto 32 dX0_allNeeds_64 (by decide) ?_
      exact EX.sub [1, 2, 3, 0] (k2 c1 c2) rfl
    · refine x_iload_n dX0_allNeeds_51 1 rfl ?_
      refine x_aload_n dX0_allNeeds_52 0 rfl ?_
      refine x_getR fdX0_22 rfl dX0_allNeeds_53 f1.1 f1.2 f2 ?_
      refine x_iload dX0_allNeeds_56 3 rfl ?_
      refine x_iald dX0_allNeeds_58 f3.1 f3.2 (h1 c1 c2) ?_
      refine x_ior dX0_allNeeds_59 ?_
      refine x_istore_n (lv1 := [(2, .int (i2 ||| (mi M (a0 + 4) (i4 : Int32).toNatClampNeg))), (0, .ref a0), (3, .int i3), (4, .int i4)]) dX0_allNeeds_60 (by decide) rfl ?_
      refine x_iinc (v := (i4 + 1)) (lv1 := [(4, .int (i4 + 1)), (2, .int (i2 ||| (mi M (a0 + 4) (i4 : Int32).toNatClampNeg))), (0, .ref a0), (3, .int i3)]) dX0_allNeeds_61 3 rfl rfl (by decide) rfl ?_
      refine x_goto 32 dX0_allNeeds_64 (by decide) ?_
      exact EX.sub [2, 1, 3, 0] (k3 c1 c2) rfl
set_option maxRecDepth 8000 in
theorem qX0_shotsOfSort_0 {g : GG} {d : Nat} {M : MM} {P : Option Value → MM → Prop} {a0 : Nat} {i1 : Int32}
    (k1 : E0 g YX0_shotsOfSort d 4 [(0, .ref a0), (1, .int i1), (2, .int 0), (3, .int 0)] [] M P) :
    E0 g YX0_shotsOfSort d 0 [(0, .ref a0), (1, .int i1)] [] M P := by
  refine x_iconst (v := 0) dX0_shotsOfSort_0 (by decide) ?_
  refine x_istore_n (lv1 := [(2, .int 0), (0, .ref a0), (1, .int i1)]) dX0_shotsOfSort_1 (by decide) rfl ?_
  refine x_iconst (v := 0) dX0_shotsOfSort_2 (by decide) ?_
  refine x_istore_n (lv1 := [(3, .int 0), (2, .int 0), (0, .ref a0), (1, .int i1)]) dX0_shotsOfSort_3 (by decide) rfl ?_
  exact EX.sub [2, 3, 1, 0] k1 rfl
set_option maxRecDepth 8000 in
theorem qX0_shotsOfSort_4 {g : GG} {d : Nat} {M : MM} {P : Option Value → MM → Prop} {a0 : Nat} {i1 : Int32} {i2 : Int32} {i3 : Int32} (C0 : Cty M a0)
    (h1 : ¬ ((mi M a0 0) ≤ i3) → vp_in i3 10)
    (k1 : (mi M a0 0) ≤ i3 → P (some (.int i2)) M)
    (k2 : ¬ ((mi M a0 0) ≤ i3) → ¬ (mi M (a0 + 2) (i3 : Int32).toNatClampNeg) = i1 → E0 g YX0_shotsOfSort d 4 [(0, .ref a0), (1, .int i1), (2, .int i2), (3, .int (i3 + 1))] [] M P)
    (k3 : ¬ ((mi M a0 0) ≤ i3) → (mi M (a0 + 2) (i3 : Int32).toNatClampNeg) = i1 → E0 g YX0_shotsOfSort d 4 [(0, .ref a0), (1, .int i1), (2, .int (i2 ||| ((1 : Int32) <<< (i3 &&& 31)))), (3, .int (i3 + 1))] [] M P) :
    E0 g YX0_shotsOfSort d 4 [(0, .ref a0), (1, .int i1), (2, .int i2), (3, .int i3)] [] M P := by
  have f1 : ob M a0 0 := C0.o
  have f2 : mr M a0 2 = some (a0 + 2) := C0.r2
  have f3 : ar M (a0 + 2) 1 10 := C0.a2
  refine x_iload_n dX0_shotsOfSort_4 3 rfl ?_
  refine x_aload_n dX0_shotsOfSort_5 0 rfl ?_
  refine x_getI fdX0_41 rfl dX0_shotsOfSort_6 f1.1 f1.2 ?_
  refine x_ic_ge 34 dX0_shotsOfSort_9 (by decide) (fun c1 => ?_) (fun c1 => ?_)
  · refine x_iload_n dX0_shotsOfSort_34 2 rfl ?_
    exact x_iret rfl dX0_shotsOfSort_35 (Nat.le_refl _) (Nat.le_refl _) (k1 c1)
  · refine x_aload_n dX0_shotsOfSort_12 0 rfl ?_
    refine x_getR fdX0_15 rfl dX0_shotsOfSort_13 f1.1 f1.2 f2 ?_
    refine x_iload_n dX0_shotsOfSort_16 3 rfl ?_
    refine x_iald dX0_shotsOfSort_17 f3.1 f3.2 (h1 c1) ?_
    refine x_iload_n dX0_shotsOfSort_18 1 rfl ?_
    refine x_ic_ne 28 dX0_shotsOfSort_19 (by decide) (fun c2 => ?_) (fun c2 => ?_)
    · refine x_iinc (v := (i3 + 1)) (lv1 := [(3, .int (i3 + 1)), (0, .ref a0), (1, .int i1), (2, .int i2)]) dX0_shotsOfSort_28 3 rfl rfl (by decide) rfl ?_
      refine x_goto 4 dX0_shotsOfSort_31 (by decide) ?_
      exact EX.sub [1, 2, 3, 0] (k2 c1 c2) rfl
    · refine x_iload_n dX0_shotsOfSort_22 2 rfl ?_
      refine x_iconst (v := 1) dX0_shotsOfSort_23 (by decide) ?_
      refine x_iload_n dX0_shotsOfSort_24 3 rfl ?_
      refine x_ishl dX0_shotsOfSort_25 ?_
      refine x_ior dX0_shotsOfSort_26 ?_
      refine x_istore_n (lv1 := [(2, .int (i2 ||| ((1 : Int32) <<< (i3 &&& 31)))), (0, .ref a0), (1, .int i1), (3, .int i3)]) dX0_shotsOfSort_27 (by decide) rfl ?_
      refine x_iinc (v := (i3 + 1)) (lv1 := [(3, .int (i3 + 1)), (2, .int (i2 ||| ((1 : Int32) <<< (i3 &&& 31)))), (0, .ref a0), (1, .int i1)]) dX0_shotsOfSort_28 3 rfl rfl (by decide) rfl ?_
      refine x_goto 4 dX0_shotsOfSort_31 (by decide) ?_
      exact EX.sub [2, 3, 1, 0] (k3 c1 c2) rfl
set_option maxRecDepth 8000 in
theorem qX0_unlikeFrom_0 {g : GG} {d : Nat} {M : MM} {P : Option Value → MM → Prop} {a0 : Nat} {i1 : Int32} {i2 : Int32}
    (h1 : 1 ≤ d)
    (k1 : E0 g YX0_unlikeFrom d 9 [(0, .ref a0), (1, .int i1), (3, .int 0), (4, .int (if i2 < 0 then 0 else i2))] [] M P) :
    E0 g YX0_unlikeFrom d 0 [(0, .ref a0), (1, .int i1), (2, .int i2)] [] M P := by
  refine x_iconst (v := 0) dX0_unlikeFrom_0 (by decide) ?_
  refine x_istore_n (lv1 := [(3, .int 0), (0, .ref a0), (1, .int i1), (2, .int i2)]) dX0_unlikeFrom_1 (by decide) rfl ?_
  refine x_iload_n dX0_unlikeFrom_2 3 rfl ?_
  refine x_iconst (v := 0) dX0_unlikeFrom_3 (by decide) ?_
  refine x_max dX0_unlikeFrom_4 mmX0_67 gk_max1 gk_math gk_max2 h1 (Nat.le_refl _) (Nat.le_refl _) (Nat.le_of_ble_eq_true rfl) ?_
  refine x_istore (lv1 := [(4, .int (if i2 < 0 then 0 else i2)), (3, .int 0), (0, .ref a0), (1, .int i1), (2, .int i2)]) dX0_unlikeFrom_7 (by decide) rfl ?_
  exact EX.sub [2, 3, 1, 0] k1 rfl
set_option maxRecDepth 8000 in
theorem qX0_unlikeFrom_9 {g : GG} {d : Nat} {M : MM} {P : Option Value → MM → Prop} {a0 : Nat} {i1 : Int32} {i3 : Int32} {i4 : Int32} (C0 : Cty M a0)
    (h1 : ¬ ((mi M a0 0) ≤ i4) → ((i1 >>> (i4 &&& 31)) &&& 1) = 1 → vp_in i4 10)
    (k1 : (mi M a0 0) ≤ i4 → K0 g YX0_unlikeFrom YJ6_bitCount_0f7a4 d 64 [.int i3] [] [] M P)
    (k2 : ¬ ((mi M a0 0) ≤ i4) → ¬ ((i1 >>> (i4 &&& 31)) &&& 1) = 1 → E0 g YX0_unlikeFrom d 9 [(0, .ref a0), (1, .int i1), (3, .int i3), (4, .int (i4 + 1))] [] M P)
    (k3 : ¬ ((mi M a0 0) ≤ i4) → ((i1 >>> (i4 &&& 31)) &&& 1) = 1 → (i3 &&& ((1 : Int32) <<< ((mi M (a0 + 2) (i4 : Int32).toNatClampNeg) &&& 31))) = 0 → E0 g YX0_unlikeFrom d 9 [(0, .ref a0), (1, .int i1), (3, .int (i3 ||| ((1 : Int32) <<< ((mi M (a0 + 2) (i4 : Int32).toNatClampNeg) &&& 31)))), (4, .int (i4 + 1))] [] M P)
    (k4 : ¬ ((mi M a0 0) ≤ i4) → ((i1 >>> (i4 &&& 31)) &&& 1) = 1 → ¬ ((i3 &&& ((1 : Int32) <<< ((mi M (a0 + 2) (i4 : Int32).toNatClampNeg) &&& 31))) = 0) → K0 g YX0_unlikeFrom YJ6_bitCount_0f7a4 d 64 [.int i3] [] [] M P) :
    E0 g YX0_unlikeFrom d 9 [(0, .ref a0), (1, .int i1), (3, .int i3), (4, .int i4)] [] M P := by
  have f1 : ob M a0 0 := C0.o
  have f2 : mr M a0 2 = some (a0 + 2) := C0.r2
  have f3 : ar M (a0 + 2) 1 10 := C0.a2
  refine x_iload dX0_unlikeFrom_9 3 rfl ?_
  refine x_aload_n dX0_unlikeFrom_11 0 rfl ?_
  refine x_getI fdX0_41 rfl dX0_unlikeFrom_12 f1.1 f1.2 ?_
  refine x_ic_ge 60 dX0_unlikeFrom_15 (by decide) (fun c1 => ?_) (fun c1 => ?_)
  · refine x_iload_n dX0_unlikeFrom_60 2 rfl ?_
    refine EX.sub [] (K0.s (As := [.int i3]) (st := []) csX0_62 dX0_unlikeFrom_61 rfl rfl (Nat.le_of_ble_eq_true rfl) (k1 c1)) rfl
  · refine x_iload_n dX0_unlikeFrom_18 1 rfl ?_
    refine x_iload dX0_unlikeFrom_19 3 rfl ?_
    refine x_ishr dX0_unlikeFrom_21 ?_
    refine x_iconst (v := 1) dX0_unlikeFrom_22 (by decide) ?_
    refine x_iand dX0_unlikeFrom_23 ?_
    refine x_iconst (v := 1) dX0_unlikeFrom_24 (by decide) ?_
    refine x_ic_ne 54 dX0_unlikeFrom_25 (by decide) (fun c2 => ?_) (fun c2 => ?_)
    · refine x_iinc (v := (i4 + 1)) (lv1 := [(4, .int (i4 + 1)), (0, .ref a0), (1, .int i1), (3, .int i3)]) dX0_unlikeFrom_54 3 rfl rfl (by decide) rfl ?_
      refine x_goto 9 dX0_unlikeFrom_57 (by decide) ?_
      exact EX.sub [1, 2, 3, 0] (k2 c1 c2) rfl
    · refine x_iconst (v := 1) dX0_unlikeFrom_28 (by decide) ?_
      refine x_aload_n dX0_unlikeFrom_29 0 rfl ?_
      refine x_getR fdX0_15 rfl dX0_unlikeFrom_30 f1.1 f1.2 f2 ?_
      refine x_iload dX0_unlikeFrom_33 3 rfl ?_
      refine x_iald dX0_unlikeFrom_35 f3.1 f3.2 (h1 c1 c2) ?_
      refine x_ishl dX0_unlikeFrom_36 ?_
      refine x_istore (lv1 := [(5, .int ((1 : Int32) <<< ((mi M (a0 + 2) (i4 : Int32).toNatClampNeg) &&& 31))), (0, .ref a0), (1, .int i1), (3, .int i3), (4, .int i4)]) dX0_unlikeFrom_37 (by decide) rfl ?_
      refine x_iload_n dX0_unlikeFrom_39 3 rfl ?_
      refine x_iload dX0_unlikeFrom_40 0 rfl ?_
      refine x_iand dX0_unlikeFrom_42 ?_
      refine x_if_eq 49 dX0_unlikeFrom_43 (by decide) (fun c3 => ?_) (fun c3 => ?_)
      · refine x_iload_n dX0_unlikeFrom_49 3 rfl ?_
        refine x_iload dX0_unlikeFrom_50 0 rfl ?_
        refine x_ior dX0_unlikeFrom_52 ?_
        refine x_istore_n (lv1 := [(3, .int (i3 ||| ((1 : Int32) <<< ((mi M (a0 + 2) (i4 : Int32).toNatClampNeg) &&& 31)))), (5, .int ((1 : Int32) <<< ((mi M (a0 + 2) (i4 : Int32).toNatClampNeg) &&& 31))), (0, .ref a0), (1, .int i1), (4, .int i4)]) dX0_unlikeFrom_53 (by decide) rfl ?_
        refine x_iinc (v := (i4 + 1)) (lv1 := [(4, .int (i4 + 1)), (3, .int (i3 ||| ((1 : Int32) <<< ((mi M (a0 + 2) (i4 : Int32).toNatClampNeg) &&& 31)))), (5, .int ((1 : Int32) <<< ((mi M (a0 + 2) (i4 : Int32).toNatClampNeg) &&& 31))), (0, .ref a0), (1, .int i1)]) dX0_unlikeFrom_54 4 rfl rfl (by decide) rfl ?_
        refine x_goto 9 dX0_unlikeFrom_57 (by decide) ?_
        exact EX.sub [3, 4, 1, 0] (k3 c1 c2 c3) rfl
      · refine x_goto 60 dX0_unlikeFrom_46 (by decide) ?_
        refine x_iload_n dX0_unlikeFrom_60 3 rfl ?_
        refine EX.sub [] (K0.s (As := [.int i3]) (st := []) csX0_62 dX0_unlikeFrom_61 rfl rfl (Nat.le_of_ble_eq_true rfl) (k4 c1 c2 c3)) rfl
set_option maxRecDepth 8000 in
theorem qX0_unlikeFrom_64 {g : GG} {d : Nat} {M : MM} {P : Option Value → MM → Prop} {s0 : Int32}
    (k1 : P (some (.int s0)) M) :
    E0 g YX0_unlikeFrom d 64 [] [.int s0] M P := by
  exact x_iret rfl dX0_unlikeFrom_64 (Nat.le_refl _) (Nat.le_refl _) (k1)
set_option maxRecDepth 8000 in
theorem qX0_takenOut_0 {g : GG} {d : Nat} {M : MM} {P : Option Value → MM → Prop} {a0 : Nat} {i1 : Int32} {i2 : Int32} (C0 : Cty M a0)
    (k1 : K0 g YX0_takenOut YX0_isHall d 5 [.ref a0, .int i1] [(0, .ref a0), (1, .int i1), (2, .int i2)] [] M P) :
    E0 g YX0_takenOut d 0 [(0, .ref a0), (1, .int i1), (2, .int i2)] [] M P := by
  have f1 : ob M a0 0 := C0.o
  refine x_aload_n dX0_takenOut_0 0 rfl ?_
  refine x_iload_n dX0_takenOut_1 1 rfl ?_
  refine EX.sub [0, 1, 2] (K0.v (As := [.int i1]) (st := []) cvX0_73 dX0_takenOut_2 rfl rfl f1 rfl (Nat.le_of_ble_eq_true rfl) (k1)) rfl
set_option maxRecDepth 8000 in
theorem qX0_takenOut_5 {g : GG} {d : Nat} {M : MM} {P : Option Value → MM → Prop} {a0 : Nat} {i1 : Int32} {i2 : Int32} {s0 : Int32} (C0 : Cty M a0)
    (k1 : ¬ s0 = 0 → K0 g YX0_takenOut YX0_hatedIn d 16 [.ref a0, .int i1, .int i2] [(0, .ref a0), (1, .int i1), (2, .int i2)] [] M P)
    (k2 : s0 = 0 → P (some (.int 0)) M) :
    E0 g YX0_takenOut d 5 [(0, .ref a0), (1, .int i1), (2, .int i2)] [.int s0] M P := by
  have f1 : ob M a0 0 := C0.o
  refine x_if_ne 10 dX0_takenOut_5 (by decide) (fun c1 => ?_) (fun c1 => ?_)
  · refine x_aload_n dX0_takenOut_10 0 rfl ?_
    refine x_iload_n dX0_takenOut_11 1 rfl ?_
    refine x_iload_n dX0_takenOut_12 2 rfl ?_
    refine EX.sub [0, 1, 2] (K0.v (As := [.int i1, .int i2]) (st := []) cvX0_76 dX0_takenOut_13 rfl rfl f1 rfl (Nat.le_of_ble_eq_true rfl) (k1 c1)) rfl
  · refine x_iconst (v := 0) dX0_takenOut_8 (by decide) ?_
    exact x_iret rfl dX0_takenOut_9 (Nat.le_refl _) (Nat.le_refl _) (k2 c1)
set_option maxRecDepth 8000 in
theorem qX0_takenOut_16 {g : GG} {d : Nat} {M : MM} {P : Option Value → MM → Prop} {a0 : Nat} {i1 : Int32} {i2 : Int32} {s0 : Int32} (C0 : Cty M a0)
    (h1 : vp_in i1 6)
    (k1 : ((mi M (a0 + 6) (i1 : Int32).toNatClampNeg) : Int32).toInt < 1 ∨ 3 < ((mi M (a0 + 6) (i1 : Int32).toNatClampNeg) : Int32).toInt → P (some (.int s0)) M)
    (k2 : ((mi M (a0 + 6) (i1 : Int32).toNatClampNeg) : Int32).toInt = 1 → P (some (.int (s0 &&& (-s0)))) M)
    (k3 : ((mi M (a0 + 6) (i1 : Int32).toNatClampNeg) : Int32).toInt = 2 → K0 g YX0_takenOut YX0_behind d 60 [.ref a0, .int s0, .int i2] [] [.int s0] M P)
    (k4 : ((mi M (a0 + 6) (i1 : Int32).toNatClampNeg) : Int32).toInt = 3 → K0 g YX0_takenOut YX0_lastOf d 68 [.ref a0, .int i2] [] [.int s0] M P) :
    E0 g YX0_takenOut d 16 [(0, .ref a0), (1, .int i1), (2, .int i2)] [.int s0] M P := by
  have f1 : ob M a0 0 := C0.o
  have f2 : mr M a0 7 = some (a0 + 6) := C0.r7
  have f3 : ar M (a0 + 6) 1 6 := C0.a7
  refine x_istore_n (lv1 := [(3, .int s0), (0, .ref a0), (1, .int i1), (2, .int i2)]) dX0_takenOut_16 (by decide) rfl ?_
  refine x_aload_n dX0_takenOut_17 1 rfl ?_
  refine x_getR fdX0_28 rfl dX0_takenOut_18 f1.1 f1.2 f2 ?_
  refine x_iload_n dX0_takenOut_21 2 rfl ?_
  refine x_iald dX0_takenOut_22 f3.1 f3.2 (h1) ?_
  by_cases c1 : ((mi M (a0 + 6) (i1 : Int32).toNatClampNeg) : Int32).toInt < 1 ∨ 3 < ((mi M (a0 + 6) (i1 : Int32).toNatClampNeg) : Int32).toInt
  · refine x_tabOut 72 dX0_takenOut_23 c1 (by decide) ?_
    refine x_iload_n dX0_takenOut_72 0 rfl ?_
    exact x_iret rfl dX0_takenOut_73 (Nat.le_refl _) (Nat.le_refl _) (k1 c1)
  · have qc1 : ((mi M (a0 + 6) (i1 : Int32).toNatClampNeg) : Int32).toInt = 1 ∨ ((mi M (a0 + 6) (i1 : Int32).toNatClampNeg) : Int32).toInt = 2 ∨ ((mi M (a0 + 6) (i1 : Int32).toNatClampNeg) : Int32).toInt = 3 := by omega
    clear c1
    rcases qc1 with c1 | c1 | c1
    · refine x_tabIn 48 dX0_takenOut_23 (by omega) (by omega) (off := 25) (by rw [show (((mi M (a0 + 6) (i1 : Int32).toNatClampNeg) : Int32).toInt - 1).toNat = 0 by omega]; rfl) (by decide) ?_
      refine x_iload_n dX0_takenOut_48 0 rfl ?_
      refine x_iload_n dX0_takenOut_49 0 rfl ?_
      refine x_ineg dX0_takenOut_50 ?_
      refine x_iand dX0_takenOut_51 ?_
      exact x_iret rfl dX0_takenOut_52 (Nat.le_refl _) (Nat.le_refl _) (k2 c1)
    · refine x_tabIn 53 dX0_takenOut_23 (by omega) (by omega) (off := 30) (by rw [show (((mi M (a0 + 6) (i1 : Int32).toNatClampNeg) : Int32).toInt - 1).toNat = 1 by omega]; rfl) (by decide) ?_
      refine x_iload_n dX0_takenOut_53 0 rfl ?_
      refine x_aload_n dX0_takenOut_54 1 rfl ?_
      refine x_iload_n dX0_takenOut_55 0 rfl ?_
      refine x_iload_n dX0_takenOut_56 3 rfl ?_
      refine EX.sub [] (K0.v (As := [.int s0, .int i2]) (st := [.int s0]) cvX0_79 dX0_takenOut_57 rfl rfl f1 rfl (Nat.le_of_ble_eq_true rfl) (k3 c1)) rfl
    · refine x_tabIn 62 dX0_takenOut_23 (by omega) (by omega) (off := 39) (by rw [show (((mi M (a0 + 6) (i1 : Int32).toNatClampNeg) : Int32).toInt - 1).toNat = 2 by omega]; rfl) (by decide) ?_
      refine x_iload_n dX0_takenOut_62 0 rfl ?_
      refine x_aload_n dX0_takenOut_63 1 rfl ?_
      refine x_iload_n dX0_takenOut_64 3 rfl ?_
      refine EX.sub [] (K0.v (As := [.int i2]) (st := [.int s0]) cvX0_82 dX0_takenOut_65 rfl rfl f1 rfl (Nat.le_of_ble_eq_true rfl) (k4 c1)) rfl
set_option maxRecDepth 8000 in
theorem qX0_takenOut_60 {g : GG} {d : Nat} {M : MM} {P : Option Value → MM → Prop} {s0 : Int32} {s1 : Int32}
    (k1 : P (some (.int (s0 ||| s1))) M) :
    E0 g YX0_takenOut d 60 [] [.int s1, .int s0] M P := by
  refine x_ior dX0_takenOut_60 ?_
  exact x_iret rfl dX0_takenOut_61 (Nat.le_refl _) (Nat.le_refl _) (k1)
set_option maxRecDepth 8000 in
theorem qX0_takenOut_68 {g : GG} {d : Nat} {M : MM} {P : Option Value → MM → Prop} {s0 : Int32} {s1 : Int32}
    (k1 : P (some (.int (s0 &&& (s1 ^^^ (-1))))) M) :
    E0 g YX0_takenOut d 68 [] [.int s1, .int s0] M P := by
  refine x_iconst (v := (-1)) dX0_takenOut_68 (by decide) ?_
  refine x_ixor dX0_takenOut_69 ?_
  refine x_iand dX0_takenOut_70 ?_
  exact x_iret rfl dX0_takenOut_71 (Nat.le_refl _) (Nat.le_refl _) (k1)
set_option maxRecDepth 8000 in
theorem qX0_hatedIn_0 {g : GG} {d : Nat} {M : MM} {P : Option Value → MM → Prop} {a0 : Nat} {i1 : Int32} {i2 : Int32}
    (k1 : E0 g YX0_hatedIn d 12 [(0, .ref a0), (1, .int i1), (2, .int i2), (3, .int 0), (4, .int 0), (5, .int 10), (6, .int 0)] [] M P) :
    E0 g YX0_hatedIn d 0 [(0, .ref a0), (1, .int i1), (2, .int i2)] [] M P := by
  refine x_iconst (v := 0) dX0_hatedIn_0 (by decide) ?_
  refine x_istore_n (lv1 := [(3, .int 0), (0, .ref a0), (1, .int i1), (2, .int i2)]) dX0_hatedIn_1 (by decide) rfl ?_
  refine x_iconst (v := 0) dX0_hatedIn_2 (by decide) ?_
  refine x_istore (lv1 := [(4, .int 0), (3, .int 0), (0, .ref a0), (1, .int i1), (2, .int i2)]) dX0_hatedIn_3 (by decide) rfl ?_
  refine x_bipush (v := 10) dX0_hatedIn_5 (by decide) ?_
  refine x_istore (lv1 := [(5, .int 10), (4, .int 0), (3, .int 0), (0, .ref a0), (1, .int i1), (2, .int i2)]) dX0_hatedIn_7 (by decide) rfl ?_
  refine x_iconst (v := 0) dX0_hatedIn_9 (by decide) ?_
  refine x_istore (lv1 := [(6, .int 0), (5, .int 10), (4, .int 0), (3, .int 0), (0, .ref a0), (1, .int i1), (2, .int i2)]) dX0_hatedIn_10 (by decide) rfl ?_
  exact EX.sub [4, 5, 6, 3, 2, 1, 0] k1 rfl
set_option maxRecDepth 8000 in
theorem qX0_hatedIn_12 {g : GG} {d : Nat} {M : MM} {P : Option Value → MM → Prop} {a0 : Nat} {i1 : Int32} {i2 : Int32} {i3 : Int32} {i4 : Int32} {i5 : Int32} {i6 : Int32} (C0 : Cty M a0)
    (k1 : (mi M a0 0) ≤ i6 → P (some (.int i3)) M)
    (k2 : ¬ ((mi M a0 0) ≤ i6) → ¬ ((i2 >>> (i6 &&& 31)) &&& 1) = 1 → E0 g YX0_hatedIn d 12 [(0, .ref a0), (1, .int i1), (2, .int i2), (3, .int i3), (4, .int i4), (5, .int i5), (6, .int (i6 + 1))] [] M P)
    (k3 : ¬ ((mi M a0 0) ≤ i6) → ((i2 >>> (i6 &&& 31)) &&& 1) = 1 → K0 g YX0_hatedIn YX0_keyOf d 40 [.ref a0, .int i1, .int i6, .int i4] [(0, .ref a0), (1, .int i1), (2, .int i2), (3, .int i3), (4, .int i4), (5, .int i5), (6, .int i6)] [] M P) :
    E0 g YX0_hatedIn d 12 [(0, .ref a0), (1, .int i1), (2, .int i2), (3, .int i3), (4, .int i4), (5, .int i5), (6, .int i6)] [] M P := by
  have f1 : ob M a0 0 := C0.o
  refine x_iload dX0_hatedIn_12 6 rfl ?_
  refine x_aload_n dX0_hatedIn_14 0 rfl ?_
  refine x_getI fdX0_41 rfl dX0_hatedIn_15 f1.1 f1.2 ?_
  refine x_ic_ge 89 dX0_hatedIn_18 (by decide) (fun c1 => ?_) (fun c1 => ?_)
  · refine x_iload_n dX0_hatedIn_89 3 rfl ?_
    exact x_iret rfl dX0_hatedIn_90 (Nat.le_refl _) (Nat.le_refl _) (k1 c1)
  · refine x_iload_n dX0_hatedIn_21 2 rfl ?_
    refine x_iload dX0_hatedIn_22 6 rfl ?_
    refine x_ishr dX0_hatedIn_24 ?_
    refine x_iconst (v := 1) dX0_hatedIn_25 (by decide) ?_
    refine x_iand dX0_hatedIn_26 ?_
    refine x_iconst (v := 1) dX0_hatedIn_27 (by decide) ?_
    refine x_ic_ne 83 dX0_hatedIn_28 (by decide) (fun c2 => ?_) (fun c2 => ?_)
    · refine x_iinc (v := (i6 + 1)) (lv1 := [(6, .int (i6 + 1)), (0, .ref a0), (1, .int i1), (2, .int i2), (3, .int i3), (4, .int i4), (5, .int i5)]) dX0_hatedIn_83 6 rfl rfl (by decide) rfl ?_
      refine x_goto 12 dX0_hatedIn_86 (by decide) ?_
      exact EX.sub [1, 2, 3, 4, 5, 6, 0] (k2 c1 c2) rfl
    · refine x_aload_n dX0_hatedIn_31 0 rfl ?_
      refine x_iload_n dX0_hatedIn_32 1 rfl ?_
      refine x_iload dX0_hatedIn_33 6 rfl ?_
      refine x_iload dX0_hatedIn_35 4 rfl ?_
      refine EX.sub [0, 1, 2, 3, 4, 5, 6] (K0.v (As := [.int i1, .int i6, .int i4]) (st := []) cvX0_85 dX0_hatedIn_37 rfl rfl f1 rfl (Nat.le_of_ble_eq_true rfl) (k3 c1 c2)) rfl
set_option maxRecDepth 8000 in
theorem qX0_hatedIn_40 {g : GG} {d : Nat} {M : MM} {P : Option Value → MM → Prop} {a0 : Nat} {i1 : Int32} {i2 : Int32} {i3 : Int32} {i4 : Int32} {i5 : Int32} {i6 : Int32} {s0 : Int32} (C0 : Cty M a0)
    (h1 : s0 = (-1) → vp_in i6 10)
    (h2 : ¬ (s0 = (-1)) → vp_in s0 600)
    (h3 : ¬ (s0 = (-1)) → ¬ (((mi M (a0 + 11) (s0 : Int32).toNatClampNeg) >>> (i5 &&& 31)) &&& 1) = 1 → vp_in i6 10)
    (h4 : ¬ (s0 = (-1)) → (((mi M (a0 + 11) (s0 : Int32).toNatClampNeg) >>> (i5 &&& 31)) &&& 1) = 1 → vp_in i6 10)
    (k1 : s0 = (-1) → E0 g YX0_hatedIn d 12 [(0, .ref a0), (1, .int i1), (2, .int i2), (3, .int i3), (4, .int (i4 + 1)), (5, .int (mi M (a0 + 2) (i6 : Int32).toNatClampNeg)), (6, .int (i6 + 1))] [] M P)
    (k2 : ¬ (s0 = (-1)) → ¬ (((mi M (a0 + 11) (s0 : Int32).toNatClampNeg) >>> (i5 &&& 31)) &&& 1) = 1 → E0 g YX0_hatedIn d 12 [(0, .ref a0), (1, .int i1), (2, .int i2), (3, .int i3), (4, .int (i4 + 1)), (5, .int (mi M (a0 + 2) (i6 : Int32).toNatClampNeg)), (6, .int (i6 + 1))] [] M P)
    (k3 : ¬ (s0 = (-1)) → (((mi M (a0 + 11) (s0 : Int32).toNatClampNeg) >>> (i5 &&& 31)) &&& 1) = 1 → E0 g YX0_hatedIn d 12 [(0, .ref a0), (1, .int i1), (2, .int i2), (3, .int (i3 ||| ((1 : Int32) <<< (i6 &&& 31)))), (4, .int (i4 + 1)), (5, .int (mi M (a0 + 2) (i6 : Int32).toNatClampNeg)), (6, .int (i6 + 1))] [] M P) :
    E0 g YX0_hatedIn d 40 [(0, .ref a0), (1, .int i1), (2, .int i2), (3, .int i3), (4, .int i4), (5, .int i5), (6, .int i6)] [.int s0] M P := by
  have f1 : ob M a0 0 := C0.o
  have f2 : mr M a0 2 = some (a0 + 2) := C0.r2
  have f3 : ar M (a0 + 2) 1 10 := C0.a2
  have f4 : mr M a0 9 = some (a0 + 11) := C0.r9
  have f5 : ar M (a0 + 11) 1 600 := C0.a9
  refine x_istore (lv1 := [(7, .int s0), (0, .ref a0), (1, .int i1), (2, .int i2), (3, .int i3), (4, .int i4), (5, .int i5), (6, .int i6)]) dX0_hatedIn_40 (by decide) rfl ?_
  refine x_iload dX0_hatedIn_42 0 rfl ?_
  refine x_iconst (v := (-1)) dX0_hatedIn_44 (by decide) ?_
  refine x_ic_eq 71 dX0_hatedIn_45 (by decide) (fun c1 => ?_) (fun c1 => ?_)
  · refine x_iinc (v := (i4 + 1)) (lv1 := [(4, .int (i4 + 1)), (7, .int s0), (0, .ref a0), (1, .int i1), (2, .int i2), (3, .int i3), (5, .int i5), (6, .int i6)]) dX0_hatedIn_71 5 rfl rfl (by decide) rfl ?_
    refine x_aload_n dX0_hatedIn_74 2 rfl ?_
    refine x_getR fdX0_15 rfl dX0_hatedIn_75 f1.1 f1.2 f2 ?_
    refine x_iload dX0_hatedIn_78 7 rfl ?_
    refine x_iald dX0_hatedIn_80 f3.1 f3.2 (h1 c1) ?_
    refine x_istore (lv1 := [(5, .int (mi M (a0 + 2) (i6 : Int32).toNatClampNeg)), (4, .int (i4 + 1)), (7, .int s0), (0, .ref a0), (1, .int i1), (2, .int i2), (3, .int i3), (6, .int i6)]) dX0_hatedIn_81 (by decide) rfl ?_
    refine x_iinc (v := (i6 + 1)) (lv1 := [(6, .int (i6 + 1)), (5, .int (mi M (a0 + 2) (i6 : Int32).toNatClampNeg)), (4, .int (i4 + 1)), (7, .int s0), (0, .ref a0), (1, .int i1), (2, .int i2), (3, .int i3)]) dX0_hatedIn_83 7 rfl rfl (by decide) rfl ?_
    refine x_goto 12 dX0_hatedIn_86 (by decide) ?_
    exact EX.sub [4, 5, 6, 7, 2, 1, 0] (k1 c1) rfl
  · refine x_aload_n dX0_hatedIn_48 1 rfl ?_
    refine x_getR fdX0_38 rfl dX0_hatedIn_49 f1.1 f1.2 f4 ?_
    refine x_iload dX0_hatedIn_52 0 rfl ?_
    refine x_iald dX0_hatedIn_54 f5.1 f5.2 (h2 c1) ?_
    refine x_iload dX0_hatedIn_55 6 rfl ?_
    refine x_ishr dX0_hatedIn_57 ?_
    refine x_iconst (v := 1) dX0_hatedIn_58 (by decide) ?_
    refine x_iand dX0_hatedIn_59 ?_
    refine x_iconst (v := 1) dX0_hatedIn_60 (by decide) ?_
    refine x_ic_ne 71 dX0_hatedIn_61 (by decide) (fun c2 => ?_) (fun c2 => ?_)
    · refine x_iinc (v := (i4 + 1)) (lv1 := [(4, .int (i4 + 1)), (7, .int s0), (0, .ref a0), (1, .int i1), (2, .int i2), (3, .int i3), (5, .int i5), (6, .int i6)]) dX0_hatedIn_71 5 rfl rfl (by decide) rfl ?_
      refine x_aload_n dX0_hatedIn_74 2 rfl ?_
      refine x_getR fdX0_15 rfl dX0_hatedIn_75 f1.1 f1.2 f2 ?_
      refine x_iload dX0_hatedIn_78 7 rfl ?_
      refine x_iald dX0_hatedIn_80 f3.1 f3.2 (h3 c1 c2) ?_
      refine x_istore (lv1 := [(5, .int (mi M (a0 + 2) (i6 : Int32).toNatClampNeg)), (4, .int (i4 + 1)), (7, .int s0), (0, .ref a0), (1, .int i1), (2, .int i2), (3, .int i3), (6, .int i6)]) dX0_hatedIn_81 (by decide) rfl ?_
      refine x_iinc (v := (i6 + 1)) (lv1 := [(6, .int (i6 + 1)), (5, .int (mi M (a0 + 2) (i6 : Int32).toNatClampNeg)), (4, .int (i4 + 1)), (7, .int s0), (0, .ref a0), (1, .int i1), (2, .int i2), (3, .int i3)]) dX0_hatedIn_83 7 rfl rfl (by decide) rfl ?_
      refine x_goto 12 dX0_hatedIn_86 (by decide) ?_
      exact EX.sub [4, 5, 6, 7, 2, 1, 0] (k2 c1 c2) rfl
    · refine x_iload_n dX0_hatedIn_64 4 rfl ?_
      refine x_iconst (v := 1) dX0_hatedIn_65 (by decide) ?_
      refine x_iload dX0_hatedIn_66 7 rfl ?_
      refine x_ishl dX0_hatedIn_68 ?_
      refine x_ior dX0_hatedIn_69 ?_
      refine x_istore_n (lv1 := [(3, .int (i3 ||| ((1 : Int32) <<< (i6 &&& 31)))), (7, .int s0), (0, .ref a0), (1, .int i1), (2, .int i2), (4, .int i4), (5, .int i5), (6, .int i6)]) dX0_hatedIn_70 (by decide) rfl ?_
      refine x_iinc (v := (i4 + 1)) (lv1 := [(4, .int (i4 + 1)), (3, .int (i3 ||| ((1 : Int32) <<< (i6 &&& 31)))), (7, .int s0), (0, .ref a0), (1, .int i1), (2, .int i2), (5, .int i5), (6, .int i6)]) dX0_hatedIn_71 5 rfl rfl (by decide) rfl ?_
      refine x_aload_n dX0_hatedIn_74 3 rfl ?_
      refine x_getR fdX0_15 rfl dX0_hatedIn_75 f1.1 f1.2 f2 ?_
      refine x_iload dX0_hatedIn_78 7 rfl ?_
      refine x_iald dX0_hatedIn_80 f3.1 f3.2 (h4 c1 c2) ?_
      refine x_istore (lv1 := [(5, .int (mi M (a0 + 2) (i6 : Int32).toNatClampNeg)), (4, .int (i4 + 1)), (3, .int (i3 ||| ((1 : Int32) <<< (i6 &&& 31)))), (7, .int s0), (0, .ref a0), (1, .int i1), (2, .int i2), (6, .int i6)]) dX0_hatedIn_81 (by decide) rfl ?_
      refine x_iinc (v := (i6 + 1)) (lv1 := [(6, .int (i6 + 1)), (5, .int (mi M (a0 + 2) (i6 : Int32).toNatClampNeg)), (4, .int (i4 + 1)), (3, .int (i3 ||| ((1 : Int32) <<< (i6 &&& 31)))), (7, .int s0), (0, .ref a0), (1, .int i1), (2, .int i2)]) dX0_hatedIn_83 7 rfl rfl (by decide) rfl ?_
      refine x_goto 12 dX0_hatedIn_86 (by decide) ?_
      exact EX.sub [5, 6, 7, 3, 2, 1, 0] (k3 c1 c2) rfl
set_option maxRecDepth 8000 in
theorem qX0_judgeAll_0 {g : GG} {d : Nat} {M : MM} {P : Option Value → MM → Prop} {a0 : Nat}
    (k1 : E0 g YX0_judgeAll d 2 [(0, .ref a0), (1, .int 0)] [] M P) :
    E0 g YX0_judgeAll d 0 [(0, .ref a0)] [] M P := by
  refine x_iconst (v := 0) dX0_judgeAll_0 (by decide) ?_
  refine x_istore_n (lv1 := [(1, .int 0), (0, .ref a0)]) dX0_judgeAll_1 (by decide) rfl ?_
  exact EX.sub [1, 0] k1 rfl
set_option maxRecDepth 8000 in
theorem qX0_judgeAll_2 {g : GG} {d : Nat} {M : MM} {P : Option Value → MM → Prop} {a0 : Nat} {i1 : Int32} (C0 : Cty M a0)
    (k1 : (mi M a0 5) ≤ i1 → P none M)
    (k2 : ¬ ((mi M a0 5) ≤ i1) → E0 g YX0_judgeAll d 14 [(0, .ref a0), (1, .int i1), (2, .int 0), (3, .int 0)] [] M P) :
    E0 g YX0_judgeAll d 2 [(0, .ref a0), (1, .int i1)] [] M P := by
  have f1 : ob M a0 0 := C0.o
  refine x_iload_n dX0_judgeAll_2 1 rfl ?_
  refine x_aload_n dX0_judgeAll_3 0 rfl ?_
  refine x_getI fdX0_45 rfl dX0_judgeAll_4 f1.1 f1.2 ?_
  refine x_ic_ge 79 dX0_judgeAll_7 (by decide) (fun c1 => ?_) (fun c1 => ?_)
  · exact x_vret rfl dX0_judgeAll_79 (Nat.le_refl _) (Nat.le_refl _) (k1 c1)
  · refine x_iconst (v := 0) dX0_judgeAll_10 (by decide) ?_
    refine x_istore_n (lv1 := [(2, .int 0), (0, .ref a0), (1, .int i1)]) dX0_judgeAll_11 (by decide) rfl ?_
    refine x_iconst (v := 0) dX0_judgeAll_12 (by decide) ?_
    refine x_istore_n (lv1 := [(3, .int 0), (2, .int 0), (0, .ref a0), (1, .int i1)]) dX0_judgeAll_13 (by decide) rfl ?_
    exact EX.sub [2, 3, 1, 0] (k2 c1) rfl
set_option maxRecDepth 8000 in
theorem qX0_judgeAll_14 {g : GG} {d : Nat} {M : MM} {P : Option Value → MM → Prop} {a0 : Nat} {i1 : Int32} {i2 : Int32} {i3 : Int32} (C0 : Cty M a0)
    (k1 : (mi M a0 0) ≤ i3 → E0 g YX0_judgeAll d 2 [(0, .ref a0), (1, .int (i1 + 1))] [] M P)
    (k2 : ¬ ((mi M a0 0) ≤ i3) → K0 g YX0_judgeAll YX0_judge d 32 [.ref a0, .int i1, .int i3, .int 0, .int 1024] [(0, .ref a0), (1, .int i1), (2, .int i2), (3, .int i3)] [] M P) :
    E0 g YX0_judgeAll d 14 [(0, .ref a0), (1, .int i1), (2, .int i2), (3, .int i3)] [] M P := by
  have f1 : ob M a0 0 := C0.o
  refine x_iload_n dX0_judgeAll_14 3 rfl ?_
  refine x_aload_n dX0_judgeAll_15 0 rfl ?_
  refine x_getI fdX0_41 rfl dX0_judgeAll_16 f1.1 f1.2 ?_
  refine x_ic_ge 73 dX0_judgeAll_19 (by decide) (fun c1 => ?_) (fun c1 => ?_)
  · refine x_iinc (v := (i1 + 1)) (lv1 := [(1, .int (i1 + 1)), (0, .ref a0), (2, .int i2), (3, .int i3)]) dX0_judgeAll_73 1 rfl rfl (by decide) rfl ?_
    refine x_goto 2 dX0_judgeAll_76 (by decide) ?_
    exact EX.sub [1, 0] (k1 c1) rfl
  · refine x_aload_n dX0_judgeAll_22 0 rfl ?_
    refine x_iload_n dX0_judgeAll_23 1 rfl ?_
    refine x_iload_n dX0_judgeAll_24 3 rfl ?_
    refine x_iconst (v := 0) dX0_judgeAll_25 (by decide) ?_
    refine x_sipush (v := 1024) dX0_judgeAll_26 (by decide) ?_
    refine EX.sub [0, 1, 2, 3] (K0.v (As := [.int i1, .int i3, .int 0, .int 1024]) (st := []) cvX0_89 dX0_judgeAll_29 rfl rfl f1 rfl (Nat.le_of_ble_eq_true rfl) (k2 c1)) rfl
set_option maxRecDepth 8000 in
theorem qX0_judgeAll_32 {g : GG} {d : Nat} {M : MM} {P : Option Value → MM → Prop} {a0 : Nat} {i1 : Int32} {i2 : Int32} {i3 : Int32}
    (k1 : E0 g YX0_judgeAll d 35 [(0, .ref a0), (1, .int i1), (2, .int i2), (3, .int i3), (4, .int 1)] [] M P) :
    E0 g YX0_judgeAll d 32 [(0, .ref a0), (1, .int i1), (2, .int i2), (3, .int i3)] [] M P := by
  refine x_iconst (v := 1) dX0_judgeAll_32 (by decide) ?_
  refine x_istore (lv1 := [(4, .int 1), (0, .ref a0), (1, .int i1), (2, .int i2), (3, .int i3)]) dX0_judgeAll_33 (by decide) rfl ?_
  exact EX.sub [1, 2, 3, 4, 0] k1 rfl
set_option maxRecDepth 8000 in
theorem qX0_judgeAll_35 {g : GG} {d : Nat} {M : MM} {P : Option Value → MM → Prop} {a0 : Nat} {i1 : Int32} {i2 : Int32} {i3 : Int32} {i4 : Int32} (C0 : Cty M a0)
    (h1 : i3 < i4 → vp_in i3 10)
    (k1 : i3 < i4 → E0 g YX0_judgeAll d 14 [(0, .ref a0), (1, .int i1), (2, .int (i2 ||| ((1 : Int32) <<< ((mi M (a0 + 2) (i3 : Int32).toNatClampNeg) &&& 31)))), (3, .int (i3 + 1))] [] M P)
    (k2 : ¬ (i3 < i4) → K0 g YX0_judgeAll YX0_judge d 50 [.ref a0, .int i1, .int i3, .int i4, .int i2] [(0, .ref a0), (1, .int i1), (2, .int i2), (3, .int i3), (4, .int i4)] [] M P) :
    E0 g YX0_judgeAll d 35 [(0, .ref a0), (1, .int i1), (2, .int i2), (3, .int i3), (4, .int i4)] [] M P := by
  have f1 : ob M a0 0 := C0.o
  have f2 : mr M a0 2 = some (a0 + 2) := C0.r2
  have f3 : ar M (a0 + 2) 1 10 := C0.a2
  refine x_iload dX0_judgeAll_35 4 rfl ?_
  refine x_iload_n dX0_judgeAll_37 3 rfl ?_
  refine x_ic_gt 56 dX0_judgeAll_38 (by decide) (fun c1 => ?_) (fun c1 => ?_)
  · refine x_iload_n dX0_judgeAll_56 2 rfl ?_
    refine x_iconst (v := 1) dX0_judgeAll_57 (by decide) ?_
    refine x_aload_n dX0_judgeAll_58 0 rfl ?_
    refine x_getR fdX0_15 rfl dX0_judgeAll_59 f1.1 f1.2 f2 ?_
    refine x_iload_n dX0_judgeAll_62 3 rfl ?_
    refine x_iald dX0_judgeAll_63 f3.1 f3.2 (h1 c1) ?_
    refine x_ishl dX0_judgeAll_64 ?_
    refine x_ior dX0_judgeAll_65 ?_
    refine x_istore_n (lv1 := [(2, .int (i2 ||| ((1 : Int32) <<< ((mi M (a0 + 2) (i3 : Int32).toNatClampNeg) &&& 31)))), (0, .ref a0), (1, .int i1), (3, .int i3), (4, .int i4)]) dX0_judgeAll_66 (by decide) rfl ?_
    refine x_iinc (v := (i3 + 1)) (lv1 := [(3, .int (i3 + 1)), (2, .int (i2 ||| ((1 : Int32) <<< ((mi M (a0 + 2) (i3 : Int32).toNatClampNeg) &&& 31)))), (0, .ref a0), (1, .int i1), (4, .int i4)]) dX0_judgeAll_67 3 rfl rfl (by decide) rfl ?_
    refine x_goto 14 dX0_judgeAll_70 (by decide) ?_
    exact EX.sub [2, 3, 1, 0] (k1 c1) rfl
  · refine x_aload_n dX0_judgeAll_41 0 rfl ?_
    refine x_iload_n dX0_judgeAll_42 1 rfl ?_
    refine x_iload_n dX0_judgeAll_43 3 rfl ?_
    refine x_iload dX0_judgeAll_44 4 rfl ?_
    refine x_iload_n dX0_judgeAll_46 2 rfl ?_
    refine EX.sub [0, 1, 2, 3, 4] (K0.v (As := [.int i1, .int i3, .int i4, .int i2]) (st := []) cvX0_89 dX0_judgeAll_47 rfl rfl f1 rfl (Nat.le_of_ble_eq_true rfl) (k2 c1)) rfl
set_option maxRecDepth 8000 in
theorem qX0_judgeAll_50 {g : GG} {d : Nat} {M : MM} {P : Option Value → MM → Prop} {a0 : Nat} {i1 : Int32} {i2 : Int32} {i3 : Int32} {i4 : Int32}
    (k1 : E0 g YX0_judgeAll d 35 [(0, .ref a0), (1, .int i1), (2, .int i2), (3, .int i3), (4, .int (i4 + 1))] [] M P) :
    E0 g YX0_judgeAll d 50 [(0, .ref a0), (1, .int i1), (2, .int i2), (3, .int i3), (4, .int i4)] [] M P := by
  refine x_iinc (v := (i4 + 1)) (lv1 := [(4, .int (i4 + 1)), (0, .ref a0), (1, .int i1), (2, .int i2), (3, .int i3)]) dX0_judgeAll_50 4 rfl rfl (by decide) rfl ?_
  refine x_goto 35 dX0_judgeAll_53 (by decide) ?_
  exact EX.sub [1, 2, 3, 4, 0] k1 rfl
set_option maxRecDepth 8000 in
theorem qX0_judge_0 {g : GG} {d : Nat} {M : MM} {P : Option Value → MM → Prop} {a0 : Nat} {i1 : Int32} {i2 : Int32} {i3 : Int32} {i4 : Int32} (C0 : Cty M a0)
    (k1 : K0 g YX0_judge YX0_keyOf d 7 [.ref a0, .int i1, .int i2, .int i3] [(0, .ref a0), (1, .int i1), (2, .int i2), (3, .int i3), (4, .int i4)] [] M P) :
    E0 g YX0_judge d 0 [(0, .ref a0), (1, .int i1), (2, .int i2), (3, .int i3), (4, .int i4)] [] M P := by
  have f1 : ob M a0 0 := C0.o
  refine x_aload_n dX0_judge_0 0 rfl ?_
  refine x_iload_n dX0_judge_1 1 rfl ?_
  refine x_iload_n dX0_judge_2 2 rfl ?_
  refine x_iload_n dX0_judge_3 3 rfl ?_
  refine EX.sub [0, 1, 2, 3, 4] (K0.v (As := [.int i1, .int i2, .int i3]) (st := []) cvX0_85 dX0_judge_4 rfl rfl f1 rfl (Nat.le_of_ble_eq_true rfl) (k1)) rfl
set_option maxRecDepth 8000 in
theorem qX0_judge_7 {g : GG} {d : Nat} {M : MM} {P : Option Value → MM → Prop} {a0 : Nat} {i1 : Int32} {i2 : Int32} {i3 : Int32} {i4 : Int32} {s0 : Int32} {M1 : MM} (C0 : Cty M a0)
    (qM1 : M1 = wi M (a0 + 11) (s0 : Int32).toNatClampNeg 0)
    (h1 : ¬ s0 = (-1) → vp_in s0 600)
    (k1 : ¬ s0 = (-1) → E0 g YX0_judge d 27 [(0, .ref a0), (1, .int i1), (2, .int i2), (3, .int i3), (4, .int i4), (5, .int s0), (6, .int 0)] [] M1 P)
    (k2 : s0 = (-1) → P none M) :
    E0 g YX0_judge d 7 [(0, .ref a0), (1, .int i1), (2, .int i2), (3, .int i3), (4, .int i4)] [.int s0] M P := by
  have f1 : ob M a0 0 := C0.o
  have f2 : mr M a0 9 = some (a0 + 11) := C0.r9
  have f3 : ar M (a0 + 11) 1 600 := C0.a9
  subst qM1
  refine x_istore (lv1 := [(5, .int s0), (0, .ref a0), (1, .int i1), (2, .int i2), (3, .int i3), (4, .int i4)]) dX0_judge_7 (by decide) rfl ?_
  refine x_iload dX0_judge_9 0 rfl ?_
  refine x_iconst (v := (-1)) dX0_judge_11 (by decide) ?_
  refine x_ic_ne 16 dX0_judge_12 (by decide) (fun c1 => ?_) (fun c1 => ?_)
  · refine x_aload_n dX0_judge_16 1 rfl ?_
    refine x_getR fdX0_38 rfl dX0_judge_17 f1.1 f1.2 f2 ?_
    refine x_iload dX0_judge_20 0 rfl ?_
    refine x_iconst (v := 0) dX0_judge_22 (by decide) ?_
    refine x_iast dX0_judge_23 f3.1 f3.2 (h1 c1) ?_
    refine x_iconst (v := 0) dX0_judge_24 (by decide) ?_
    refine x_istore (lv1 := [(6, .int 0), (5, .int s0), (0, .ref a0), (1, .int i1), (2, .int i2), (3, .int i3), (4, .int i4)]) dX0_judge_25 (by decide) rfl ?_
    exact EX.sub [2, 3, 4, 5, 6, 1, 0] (k1 c1) rfl
  · exact x_vret rfl dX0_judge_15 (Nat.le_refl _) (Nat.le_refl _) (k2 c1)
set_option maxRecDepth 8000 in
theorem qX0_judge_27 {g : GG} {d : Nat} {M : MM} {P : Option Value → MM → Prop} {a0 : Nat} {i1 : Int32} {i2 : Int32} {i3 : Int32} {i4 : Int32} {i5 : Int32} {i6 : Int32} (C0 : Cty M a0)
    (h1 : ¬ (10 < i6) → ((i4 >>> (i6 &&& 31)) &&& 1) = 1 → vp_in i2 10)
    (h2 : ¬ (10 < i6) → ((i4 >>> (i6 &&& 31)) &&& 1) = 1 → vp_in i2 10)
    (k1 : 10 < i6 → P none M)
    (k2 : ¬ (10 < i6) → ¬ ((i4 >>> (i6 &&& 31)) &&& 1) = 1 → E0 g YX0_judge d 27 [(0, .ref a0), (1, .int i1), (2, .int i2), (3, .int i3), (4, .int i4), (5, .int i5), (6, .int (i6 + 1))] [] M P)
    (k3 : ¬ (10 < i6) → ((i4 >>> (i6 &&& 31)) &&& 1) = 1 → K0 g YX0_judge YX2_valueFor d 68 [.ref (a0 + 7), .int i1, .int (mi M (a0 + 2) (i2 : Int32).toNatClampNeg), .int (mi M (a0 + 3) (i2 : Int32).toNatClampNeg), .int i3, .int i6] [(0, .ref a0), (1, .int i1), (2, .int i2), (3, .int i3), (4, .int i4), (5, .int i5), (6, .int i6)] [] M P) :
    E0 g YX0_judge d 27 [(0, .ref a0), (1, .int i1), (2, .int i2), (3, .int i3), (4, .int i4), (5, .int i5), (6, .int i6)] [] M P := by
  have f1 : ob M a0 0 := C0.o
  have f2 : mr M a0 8 = some (a0 + 7) := C0.r8
  have f3 : mr M a0 2 = some (a0 + 2) := C0.r2
  have f4 : ar M (a0 + 2) 1 10 := C0.a2
  have f5 : mr M a0 3 = some (a0 + 3) := C0.r3
  have f6 : ar M (a0 + 3) 1 10 := C0.a3
  have f7 : ob M (a0 + 7) 2 := C0.a8.o
  refine x_iload dX0_judge_27 6 rfl ?_
  refine x_bipush (v := 10) dX0_judge_29 (by decide) ?_
  refine x_ic_gt 91 dX0_judge_31 (by decide) (fun c1 => ?_) (fun c1 => ?_)
  · exact x_vret rfl dX0_judge_91 (Nat.le_refl _) (Nat.le_refl _) (k1 c1)
  · refine x_iload dX0_judge_34 4 rfl ?_
    refine x_iload dX0_judge_36 6 rfl ?_
    refine x_ishr dX0_judge_38 ?_
    refine x_iconst (v := 1) dX0_judge_39 (by decide) ?_
    refine x_iand dX0_judge_40 ?_
    refine x_iconst (v := 1) dX0_judge_41 (by decide) ?_
    refine x_ic_ne 85 dX0_judge_42 (by decide) (fun c2 => ?_) (fun c2 => ?_)
    · refine x_iinc (v := (i6 + 1)) (lv1 := [(6, .int (i6 + 1)), (0, .ref a0), (1, .int i1), (2, .int i2), (3, .int i3), (4, .int i4), (5, .int i5)]) dX0_judge_85 6 rfl rfl (by decide) rfl ?_
      refine x_goto 27 dX0_judge_88 (by decide) ?_
      exact EX.sub [1, 2, 3, 4, 5, 6, 0] (k2 c1 c2) rfl
    · refine x_aload_n dX0_judge_45 0 rfl ?_
      refine x_getR fdX0_34 rfl dX0_judge_46 f1.1 f1.2 f2 ?_
      refine x_iload_n dX0_judge_49 1 rfl ?_
      refine x_aload_n dX0_judge_50 0 rfl ?_
      refine x_getR fdX0_15 rfl dX0_judge_51 f1.1 f1.2 f3 ?_
      refine x_iload_n dX0_judge_54 2 rfl ?_
      refine x_iald dX0_judge_55 f4.1 f4.2 (h1 c1 c2) ?_
      refine x_aload_n dX0_judge_56 0 rfl ?_
      refine x_getR fdX0_19 rfl dX0_judge_57 f1.1 f1.2 f5 ?_
      refine x_iload_n dX0_judge_60 2 rfl ?_
      refine x_iald dX0_judge_61 f6.1 f6.2 (h2 c1 c2) ?_
      refine x_iload_n dX0_judge_62 3 rfl ?_
      refine x_iload dX0_judge_63 6 rfl ?_
      refine EX.sub [0, 1, 2, 3, 4, 5, 6] (K0.v (As := [.int i1, .int (mi M (a0 + 2) (i2 : Int32).toNatClampNeg), .int (mi M (a0 + 3) (i2 : Int32).toNatClampNeg), .int i3, .int i6]) (st := []) cvX0_93 dX0_judge_65 rfl rfl f7 rfl (Nat.le_of_ble_eq_true rfl) (k3 c1 c2)) rfl
set_option maxRecDepth 8000 in
theorem qX0_judge_68 {g : GG} {d : Nat} {M : MM} {P : Option Value → MM → Prop} {a0 : Nat} {i1 : Int32} {i2 : Int32} {i3 : Int32} {i4 : Int32} {i5 : Int32} {i6 : Int32} {s0 : Int32} {M1 : MM} (C0 : Cty M a0)
    (qM1 : M1 = wi M (a0 + 11) (i5 : Int32).toNatClampNeg ((mi M (a0 + 11) (i5 : Int32).toNatClampNeg) ||| ((1 : Int32) <<< (i6 &&& 31))))
    (h1 : ¬ (s0 = 0) → vp_in i5 600)
    (k1 : s0 = 0 → E0 g YX0_judge d 27 [(0, .ref a0), (1, .int i1), (2, .int i2), (3, .int i3), (4, .int i4), (5, .int i5), (6, .int (i6 + 1))] [] M P)
    (k2 : ¬ (s0 = 0) → E0 g YX0_judge d 27 [(0, .ref a0), (1, .int i1), (2, .int i2), (3, .int i3), (4, .int i4), (5, .int i5), (6, .int (i6 + 1))] [] M1 P) :
    E0 g YX0_judge d 68 [(0, .ref a0), (1, .int i1), (2, .int i2), (3, .int i3), (4, .int i4), (5, .int i5), (6, .int i6)] [.int s0] M P := by
  have f1 : ob M a0 0 := C0.o
  have f2 : mr M a0 9 = some (a0 + 11) := C0.r9
  have f3 : ar M (a0 + 11) 1 600 := C0.a9
  subst qM1
  refine x_if_eq 85 dX0_judge_68 (by decide) (fun c1 => ?_) (fun c1 => ?_)
  · refine x_iinc (v := (i6 + 1)) (lv1 := [(6, .int (i6 + 1)), (0, .ref a0), (1, .int i1), (2, .int i2), (3, .int i3), (4, .int i4), (5, .int i5)]) dX0_judge_85 6 rfl rfl (by decide) rfl ?_
    refine x_goto 27 dX0_judge_88 (by decide) ?_
    exact EX.sub [1, 2, 3, 4, 5, 6, 0] (k1 c1) rfl
  · refine x_aload_n dX0_judge_71 0 rfl ?_
    refine x_getR fdX0_38 rfl dX0_judge_72 f1.1 f1.2 f2 ?_
    refine x_iload dX0_judge_75 5 rfl ?_
    refine x_dup2 dX0_judge_77 rfl rfl ?_
    refine x_iald dX0_judge_78 f3.1 f3.2 (h1 c1) ?_
    refine x_iconst (v := 1) dX0_judge_79 (by decide) ?_
    refine x_iload dX0_judge_80 6 rfl ?_
    refine x_ishl dX0_judge_82 ?_
    refine x_ior dX0_judge_83 ?_
    refine x_iast dX0_judge_84 f3.1 f3.2 (h1 c1) ?_
    refine x_iinc (v := (i6 + 1)) (lv1 := [(6, .int (i6 + 1)), (0, .ref a0), (1, .int i1), (2, .int i2), (3, .int i3), (4, .int i4), (5, .int i5)]) dX0_judge_85 6 rfl rfl (by decide) rfl ?_
    refine x_goto 27 dX0_judge_88 (by decide) ?_
    exact EX.sub [1, 2, 3, 4, 5, 6, 0] (k2 c1) rfl
set_option maxRecDepth 8000 in
theorem qX0_keyOf_0 {g : GG} {d : Nat} {M : MM} {P : Option Value → MM → Prop} {a0 : Nat} {i1 : Int32} {i2 : Int32} {i3 : Int32} (C0 : Cty M a0)
    (k1 : K0 g YX0_keyOf YX0_isHall d 5 [.ref a0, .int i1] [(0, .ref a0), (1, .int i1), (2, .int i2), (3, .int i3)] [] M P) :
    E0 g YX0_keyOf d 0 [(0, .ref a0), (1, .int i1), (2, .int i2), (3, .int i3)] [] M P := by
  have f1 : ob M a0 0 := C0.o
  refine x_aload_n dX0_keyOf_0 0 rfl ?_
  refine x_iload_n dX0_keyOf_1 1 rfl ?_
  refine EX.sub [0, 1, 2, 3] (K0.v (As := [.int i1]) (st := []) cvX0_73 dX0_keyOf_2 rfl rfl f1 rfl (Nat.le_of_ble_eq_true rfl) (k1)) rfl
set_option maxRecDepth 8000 in
theorem qX0_keyOf_5 {g : GG} {d : Nat} {M : MM} {P : Option Value → MM → Prop} {a0 : Nat} {i1 : Int32} {i2 : Int32} {i3 : Int32} {s0 : Int32} (C0 : Cty M a0)
    (k1 : s0 = 0 → P (some (.int (-1))) M)
    (k2 : ¬ (s0 = 0) → K0 g YX0_keyOf YX0_isShot d 13 [.ref a0, .int i2] [(1, .int i1), (2, .int i2), (3, .int i3)] [] M P) :
    E0 g YX0_keyOf d 5 [(0, .ref a0), (1, .int i1), (2, .int i2), (3, .int i3)] [.int s0] M P := by
  have f1 : ob M a0 0 := C0.o
  refine x_if_eq 30 dX0_keyOf_5 (by decide) (fun c1 => ?_) (fun c1 => ?_)
  · refine x_iconst (v := 0) dX0_keyOf_30 (by decide) ?_
    refine x_istore (lv1 := [(4, .int 0), (0, .ref a0), (1, .int i1), (2, .int i2), (3, .int i3)]) dX0_keyOf_31 (by decide) rfl ?_
    refine x_iload dX0_keyOf_33 0 rfl ?_
    refine x_if_eq 52 dX0_keyOf_35 (by decide) (fun _ => ?_) (fun cz => absurd cz (by decide))
    refine x_iconst (v := (-1)) dX0_keyOf_52 (by decide) ?_
    exact x_iret rfl dX0_keyOf_53 (Nat.le_refl _) (Nat.le_refl _) (k1 c1)
  · refine x_aload_n dX0_keyOf_8 0 rfl ?_
    refine x_iload_n dX0_keyOf_9 2 rfl ?_
    refine EX.sub [1, 2, 3] (K0.v (As := [.int i2]) (st := []) cvX0_51 dX0_keyOf_10 rfl rfl f1 rfl (Nat.le_of_ble_eq_true rfl) (k2 c1)) rfl
set_option maxRecDepth 8000 in
theorem qX0_keyOf_13 {g : GG} {d : Nat} {M : MM} {P : Option Value → MM → Prop} {i1 : Int32} {i2 : Int32} {i3 : Int32} {s0 : Int32}
    (k1 : s0 = 0 → P (some (.int (-1))) M)
    (k2 : ¬ (s0 = 0) → i3 < 0 → P (some (.int (-1))) M)
    (k3 : ¬ (s0 = 0) → ¬ (i3 < 0) → 10 ≤ i3 → P (some (.int (-1))) M)
    (k4 : ¬ (s0 = 0) → ¬ (i3 < 0) → ¬ (10 ≤ i3) → P (some (.int ((((i1 * 10) + i2) * 10) + i3))) M) :
    E0 g YX0_keyOf d 13 [(1, .int i1), (2, .int i2), (3, .int i3)] [.int s0] M P := by
  refine x_if_eq 30 dX0_keyOf_13 (by decide) (fun c1 => ?_) (fun c1 => ?_)
  · refine x_iconst (v := 0) dX0_keyOf_30 (by decide) ?_
    refine x_istore (lv1 := [(4, .int 0), (1, .int i1), (2, .int i2), (3, .int i3)]) dX0_keyOf_31 (by decide) rfl ?_
    refine x_iload dX0_keyOf_33 0 rfl ?_
    refine x_if_eq 52 dX0_keyOf_35 (by decide) (fun _ => ?_) (fun cz => absurd cz (by decide))
    refine x_iconst (v := (-1)) dX0_keyOf_52 (by decide) ?_
    exact x_iret rfl dX0_keyOf_53 (Nat.le_refl _) (Nat.le_refl _) (k1 c1)
  · refine x_iload_n dX0_keyOf_16 2 rfl ?_
    refine x_if_lt 30 dX0_keyOf_17 (by decide) (fun c2 => ?_) (fun c2 => ?_)
    · refine x_iconst (v := 0) dX0_keyOf_30 (by decide) ?_
      refine x_istore (lv1 := [(4, .int 0), (1, .int i1), (2, .int i2), (3, .int i3)]) dX0_keyOf_31 (by decide) rfl ?_
      refine x_iload dX0_keyOf_33 0 rfl ?_
      refine x_if_eq 52 dX0_keyOf_35 (by decide) (fun _ => ?_) (fun cz => absurd cz (by decide))
      refine x_iconst (v := (-1)) dX0_keyOf_52 (by decide) ?_
      exact x_iret rfl dX0_keyOf_53 (Nat.le_refl _) (Nat.le_refl _) (k2 c1 c2)
    · refine x_iload_n dX0_keyOf_20 2 rfl ?_
      refine x_bipush (v := 10) dX0_keyOf_21 (by decide) ?_
      refine x_ic_ge 30 dX0_keyOf_23 (by decide) (fun c3 => ?_) (fun c3 => ?_)
      · refine x_iconst (v := 0) dX0_keyOf_30 (by decide) ?_
        refine x_istore (lv1 := [(4, .int 0), (1, .int i1), (2, .int i2), (3, .int i3)]) dX0_keyOf_31 (by decide) rfl ?_
        refine x_iload dX0_keyOf_33 0 rfl ?_
        refine x_if_eq 52 dX0_keyOf_35 (by decide) (fun _ => ?_) (fun cz => absurd cz (by decide))
        refine x_iconst (v := (-1)) dX0_keyOf_52 (by decide) ?_
        exact x_iret rfl dX0_keyOf_53 (Nat.le_refl _) (Nat.le_refl _) (k3 c1 c2 c3)
      · refine x_iconst (v := 1) dX0_keyOf_26 (by decide) ?_
        refine x_goto 31 dX0_keyOf_27 (by decide) ?_
        refine x_istore (lv1 := [(4, .int 1), (1, .int i1), (2, .int i2), (3, .int i3)]) dX0_keyOf_31 (by decide) rfl ?_
        refine x_iload dX0_keyOf_33 0 rfl ?_
        refine x_if_eq 52 dX0_keyOf_35 (by decide) (fun cz => absurd cz (by decide)) (fun _ => ?_)
        refine x_iload_n dX0_keyOf_38 1 rfl ?_
        refine x_bipush (v := 10) dX0_keyOf_39 (by decide) ?_
        refine x_imul dX0_keyOf_41 ?_
        refine x_iload_n dX0_keyOf_42 2 rfl ?_
        refine x_iadd dX0_keyOf_43 ?_
        refine x_bipush (v := 10) dX0_keyOf_44 (by decide) ?_
        refine x_imul dX0_keyOf_46 ?_
        refine x_iload_n dX0_keyOf_47 3 rfl ?_
        refine x_iadd dX0_keyOf_48 ?_
        refine x_goto 53 dX0_keyOf_49 (by decide) ?_
        exact x_iret rfl dX0_keyOf_53 (Nat.le_refl _) (Nat.le_refl _) (k4 c1 c2 c3)
set_option maxRecDepth 8000 in
theorem qX0_lastOf_0 {g : GG} {d : Nat} {M : MM} {P : Option Value → MM → Prop} {a0 : Nat} {i1 : Int32}
    (k1 : E0 g YX0_lastOf d 4 [(0, .ref a0), (1, .int i1), (2, .int 0), (3, .int 0)] [] M P) :
    E0 g YX0_lastOf d 0 [(0, .ref a0), (1, .int i1)] [] M P := by
  refine x_iconst (v := 0) dX0_lastOf_0 (by decide) ?_
  refine x_istore_n (lv1 := [(2, .int 0), (0, .ref a0), (1, .int i1)]) dX0_lastOf_1 (by decide) rfl ?_
  refine x_iconst (v := 0) dX0_lastOf_2 (by decide) ?_
  refine x_istore_n (lv1 := [(3, .int 0), (2, .int 0), (0, .ref a0), (1, .int i1)]) dX0_lastOf_3 (by decide) rfl ?_
  exact EX.sub [2, 3, 1, 0] k1 rfl
set_option maxRecDepth 8000 in
theorem qX0_lastOf_4 {g : GG} {d : Nat} {M : MM} {P : Option Value → MM → Prop} {a0 : Nat} {i1 : Int32} {i2 : Int32} {i3 : Int32} (C0 : Cty M a0)
    (k1 : (mi M a0 0) ≤ i3 → P (some (.int i2)) M)
    (k2 : ¬ ((mi M a0 0) ≤ i3) → ¬ ((i1 >>> (i3 &&& 31)) &&& 1) = 1 → E0 g YX0_lastOf d 4 [(0, .ref a0), (1, .int i1), (2, .int i2), (3, .int (i3 + 1))] [] M P)
    (k3 : ¬ ((mi M a0 0) ≤ i3) → ((i1 >>> (i3 &&& 31)) &&& 1) = 1 → E0 g YX0_lastOf d 4 [(0, .ref a0), (1, .int i1), (2, .int ((1 : Int32) <<< (i3 &&& 31))), (3, .int (i3 + 1))] [] M P) :
    E0 g YX0_lastOf d 4 [(0, .ref a0), (1, .int i1), (2, .int i2), (3, .int i3)] [] M P := by
  have f1 : ob M a0 0 := C0.o
  refine x_iload_n dX0_lastOf_4 3 rfl ?_
  refine x_aload_n dX0_lastOf_5 0 rfl ?_
  refine x_getI fdX0_41 rfl dX0_lastOf_6 f1.1 f1.2 ?_
  refine x_ic_ge 31 dX0_lastOf_9 (by decide) (fun c1 => ?_) (fun c1 => ?_)
  · refine x_iload_n dX0_lastOf_31 2 rfl ?_
    exact x_iret rfl dX0_lastOf_32 (Nat.le_refl _) (Nat.le_refl _) (k1 c1)
  · refine x_iload_n dX0_lastOf_12 1 rfl ?_
    refine x_iload_n dX0_lastOf_13 3 rfl ?_
    refine x_ishr dX0_lastOf_14 ?_
    refine x_iconst (v := 1) dX0_lastOf_15 (by decide) ?_
    refine x_iand dX0_lastOf_16 ?_
    refine x_iconst (v := 1) dX0_lastOf_17 (by decide) ?_
    refine x_ic_ne 25 dX0_lastOf_18 (by decide) (fun c2 => ?_) (fun c2 => ?_)
    · refine x_iinc (v := (i3 + 1)) (lv1 := [(3, .int (i3 + 1)), (0, .ref a0), (1, .int i1), (2, .int i2)]) dX0_lastOf_25 3 rfl rfl (by decide) rfl ?_
      refine x_goto 4 dX0_lastOf_28 (by decide) ?_
      exact EX.sub [1, 2, 3, 0] (k2 c1 c2) rfl
    · refine x_iconst (v := 1) dX0_lastOf_21 (by decide) ?_
      refine x_iload_n dX0_lastOf_22 3 rfl ?_
      refine x_ishl dX0_lastOf_23 ?_
      refine x_istore_n (lv1 := [(2, .int ((1 : Int32) <<< (i3 &&& 31))), (0, .ref a0), (1, .int i1), (3, .int i3)]) dX0_lastOf_24 (by decide) rfl ?_
      refine x_iinc (v := (i3 + 1)) (lv1 := [(3, .int (i3 + 1)), (2, .int ((1 : Int32) <<< (i3 &&& 31))), (0, .ref a0), (1, .int i1)]) dX0_lastOf_25 3 rfl rfl (by decide) rfl ?_
      refine x_goto 4 dX0_lastOf_28 (by decide) ?_
      exact EX.sub [2, 3, 1, 0] (k3 c1 c2) rfl
set_option maxRecDepth 8000 in
theorem qX0_behind_0 {g : GG} {d : Nat} {M : MM} {P : Option Value → MM → Prop} {a0 : Nat} {i1 : Int32} {i2 : Int32}
    (k1 : E0 g YX0_behind d 8 [(0, .ref a0), (1, .int i1), (2, .int i2), (3, .int 0), (4, .int 0), (5, .int 0)] [] M P) :
    E0 g YX0_behind d 0 [(0, .ref a0), (1, .int i1), (2, .int i2)] [] M P := by
  refine x_iconst (v := 0) dX0_behind_0 (by decide) ?_
  refine x_istore_n (lv1 := [(3, .int 0), (0, .ref a0), (1, .int i1), (2, .int i2)]) dX0_behind_1 (by decide) rfl ?_
  refine x_iconst (v := 0) dX0_behind_2 (by decide) ?_
  refine x_istore (lv1 := [(4, .int 0), (3, .int 0), (0, .ref a0), (1, .int i1), (2, .int i2)]) dX0_behind_3 (by decide) rfl ?_
  refine x_iconst (v := 0) dX0_behind_5 (by decide) ?_
  refine x_istore (lv1 := [(5, .int 0), (4, .int 0), (3, .int 0), (0, .ref a0), (1, .int i1), (2, .int i2)]) dX0_behind_6 (by decide) rfl ?_
  exact EX.sub [3, 4, 5, 2, 1, 0] k1 rfl
set_option maxRecDepth 8000 in
theorem qX0_behind_8 {g : GG} {d : Nat} {M : MM} {P : Option Value → MM → Prop} {a0 : Nat} {i1 : Int32} {i2 : Int32} {i3 : Int32} {i4 : Int32} {i5 : Int32} (C0 : Cty M a0)
    (k1 : (mi M a0 0) ≤ i5 → P (some (.int i3)) M)
    (k2 : ¬ ((mi M a0 0) ≤ i5) → ¬ ((i2 >>> (i5 &&& 31)) &&& 1) = 1 → E0 g YX0_behind d 8 [(0, .ref a0), (1, .int i1), (2, .int i2), (3, .int i3), (4, .int i4), (5, .int (i5 + 1))] [] M P)
    (k3 : ¬ ((mi M a0 0) ≤ i5) → ((i2 >>> (i5 &&& 31)) &&& 1) = 1 → i4 = 0 → ¬ ((i1 >>> (i5 &&& 31)) &&& 1) = 1 → E0 g YX0_behind d 8 [(0, .ref a0), (1, .int i1), (2, .int i2), (3, .int i3), (4, .int 0), (5, .int (i5 + 1))] [] M P)
    (k4 : ¬ ((mi M a0 0) ≤ i5) → ((i2 >>> (i5 &&& 31)) &&& 1) = 1 → i4 = 0 → ((i1 >>> (i5 &&& 31)) &&& 1) = 1 → E0 g YX0_behind d 8 [(0, .ref a0), (1, .int i1), (2, .int i2), (3, .int i3), (4, .int 1), (5, .int (i5 + 1))] [] M P)
    (k5 : ¬ ((mi M a0 0) ≤ i5) → ((i2 >>> (i5 &&& 31)) &&& 1) = 1 → ¬ (i4 = 0) → ¬ ((i1 >>> (i5 &&& 31)) &&& 1) = 1 → E0 g YX0_behind d 8 [(0, .ref a0), (1, .int i1), (2, .int i2), (3, .int (i3 ||| ((1 : Int32) <<< (i5 &&& 31)))), (4, .int 0), (5, .int (i5 + 1))] [] M P)
    (k6 : ¬ ((mi M a0 0) ≤ i5) → ((i2 >>> (i5 &&& 31)) &&& 1) = 1 → ¬ (i4 = 0) → ((i1 >>> (i5 &&& 31)) &&& 1) = 1 → E0 g YX0_behind d 8 [(0, .ref a0), (1, .int i1), (2, .int i2), (3, .int (i3 ||| ((1 : Int32) <<< (i5 &&& 31)))), (4, .int 1), (5, .int (i5 + 1))] [] M P) :
    E0 g YX0_behind d 8 [(0, .ref a0), (1, .int i1), (2, .int i2), (3, .int i3), (4, .int i4), (5, .int i5)] [] M P := by
  have f1 : ob M a0 0 := C0.o
  refine x_iload dX0_behind_8 5 rfl ?_
  refine x_aload_n dX0_behind_10 0 rfl ?_
  refine x_getI fdX0_41 rfl dX0_behind_11 f1.1 f1.2 ?_
  refine x_ic_ge 62 dX0_behind_14 (by decide) (fun c1 => ?_) (fun c1 => ?_)
  · refine x_iload_n dX0_behind_62 3 rfl ?_
    exact x_iret rfl dX0_behind_63 (Nat.le_refl _) (Nat.le_refl _) (k1 c1)
  · refine x_iload_n dX0_behind_17 2 rfl ?_
    refine x_iload dX0_behind_18 5 rfl ?_
    refine x_ishr dX0_behind_20 ?_
    refine x_iconst (v := 1) dX0_behind_21 (by decide) ?_
    refine x_iand dX0_behind_22 ?_
    refine x_iconst (v := 1) dX0_behind_23 (by decide) ?_
    refine x_ic_ne 56 dX0_behind_24 (by decide) (fun c2 => ?_) (fun c2 => ?_)
    · refine x_iinc (v := (i5 + 1)) (lv1 := [(5, .int (i5 + 1)), (0, .ref a0), (1, .int i1), (2, .int i2), (3, .int i3), (4, .int i4)]) dX0_behind_56 5 rfl rfl (by decide) rfl ?_
      refine x_goto 8 dX0_behind_59 (by decide) ?_
      exact EX.sub [1, 2, 3, 4, 5, 0] (k2 c1 c2) rfl
    · refine x_iload dX0_behind_27 4 rfl ?_
      refine x_if_eq 39 dX0_behind_29 (by decide) (fun c3 => ?_) (fun c3 => ?_)
      · refine x_iload_n dX0_behind_39 1 rfl ?_
        refine x_iload dX0_behind_40 5 rfl ?_
        refine x_ishr dX0_behind_42 ?_
        refine x_iconst (v := 1) dX0_behind_43 (by decide) ?_
        refine x_iand dX0_behind_44 ?_
        refine x_iconst (v := 1) dX0_behind_45 (by decide) ?_
        refine x_ic_ne 53 dX0_behind_46 (by decide) (fun c4 => ?_) (fun c4 => ?_)
        · refine x_iconst (v := 0) dX0_behind_53 (by decide) ?_
          refine x_istore (lv1 := [(4, .int 0), (0, .ref a0), (1, .int i1), (2, .int i2), (3, .int i3), (5, .int i5)]) dX0_behind_54 (by decide) rfl ?_
          refine x_iinc (v := (i5 + 1)) (lv1 := [(5, .int (i5 + 1)), (4, .int 0), (0, .ref a0), (1, .int i1), (2, .int i2), (3, .int i3)]) dX0_behind_56 5 rfl rfl (by decide) rfl ?_
          refine x_goto 8 dX0_behind_59 (by decide) ?_
          exact EX.sub [2, 3, 4, 5, 1, 0] (k3 c1 c2 c3 c4) rfl
        · refine x_iconst (v := 1) dX0_behind_49 (by decide) ?_
          refine x_goto 54 dX0_behind_50 (by decide) ?_
          refine x_istore (lv1 := [(4, .int 1), (0, .ref a0), (1, .int i1), (2, .int i2), (3, .int i3), (5, .int i5)]) dX0_behind_54 (by decide) rfl ?_
          refine x_iinc (v := (i5 + 1)) (lv1 := [(5, .int (i5 + 1)), (4, .int 1), (0, .ref a0), (1, .int i1), (2, .int i2), (3, .int i3)]) dX0_behind_56 5 rfl rfl (by decide) rfl ?_
          refine x_goto 8 dX0_behind_59 (by decide) ?_
          exact EX.sub [2, 3, 4, 5, 1, 0] (k4 c1 c2 c3 c4) rfl
      · refine x_iload_n dX0_behind_32 3 rfl ?_
        refine x_iconst (v := 1) dX0_behind_33 (by decide) ?_
        refine x_iload dX0_behind_34 5 rfl ?_
        refine x_ishl dX0_behind_36 ?_
        refine x_ior dX0_behind_37 ?_
        refine x_istore_n (lv1 := [(3, .int (i3 ||| ((1 : Int32) <<< (i5 &&& 31)))), (0, .ref a0), (1, .int i1), (2, .int i2), (4, .int i4), (5, .int i5)]) dX0_behind_38 (by decide) rfl ?_
        refine x_iload_n dX0_behind_39 2 rfl ?_
        refine x_iload dX0_behind_40 5 rfl ?_
        refine x_ishr dX0_behind_42 ?_
        refine x_iconst (v := 1) dX0_behind_43 (by decide) ?_
        refine x_iand dX0_behind_44 ?_
        refine x_iconst (v := 1) dX0_behind_45 (by decide) ?_
        refine x_ic_ne 53 dX0_behind_46 (by decide) (fun c4 => ?_) (fun c4 => ?_)
        · refine x_iconst (v := 0) dX0_behind_53 (by decide) ?_
          refine x_istore (lv1 := [(4, .int 0), (3, .int (i3 ||| ((1 : Int32) <<< (i5 &&& 31)))), (0, .ref a0), (1, .int i1), (2, .int i2), (5, .int i5)]) dX0_behind_54 (by decide) rfl ?_
          refine x_iinc (v := (i5 + 1)) (lv1 := [(5, .int (i5 + 1)), (4, .int 0), (3, .int (i3 ||| ((1 : Int32) <<< (i5 &&& 31)))), (0, .ref a0), (1, .int i1), (2, .int i2)]) dX0_behind_56 5 rfl rfl (by decide) rfl ?_
          refine x_goto 8 dX0_behind_59 (by decide) ?_
          exact EX.sub [3, 4, 5, 2, 1, 0] (k5 c1 c2 c3 c4) rfl
        · refine x_iconst (v := 1) dX0_behind_49 (by decide) ?_
          refine x_goto 54 dX0_behind_50 (by decide) ?_
          refine x_istore (lv1 := [(4, .int 1), (3, .int (i3 ||| ((1 : Int32) <<< (i5 &&& 31)))), (0, .ref a0), (1, .int i1), (2, .int i2), (5, .int i5)]) dX0_behind_54 (by decide) rfl ?_
          refine x_iinc (v := (i5 + 1)) (lv1 := [(5, .int (i5 + 1)), (4, .int 1), (3, .int (i3 ||| ((1 : Int32) <<< (i5 &&& 31)))), (0, .ref a0), (1, .int i1), (2, .int i2)]) dX0_behind_56 5 rfl rfl (by decide) rfl ?_
          refine x_goto 8 dX0_behind_59 (by decide) ?_
          exact EX.sub [3, 4, 5, 2, 1, 0] (k6 c1 c2 c3 c4) rfl
