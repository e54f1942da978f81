set_option maxRecDepth 8000 in
theorem qX7_readCounty_0 {g : GG} {d : Nat} {M : MM} {P : Option Value → MM → Prop} {a1 : Nat} {la lb pa pb rl : Nat} (L : Lay M la lb pa pb rl)
    (k1 : K0 g YX7_readCounty YX7_begin d 5 [.ref 28, .ref a1] [(0, .ref 28), (1, .ref a1)] [] M P) :
    E0 g YX7_readCounty d 0 [(0, .ref 28), (1, .ref a1)] [] M P := by
  have f1 : ob M 28 7 := L.s rfl (by decide)
  refine x_aload_n dX7_readCounty_0 0 rfl ?_
  refine x_aload_n dX7_readCounty_1 1 rfl ?_
  refine EX.sub [0, 1] (K0.v (As := [.ref a1]) (st := []) cvX7_19 dX7_readCounty_2 rfl rfl f1 rfl (Nat.le_of_ble_eq_true rfl) (k1)) rfl
set_option maxRecDepth 8000 in
theorem qX7_readCounty_5 {g : GG} {d : Nat} {M : MM} {P : Option Value → MM → Prop} {a1 : Nat} (C1 : Cty M a1)
    (k1 : K0 g YX7_readCounty YX0_clear d 9 [.ref a1] [(0, .ref 28)] [] M P) :
    E0 g YX7_readCounty d 5 [(0, .ref 28), (1, .ref a1)] [] M P := by
  have f1 : ob M a1 0 := C1.o
  refine x_aload_n dX7_readCounty_5 1 rfl ?_
  refine EX.sub [0] (K0.v (As := []) (st := []) cvX7_23 dX7_readCounty_6 rfl rfl f1 rfl (Nat.le_of_ble_eq_true rfl) (k1)) rfl
set_option maxRecDepth 8000 in
theorem qX7_readCounty_9 {g : GG} {d : Nat} {M : MM} {P : Option Value → MM → Prop} 
    (k1 : E0 g YX7_readCounty d 13 [(0, .ref 28), (2, .int 1), (3, .int 0)] [] M P) :
    E0 g YX7_readCounty d 9 [(0, .ref 28)] [] M P := by
  refine x_iconst (v := 1) dX7_readCounty_9 (by decide) ?_
  refine x_istore_n (lv1 := [(2, .int 1), (0, .ref 28)]) dX7_readCounty_10 (by decide) rfl ?_
  refine x_iconst (v := 0) dX7_readCounty_11 (by decide) ?_
  refine x_istore_n (lv1 := [(3, .int 0), (2, .int 1), (0, .ref 28)]) dX7_readCounty_12 (by decide) rfl ?_
  exact EX.sub [2, 1, 0] k1 rfl
set_option maxRecDepth 8000 in
theorem qX7_readCounty_13 {g : GG} {d : Nat} {M : MM} {P : Option Value → MM → Prop} {i2 : Int32} {i3 : Int32} {M1 : MM} {M2 : MM} {M3 : MM} {la lb pa pb rl : Nat} (L : Lay M la lb pa pb rl)
    (qM1 : M1 = wi M 25 2 0)
    (qM2 : M2 = wi M 25 2 0)
    (qM3 : M3 = wi M 25 2 0)
    (k1 : 1000 ≤ i3 → P (some (.int (mi M1 28 2))) M1)
    (k2 : ¬ (1000 ≤ i3) → i2 = 0 → P (some (.int (mi M2 28 2))) M2)
    (k3 : ¬ (1000 ≤ i3) → ¬ (i2 = 0) → (mi M 25 5) = 0 → P (some (.int (mi M3 28 2))) M3)
    (k4 : ¬ (1000 ≤ i3) → ¬ (i2 = 0) → ¬ ((mi M 25 5) = 0) → ((mi M 25 7) : Int32).toInt < 0 ∨ 4 < ((mi M 25 7) : Int32).toInt → K0 g YX7_readCounty YX7_fail d 105 [.ref 28, .int 1] [(0, .ref 28), (3, .int i3)] [] M P)
    (k5 : ¬ (1000 ≤ i3) → ¬ (i2 = 0) → ¬ ((mi M 25 5) = 0) → ((mi M 25 7) : Int32).toInt = 0 → K0 g YX7_readCounty YX7_readShot d 80 [.ref 28] [(0, .ref 28), (3, .int i3)] [] M P)
    (k6 : ¬ (1000 ≤ i3) → ¬ (i2 = 0) → ¬ ((mi M 25 5) = 0) → ((mi M 25 7) : Int32).toInt = 1 → K0 g YX7_readCounty YX7_fail d 105 [.ref 28, .int 1] [(0, .ref 28), (3, .int i3)] [] M P)
    (k7 : ¬ (1000 ≤ i3) → ¬ (i2 = 0) → ¬ ((mi M 25 5) = 0) → ((mi M 25 7) : Int32).toInt = 2 → K0 g YX7_readCounty YX7_fail d 105 [.ref 28, .int 1] [(0, .ref 28), (3, .int i3)] [] M P)
    (k8 : ¬ (1000 ≤ i3) → ¬ (i2 = 0) → ¬ ((mi M 25 5) = 0) → ((mi M 25 7) : Int32).toInt = 3 → K0 g YX7_readCounty YX7_readNeeds d 88 [.ref 28] [(0, .ref 28), (3, .int i3)] [] M P)
    (k9 : ¬ (1000 ≤ i3) → ¬ (i2 = 0) → ¬ ((mi M 25 5) = 0) → ((mi M 25 7) : Int32).toInt = 4 → K0 g YX7_readCounty YX7_readHall d 96 [.ref 28] [(0, .ref 28), (3, .int i3)] [] M P) :
    E0 g YX7_readCounty d 13 [(0, .ref 28), (2, .int i2), (3, .int i3)] [] M P := by
  have f1 : ob M 28 7 := L.s rfl (by decide)
  have f2 : mr M 28 0 = some 25 := L.r 34 rfl
  have f3 : ob M 25 9 := L.s rfl (by decide)
  subst qM1 qM2 qM3
  refine x_iload_n dX7_readCounty_13 2 rfl ?_
  refine x_sipush (v := 1000) dX7_readCounty_14 (by decide) ?_
  refine x_ic_ge 112 dX7_readCounty_17 (by decide) (fun c1 => ?_) (fun c1 => ?_)
  · refine x_aload_n dX7_readCounty_112 0 rfl ?_
    refine x_getR fdX7_9 rfl dX7_readCounty_113 f1.1 f1.2 f2 ?_
    refine x_iconst (v := 0) dX7_readCounty_116 (by decide) ?_
    refine x_putI fdX7_51 rfl (Or.inl rfl) dX7_readCounty_117 f3.1 f3.2 rfl rfl ?_
    refine x_aload_n dX7_readCounty_120 0 rfl ?_
    refine x_getI fdX7_54 rfl dX7_readCounty_121 f1.1 f1.2 ?_
    exact x_iret rfl dX7_readCounty_124 (Nat.le_refl _) (Nat.le_refl _) (k1 c1)
  · refine x_iload_n dX7_readCounty_20 1 rfl ?_
    refine x_if_eq 112 dX7_readCounty_21 (by decide) (fun c2 => ?_) (fun c2 => ?_)
    · refine x_aload_n dX7_readCounty_112 0 rfl ?_
      refine x_getR fdX7_9 rfl dX7_readCounty_113 f1.1 f1.2 f2 ?_
      refine x_iconst (v := 0) dX7_readCounty_116 (by decide) ?_
      refine x_putI fdX7_51 rfl (Or.inl rfl) dX7_readCounty_117 f3.1 f3.2 rfl rfl ?_
      refine x_aload_n dX7_readCounty_120 0 rfl ?_
      refine x_getI fdX7_54 rfl dX7_readCounty_121 f1.1 f1.2 ?_
      exact x_iret rfl dX7_readCounty_124 (Nat.le_refl _) (Nat.le_refl _) (k2 c1 c2)
    · refine x_aload_n dX7_readCounty_24 0 rfl ?_
      refine x_getR fdX7_9 rfl dX7_readCounty_25 f1.1 f1.2 f2 ?_
      refine x_getI fdX7_28 rfl dX7_readCounty_28 f3.1 f3.2 ?_
      refine x_if_eq 112 dX7_readCounty_31 (by decide) (fun c3 => ?_) (fun c3 => ?_)
      · refine x_aload_n dX7_readCounty_112 0 rfl ?_
        refine x_getR fdX7_9 rfl dX7_readCounty_113 f1.1 f1.2 f2 ?_
        refine x_iconst (v := 0) dX7_readCounty_116 (by decide) ?_
        refine x_putI fdX7_51 rfl (Or.inl rfl) dX7_readCounty_117 f3.1 f3.2 rfl rfl ?_
        refine x_aload_n dX7_readCounty_120 0 rfl ?_
        refine x_getI fdX7_54 rfl dX7_readCounty_121 f1.1 f1.2 ?_
        exact x_iret rfl dX7_readCounty_124 (Nat.le_refl _) (Nat.le_refl _) (k3 c1 c2 c3)
      · refine x_aload_n dX7_readCounty_34 0 rfl ?_
        refine x_getR fdX7_9 rfl dX7_readCounty_35 f1.1 f1.2 f2 ?_
        refine x_getI fdX7_34 rfl dX7_readCounty_38 f3.1 f3.2 ?_
        by_cases c4 : ((mi M 25 7) : Int32).toInt < 0 ∨ 4 < ((mi M 25 7) : Int32).toInt
        · refine x_tabOut 100 dX7_readCounty_41 c4 (by decide) ?_
          refine x_aload_n dX7_readCounty_100 0 rfl ?_
          refine x_iconst (v := 1) dX7_readCounty_101 (by decide) ?_
          refine EX.sub [0, 2] (K0.v (As := [.int 1]) (st := []) cvX7_47 dX7_readCounty_102 rfl rfl f1 rfl (Nat.le_of_ble_eq_true rfl) (k4 c1 c2 c3 c4)) rfl
        · have qc4 : ((mi M 25 7) : Int32).toInt = 0 ∨ ((mi M 25 7) : Int32).toInt = 1 ∨ ((mi M 25 7) : Int32).toInt = 2 ∨ ((mi M 25 7) : Int32).toInt = 3 ∨ ((mi M 25 7) : Int32).toInt = 4 := by omega
          clear c4
          rcases qc4 with c4 | c4 | c4 | c4 | c4
          · refine x_tabIn 76 dX7_readCounty_41 (by omega) (by omega) (off := 35) (by rw [show (((mi M 25 7) : Int32).toInt - 0).toNat = 0 by omega]; rfl) (by decide) ?_
            refine x_aload_n dX7_readCounty_76 0 rfl ?_
            refine EX.sub [0, 2] (K0.v (As := []) (st := []) cvX7_37 dX7_readCounty_77 rfl rfl f1 rfl (Nat.le_of_ble_eq_true rfl) (k5 c1 c2 c3 c4)) rfl
          · refine x_tabIn 100 dX7_readCounty_41 (by omega) (by omega) (off := 59) (by rw [show (((mi M 25 7) : Int32).toInt - 0).toNat = 1 by omega]; rfl) (by decide) ?_
            refine x_aload_n dX7_readCounty_100 0 rfl ?_
            refine x_iconst (v := 1) dX7_readCounty_101 (by decide) ?_
            refine EX.sub [0, 2] (K0.v (As := [.int 1]) (st := []) cvX7_47 dX7_readCounty_102 rfl rfl f1 rfl (Nat.le_of_ble_eq_true rfl) (k6 c1 c2 c3 c4)) rfl
          · refine x_tabIn 100 dX7_readCounty_41 (by omega) (by omega) (off := 59) (by rw [show (((mi M 25 7) : Int32).toInt - 0).toNat = 2 by omega]; rfl) (by decide) ?_
            refine x_aload_n dX7_readCounty_100 0 rfl ?_
            refine x_iconst (v := 1) dX7_readCounty_101 (by decide) ?_
            refine EX.sub [0, 2] (K0.v (As := [.int 1]) (st := []) cvX7_47 dX7_readCounty_102 rfl rfl f1 rfl (Nat.le_of_ble_eq_true rfl) (k7 c1 c2 c3 c4)) rfl
          · refine x_tabIn 84 dX7_readCounty_41 (by omega) (by omega) (off := 43) (by rw [show (((mi M 25 7) : Int32).toInt - 0).toNat = 3 by omega]; rfl) (by decide) ?_
            refine x_aload_n dX7_readCounty_84 0 rfl ?_
            refine EX.sub [0, 2] (K0.v (As := []) (st := []) cvX7_41 dX7_readCounty_85 rfl rfl f1 rfl (Nat.le_of_ble_eq_true rfl) (k8 c1 c2 c3 c4)) rfl
          · refine x_tabIn 92 dX7_readCounty_41 (by omega) (by omega) (off := 51) (by rw [show (((mi M 25 7) : Int32).toInt - 0).toNat = 4 by omega]; rfl) (by decide) ?_
            refine x_aload_n dX7_readCounty_92 0 rfl ?_
            refine EX.sub [0, 2] (K0.v (As := []) (st := []) cvX7_44 dX7_readCounty_93 rfl rfl f1 rfl (Nat.le_of_ble_eq_true rfl) (k9 c1 c2 c3 c4)) rfl
set_option maxRecDepth 8000 in
theorem qX7_readCounty_80 {g : GG} {d : Nat} {M : MM} {P : Option Value → MM → Prop} {i3 : Int32} {s0 : Int32}
    (k1 : E0 g YX7_readCounty d 13 [(0, .ref 28), (2, .int s0), (3, .int (i3 + 1))] [] M P) :
    E0 g YX7_readCounty d 80 [(0, .ref 28), (3, .int i3)] [.int s0] M P := by
  refine x_istore_n (lv1 := [(2, .int s0), (0, .ref 28), (3, .int i3)]) dX7_readCounty_80 (by decide) rfl ?_
  refine x_goto 106 dX7_readCounty_81 (by decide) ?_
  refine x_iinc (v := (i3 + 1)) (lv1 := [(3, .int (i3 + 1)), (2, .int s0), (0, .ref 28)]) dX7_readCounty_106 2 rfl rfl (by decide) rfl ?_
  refine x_goto 13 dX7_readCounty_109 (by decide) ?_
  exact EX.sub [2, 1, 0] k1 rfl
set_option maxRecDepth 8000 in
theorem qX7_readCounty_88 {g : GG} {d : Nat} {M : MM} {P : Option Value → MM → Prop} {i3 : Int32} {s0 : Int32}
    (k1 : E0 g YX7_readCounty d 13 [(0, .ref 28), (2, .int s0), (3, .int (i3 + 1))] [] M P) :
    E0 g YX7_readCounty d 88 [(0, .ref 28), (3, .int i3)] [.int s0] M P := by
  refine x_istore_n (lv1 := [(2, .int s0), (0, .ref 28), (3, .int i3)]) dX7_readCounty_88 (by decide) rfl ?_
  refine x_goto 106 dX7_readCounty_89 (by decide) ?_
  refine x_iinc (v := (i3 + 1)) (lv1 := [(3, .int (i3 + 1)), (2, .int s0), (0, .ref 28)]) dX7_readCounty_106 2 rfl rfl (by decide) rfl ?_
  refine x_goto 13 dX7_readCounty_109 (by decide) ?_
  exact EX.sub [2, 1, 0] k1 rfl
set_option maxRecDepth 8000 in
theorem qX7_readCounty_96 {g : GG} {d : Nat} {M : MM} {P : Option Value → MM → Prop} {i3 : Int32} {s0 : Int32}
    (k1 : E0 g YX7_readCounty d 13 [(0, .ref 28), (2, .int s0), (3, .int (i3 + 1))] [] M P) :
    E0 g YX7_readCounty d 96 [(0, .ref 28), (3, .int i3)] [.int s0] M P := by
  refine x_istore_n (lv1 := [(2, .int s0), (0, .ref 28), (3, .int i3)]) dX7_readCounty_96 (by decide) rfl ?_
  refine x_goto 106 dX7_readCounty_97 (by decide) ?_
  refine x_iinc (v := (i3 + 1)) (lv1 := [(3, .int (i3 + 1)), (2, .int s0), (0, .ref 28)]) dX7_readCounty_106 2 rfl rfl (by decide) rfl ?_
  refine x_goto 13 dX7_readCounty_109 (by decide) ?_
  exact EX.sub [2, 1, 0] k1 rfl
set_option maxRecDepth 8000 in
theorem qX7_readCounty_105 {g : GG} {d : Nat} {M : MM} {P : Option Value → MM → Prop} {i3 : Int32} {s0 : Int32}
    (k1 : E0 g YX7_readCounty d 13 [(0, .ref 28), (2, .int s0), (3, .int (i3 + 1))] [] M P) :
    E0 g YX7_readCounty d 105 [(0, .ref 28), (3, .int i3)] [.int s0] M P := by
  refine x_istore_n (lv1 := [(2, .int s0), (0, .ref 28), (3, .int i3)]) dX7_readCounty_105 (by decide) rfl ?_
  refine x_iinc (v := (i3 + 1)) (lv1 := [(3, .int (i3 + 1)), (2, .int s0), (0, .ref 28)]) dX7_readCounty_106 2 rfl rfl (by decide) rfl ?_
  refine x_goto 13 dX7_readCounty_109 (by decide) ?_
  exact EX.sub [2, 1, 0] k1 rfl
set_option maxRecDepth 8000 in
theorem qX7_readPlan_0 {g : GG} {d : Nat} {M : MM} {P : Option Value → MM → Prop} {a1 : Nat} {a2 : Nat} {la lb pa pb rl : Nat} (L : Lay M la lb pa pb rl)
    (k1 : K0 g YX7_readPlan YX7_begin d 5 [.ref 28, .ref a1] [(0, .ref 28), (2, .ref a2)] [] M P) :
    E0 g YX7_readPlan d 0 [(0, .ref 28), (1, .ref a1), (2, .ref a2)] [] M P := by
  have f1 : ob M 28 7 := L.s rfl (by decide)
  refine x_aload_n dX7_readPlan_0 0 rfl ?_
  refine x_aload_n dX7_readPlan_1 1 rfl ?_
  refine EX.sub [0, 2] (K0.v (As := [.ref a1]) (st := []) cvX7_19 dX7_readPlan_2 rfl rfl f1 rfl (Nat.le_of_ble_eq_true rfl) (k1)) rfl
set_option maxRecDepth 8000 in
theorem qX7_readPlan_5 {g : GG} {d : Nat} {M : MM} {P : Option Value → MM → Prop} {a2 : Nat} (C2 : Pln M a2)
    (k1 : K0 g YX7_readPlan YX5_clear d 9 [.ref a2] [(0, .ref 28), (2, .ref a2)] [] M P) :
    E0 g YX7_readPlan d 5 [(0, .ref 28), (2, .ref a2)] [] M P := by
  have f1 : ob M a2 5 := C2.o
  refine x_aload_n dX7_readPlan_5 1 rfl ?_
  refine EX.sub [0, 1] (K0.v (As := []) (st := []) cvX7_57 dX7_readPlan_6 rfl rfl f1 rfl (Nat.le_of_ble_eq_true rfl) (k1)) rfl
set_option maxRecDepth 8000 in
theorem qX7_readPlan_9 {g : GG} {d : Nat} {M : MM} {P : Option Value → MM → Prop} {a2 : Nat}
    (k1 : E0 g YX7_readPlan d 14 [(0, .ref 28), (2, .ref a2), (3, .int 1), (4, .int 0)] [] M P) :
    E0 g YX7_readPlan d 9 [(0, .ref 28), (2, .ref a2)] [] M P := by
  refine x_iconst (v := 1) dX7_readPlan_9 (by decide) ?_
  refine x_istore_n (lv1 := [(3, .int 1), (0, .ref 28), (2, .ref a2)]) dX7_readPlan_10 (by decide) rfl ?_
  refine x_iconst (v := 0) dX7_readPlan_11 (by decide) ?_
  refine x_istore (lv1 := [(4, .int 0), (3, .int 1), (0, .ref 28), (2, .ref a2)]) dX7_readPlan_12 (by decide) rfl ?_
  exact EX.sub [2, 3, 1, 0] k1 rfl
set_option maxRecDepth 8000 in
theorem qX7_readPlan_14 {g : GG} {d : Nat} {M : MM} {P : Option Value → MM → Prop} {a2 : Nat} {i3 : Int32} {i4 : Int32} {M1 : MM} {M2 : MM} {M3 : MM} {la lb pa pb rl : Nat} (L : Lay M la lb pa pb rl)
    (qM1 : M1 = wi M 25 2 0)
    (qM2 : M2 = wi M 25 2 0)
    (qM3 : M3 = wi M 25 2 0)
    (k1 : 1000 ≤ i4 → P (some (.int (mi M1 28 2))) M1)
    (k2 : ¬ (1000 ≤ i4) → i3 = 0 → P (some (.int (mi M2 28 2))) M2)
    (k3 : ¬ (1000 ≤ i4) → ¬ (i3 = 0) → (mi M 25 5) = 0 → P (some (.int (mi M3 28 2))) M3)
    (k4 : ¬ (1000 ≤ i4) → ¬ (i3 = 0) → ¬ ((mi M 25 5) = 0) → K0 g YX7_readPlan YX7_readPlanLine d 41 [.ref 28, .ref a2] [(0, .ref 28), (2, .ref a2), (4, .int i4)] [] M P) :
    E0 g YX7_readPlan d 14 [(0, .ref 28), (2, .ref a2), (3, .int i3), (4, .int i4)] [] M P := by
  have f1 : ob M 28 7 := L.s rfl (by decide)
  have f2 : mr M 28 0 = some 25 := L.r 34 rfl
  have f3 : ob M 25 9 := L.s rfl (by decide)
  subst qM1 qM2 qM3
  refine x_iload dX7_readPlan_14 3 rfl ?_
  refine x_sipush (v := 1000) dX7_readPlan_16 (by decide) ?_
  refine x_ic_ge 48 dX7_readPlan_19 (by decide) (fun c1 => ?_) (fun c1 => ?_)
  · refine x_aload_n dX7_readPlan_48 0 rfl ?_
    refine x_getR fdX7_9 rfl dX7_readPlan_49 f1.1 f1.2 f2 ?_
    refine x_iconst (v := 0) dX7_readPlan_52 (by decide) ?_
    refine x_putI fdX7_51 rfl (Or.inl rfl) dX7_readPlan_53 f3.1 f3.2 rfl rfl ?_
    refine x_aload_n dX7_readPlan_56 0 rfl ?_
    refine x_getI fdX7_54 rfl dX7_readPlan_57 f1.1 f1.2 ?_
    exact x_iret rfl dX7_readPlan_60 (Nat.le_refl _) (Nat.le_refl _) (k1 c1)
  · refine x_iload_n dX7_readPlan_22 2 rfl ?_
    refine x_if_eq 48 dX7_readPlan_23 (by decide) (fun c2 => ?_) (fun c2 => ?_)
    · refine x_aload_n dX7_readPlan_48 0 rfl ?_
      refine x_getR fdX7_9 rfl dX7_readPlan_49 f1.1 f1.2 f2 ?_
      refine x_iconst (v := 0) dX7_readPlan_52 (by decide) ?_
      refine x_putI fdX7_51 rfl (Or.inl rfl) dX7_readPlan_53 f3.1 f3.2 rfl rfl ?_
      refine x_aload_n dX7_readPlan_56 0 rfl ?_
      refine x_getI fdX7_54 rfl dX7_readPlan_57 f1.1 f1.2 ?_
      exact x_iret rfl dX7_readPlan_60 (Nat.le_refl _) (Nat.le_refl _) (k2 c1 c2)
    · refine x_aload_n dX7_readPlan_26 0 rfl ?_
      refine x_getR fdX7_9 rfl dX7_readPlan_27 f1.1 f1.2 f2 ?_
      refine x_getI fdX7_28 rfl dX7_readPlan_30 f3.1 f3.2 ?_
      refine x_if_eq 48 dX7_readPlan_33 (by decide) (fun c3 => ?_) (fun c3 => ?_)
      · refine x_aload_n dX7_readPlan_48 0 rfl ?_
        refine x_getR fdX7_9 rfl dX7_readPlan_49 f1.1 f1.2 f2 ?_
        refine x_iconst (v := 0) dX7_readPlan_52 (by decide) ?_
        refine x_putI fdX7_51 rfl (Or.inl rfl) dX7_readPlan_53 f3.1 f3.2 rfl rfl ?_
        refine x_aload_n dX7_readPlan_56 0 rfl ?_
        refine x_getI fdX7_54 rfl dX7_readPlan_57 f1.1 f1.2 ?_
        exact x_iret rfl dX7_readPlan_60 (Nat.le_refl _) (Nat.le_refl _) (k3 c1 c2 c3)
      · refine x_aload_n dX7_readPlan_36 0 rfl ?_
        refine x_aload_n dX7_readPlan_37 1 rfl ?_
        refine EX.sub [0, 1, 3] (K0.v (As := [.ref a2]) (st := []) cvX7_60 dX7_readPlan_38 rfl rfl f1 rfl (Nat.le_of_ble_eq_true rfl) (k4 c1 c2 c3)) rfl
set_option maxRecDepth 8000 in
theorem qX7_readPlan_41 {g : GG} {d : Nat} {M : MM} {P : Option Value → MM → Prop} {a2 : Nat} {i4 : Int32} {s0 : Int32}
    (k1 : E0 g YX7_readPlan d 14 [(0, .ref 28), (2, .ref a2), (3, .int s0), (4, .int (i4 + 1))] [] M P) :
    E0 g YX7_readPlan d 41 [(0, .ref 28), (2, .ref a2), (4, .int i4)] [.int s0] M P := by
  refine x_istore_n (lv1 := [(3, .int s0), (0, .ref 28), (2, .ref a2), (4, .int i4)]) dX7_readPlan_41 (by decide) rfl ?_
  refine x_iinc (v := (i4 + 1)) (lv1 := [(4, .int (i4 + 1)), (3, .int s0), (0, .ref 28), (2, .ref a2)]) dX7_readPlan_42 3 rfl rfl (by decide) rfl ?_
  refine x_goto 14 dX7_readPlan_45 (by decide) ?_
  exact EX.sub [2, 3, 1, 0] k1 rfl
set_option maxRecDepth 8000 in
theorem qX7_begin_0 {g : GG} {d : Nat} {M : MM} {P : Option Value → MM → Prop} {a1 : Nat} {b28_0_M1 : Nat} {M1 : MM} {M2 : MM} {la lb pa pb rl : Nat} (L : Lay M la lb pa pb rl)
    (qM1 : M1 = wr M 28 1 (some a1))
    (qM2 : M2 = wi M1 28 2 0)
    (h1 : mr M1 28 0 = some b28_0_M1)
    (h2 : ob M b28_0_M1 9)
    (k1 : K0 g YX7_begin YX9_start d 17 [.ref b28_0_M1] [] [] M2 P) :
    E0 g YX7_begin d 0 [(0, .ref 28), (1, .ref a1)] [] M P := by
  have f1 : ob M 28 7 := L.s rfl (by decide)
  subst qM1 qM2
  refine x_aload_n dX7_begin_0 0 rfl ?_
  refine x_aload_n dX7_begin_1 1 rfl ?_
  refine x_putR fdX7_15 rfl (Or.inl rfl) dX7_begin_2 f1.1 f1.2 ?_
  refine x_aload_n dX7_begin_5 0 rfl ?_
  refine x_iconst (v := 0) dX7_begin_6 (by decide) ?_
  refine x_putI fdX7_54 rfl (Or.inl rfl) dX7_begin_7 f1.1 f1.2 rfl rfl ?_
  refine x_aload_n dX7_begin_10 0 rfl ?_
  refine x_getR fdX7_9 rfl dX7_begin_11 f1.1 f1.2 h1 ?_
  refine EX.sub [] (K0.v (As := []) (st := []) cvX7_64 dX7_begin_14 rfl rfl h2 rfl (Nat.le_of_ble_eq_true rfl) (k1)) rfl
set_option maxRecDepth 8000 in
theorem qX7_begin_17 {g : GG} {d : Nat} {M : MM} {P : Option Value → MM → Prop} 
    (k1 : P none M) :
    E0 g YX7_begin d 17 [] [] M P := by
  exact x_vret rfl dX7_begin_17 (Nat.le_refl _) (Nat.le_refl _) (k1)
set_option maxRecDepth 8000 in
theorem qX7_fail_0 {g : GG} {d : Nat} {M : MM} {P : Option Value → MM → Prop} {i1 : Int32} {M1 : MM} {la lb pa pb rl : Nat} (L : Lay M la lb pa pb rl)
    (qM1 : M1 = wi M 28 2 (i1 + (16 * (mi M 25 3))))
    (k1 : P (some (.int 0)) M1) :
    E0 g YX7_fail d 0 [(0, .ref 28), (1, .int i1)] [] M P := by
  have f1 : ob M 28 7 := L.s rfl (by decide)
  have f2 : mr M 28 0 = some 25 := L.r 34 rfl
  have f3 : ob M 25 9 := L.s rfl (by decide)
  subst qM1
  refine x_aload_n dX7_fail_0 0 rfl ?_
  refine x_iload_n dX7_fail_1 1 rfl ?_
  refine x_bipush (v := 16) dX7_fail_2 (by decide) ?_
  refine x_aload_n dX7_fail_4 0 rfl ?_
  refine x_getR fdX7_9 rfl dX7_fail_5 f1.1 f1.2 f2 ?_
  refine x_getI fdX7_67 rfl dX7_fail_8 f3.1 f3.2 ?_
  refine x_imul dX7_fail_11 ?_
  refine x_iadd dX7_fail_12 ?_
  refine x_putI fdX7_54 rfl (Or.inl rfl) dX7_fail_13 f1.1 f1.2 rfl rfl ?_
  refine x_iconst (v := 0) dX7_fail_16 (by decide) ?_
  exact x_zret rfl dX7_fail_17 rfl (Nat.le_refl _) (Nat.le_refl _) (k1)
set_option maxRecDepth 8000 in
theorem qX7_readShot_0 {g : GG} {d : Nat} {M : MM} {P : Option Value → MM → Prop}  {la lb pa pb rl : Nat} (L : Lay M la lb pa pb rl)
    (k1 : (mi M rl 0) < 10 → K0 g YX7_readShot YX9_advance d 25 [.ref 25] [(0, .ref 28)] [] M P)
    (k2 : ¬ ((mi M rl 0) < 10) → K0 g YX7_readShot YX7_fail d 17 [.ref 28, .int 5] [] [] M P) :
    E0 g YX7_readShot d 0 [(0, .ref 28)] [] M P := by
  have f1 : ob M 28 7 := L.s rfl (by decide)
  have f2 : mr M 28 1 = some rl := L.rrl
  have f3 : ob M rl 0 := L.crl.o
  have f4 : mr M 28 0 = some 25 := L.r 34 rfl
  have f5 : ob M 25 9 := L.s rfl (by decide)
  refine x_aload_n dX7_readShot_0 0 rfl ?_
  refine x_getR fdX7_15 rfl dX7_readShot_1 f1.1 f1.2 f2 ?_
  refine x_getI fdX7_70 rfl dX7_readShot_4 f3.1 f3.2 ?_
  refine x_bipush (v := 10) dX7_readShot_7 (by decide) ?_
  refine x_ic_lt 18 dX7_readShot_9 (by decide) (fun c1 => ?_) (fun c1 => ?_)
  · refine x_aload_n dX7_readShot_18 0 rfl ?_
    refine x_getR fdX7_9 rfl dX7_readShot_19 f1.1 f1.2 f4 ?_
    refine EX.sub [0] (K0.v (As := []) (st := []) cvX7_73 dX7_readShot_22 rfl rfl f5 rfl (Nat.le_of_ble_eq_true rfl) (k1 c1)) rfl
  · refine x_aload_n dX7_readShot_12 0 rfl ?_
    refine x_iconst (v := 5) dX7_readShot_13 (by decide) ?_
    refine EX.sub [] (K0.v (As := [.int 5]) (st := []) cvX7_47 dX7_readShot_14 rfl rfl f1 rfl (Nat.le_of_ble_eq_true rfl) (k2 c1)) rfl
set_option maxRecDepth 8000 in
theorem qX7_readShot_17 {g : GG} {d : Nat} {M : MM} {P : Option Value → MM → Prop} {s0 : Int32}
    (h1 : s0 &&& 1 = s0)
    (k1 : P (some (.int s0)) M) :
    E0 g YX7_readShot d 17 [] [.int s0] M P := by
  exact x_zret rfl dX7_readShot_17 (h1) (Nat.le_refl _) (Nat.le_refl _) (k1)
set_option maxRecDepth 8000 in
theorem qX7_readShot_25 {g : GG} {d : Nat} {M : MM} {P : Option Value → MM → Prop}  {la lb pa pb rl : Nat} (L : Lay M la lb pa pb rl)
    (k1 : K0 g YX7_readShot YX7_takeNewName d 37 [.ref 28] [(0, .ref 28), (1, .long (mj M 25 6))] [] M P) :
    E0 g YX7_readShot d 25 [(0, .ref 28)] [] M P := by
  have f1 : ob M 28 7 := L.s rfl (by decide)
  have f2 : mr M 28 0 = some 25 := L.r 34 rfl
  have f3 : ob M 25 9 := L.s rfl (by decide)
  refine x_aload_n dX7_readShot_25 0 rfl ?_
  refine x_getR fdX7_9 rfl dX7_readShot_26 f1.1 f1.2 f2 ?_
  refine x_getJ fdX7_76 rfl dX7_readShot_29 f3.1 f3.2 ?_
  refine x_lstore_n (lv1 := [(1, .long (mj M 25 6)), (0, .ref 28)]) dX7_readShot_32 (by decide) rfl ?_
  refine x_aload_n dX7_readShot_33 1 rfl ?_
  refine EX.sub [1, 0] (K0.v (As := []) (st := []) cvX7_80 dX7_readShot_34 rfl rfl f1 rfl (Nat.le_of_ble_eq_true rfl) (k1)) rfl
set_option maxRecDepth 8000 in
theorem qX7_readShot_37 {g : GG} {d : Nat} {M : MM} {P : Option Value → MM → Prop} {j1 : Int64} {s0 : Int32} {la lb pa pb rl : Nat} (L : Lay M la lb pa pb rl)
    (k1 : s0 = 0 → P (some (.int 0)) M)
    (k2 : ¬ (s0 = 0) → K0 g YX7_readShot YX7_takeKeyword d 45 [.ref 28, .int 1] [(0, .ref 28), (1, .long j1)] [] M P) :
    E0 g YX7_readShot d 37 [(0, .ref 28), (1, .long j1)] [.int s0] M P := by
  have f1 : ob M 28 7 := L.s rfl (by decide)
  refine x_if_eq 48 dX7_readShot_37 (by decide) (fun c1 => ?_) (fun c1 => ?_)
  · refine x_iconst (v := 0) dX7_readShot_48 (by decide) ?_
    exact x_zret rfl dX7_readShot_49 rfl (Nat.le_refl _) (Nat.le_refl _) (k1 c1)
  · refine x_aload_n dX7_readShot_40 0 rfl ?_
    refine x_iconst (v := 1) dX7_readShot_41 (by decide) ?_
    refine EX.sub [0, 1] (K0.v (As := [.int 1]) (st := []) cvX7_83 dX7_readShot_42 rfl rfl f1 rfl (Nat.le_of_ble_eq_true rfl) (k2 c1)) rfl
set_option maxRecDepth 8000 in
theorem qX7_readShot_45 {g : GG} {d : Nat} {M : MM} {P : Option Value → MM → Prop} {j1 : Int64} {s0 : Int32} {la lb pa pb rl : Nat} (L : Lay M la lb pa pb rl)
    (k1 : ¬ s0 = 0 → K0 g YX7_readShot YX7_takeNumber d 65 [.ref 28, .int 0, .int 9] [(0, .ref 28), (1, .long j1), (3, .int (mi M 25 8))] [] M P)
    (k2 : s0 = 0 → P (some (.int 0)) M) :
    E0 g YX7_readShot d 45 [(0, .ref 28), (1, .long j1)] [.int s0] M P := by
  have f1 : ob M 28 7 := L.s rfl (by decide)
  have f2 : mr M 28 0 = some 25 := L.r 34 rfl
  have f3 : ob M 25 9 := L.s rfl (by decide)
  refine x_if_ne 50 dX7_readShot_45 (by decide) (fun c1 => ?_) (fun c1 => ?_)
  · refine x_aload_n dX7_readShot_50 0 rfl ?_
    refine x_getR fdX7_9 rfl dX7_readShot_51 f1.1 f1.2 f2 ?_
    refine x_getI fdX7_86 rfl dX7_readShot_54 f3.1 f3.2 ?_
    refine x_istore_n (lv1 := [(3, .int (mi M 25 8)), (0, .ref 28), (1, .long j1)]) dX7_readShot_57 (by decide) rfl ?_
    refine x_aload_n dX7_readShot_58 1 rfl ?_
    refine x_iconst (v := 0) dX7_readShot_59 (by decide) ?_
    refine x_bipush (v := 9) dX7_readShot_60 (by decide) ?_
    refine EX.sub [1, 2, 0] (K0.v (As := [.int 0, .int 9]) (st := []) cvX7_89 dX7_readShot_62 rfl rfl f1 rfl (Nat.le_of_ble_eq_true rfl) (k1 c1)) rfl
  · refine x_iconst (v := 0) dX7_readShot_48 (by decide) ?_
    exact x_zret rfl dX7_readShot_49 rfl (Nat.le_refl _) (Nat.le_refl _) (k2 c1)
set_option maxRecDepth 8000 in
theorem qX7_readShot_65 {g : GG} {d : Nat} {M : MM} {P : Option Value → MM → Prop} {j1 : Int64} {i3 : Int32} {s0 : Int32} {la lb pa pb rl : Nat} (L : Lay M la lb pa pb rl)
    (k1 : s0 = 0 → P (some (.int 0)) M)
    (k2 : ¬ (s0 = 0) → K0 g YX7_readShot YX7_takeKeyword d 73 [.ref 28, .int 2] [(0, .ref 28), (1, .long j1), (3, .int i3)] [] M P) :
    E0 g YX7_readShot d 65 [(0, .ref 28), (1, .long j1), (3, .int i3)] [.int s0] M P := by
  have f1 : ob M 28 7 := L.s rfl (by decide)
  refine x_if_eq 76 dX7_readShot_65 (by decide) (fun c1 => ?_) (fun c1 => ?_)
  · refine x_iconst (v := 0) dX7_readShot_76 (by decide) ?_
    exact x_zret rfl dX7_readShot_77 rfl (Nat.le_refl _) (Nat.le_refl _) (k1 c1)
  · refine x_aload_n dX7_readShot_68 0 rfl ?_
    refine x_iconst (v := 2) dX7_readShot_69 (by decide) ?_
    refine EX.sub [0, 1, 2] (K0.v (As := [.int 2]) (st := []) cvX7_83 dX7_readShot_70 rfl rfl f1 rfl (Nat.le_of_ble_eq_true rfl) (k2 c1)) rfl
set_option maxRecDepth 8000 in
theorem qX7_readShot_73 {g : GG} {d : Nat} {M : MM} {P : Option Value → MM → Prop} {j1 : Int64} {i3 : Int32} {s0 : Int32} {la lb pa pb rl : Nat} (L : Lay M la lb pa pb rl)
    (k1 : ¬ s0 = 0 → K0 g YX7_readShot YX7_takeNumber d 94 [.ref 28, .int 1, .int 60] [(0, .ref 28), (1, .long j1), (3, .int i3), (4, .int (mi M 25 8))] [] M P)
    (k2 : s0 = 0 → P (some (.int 0)) M) :
    E0 g YX7_readShot d 73 [(0, .ref 28), (1, .long j1), (3, .int i3)] [.int s0] M P := by
  have f1 : ob M 28 7 := L.s rfl (by decide)
  have f2 : mr M 28 0 = some 25 := L.r 34 rfl
  have f3 : ob M 25 9 := L.s rfl (by decide)
  refine x_if_ne 78 dX7_readShot_73 (by decide) (fun c1 => ?_) (fun c1 => ?_)
  · refine x_aload_n dX7_readShot_78 0 rfl ?_
    refine x_getR fdX7_9 rfl dX7_readShot_79 f1.1 f1.2 f2 ?_
    refine x_getI fdX7_86 rfl dX7_readShot_82 f3.1 f3.2 ?_
    refine x_istore (lv1 := [(4, .int (mi M 25 8)), (0, .ref 28), (1, .long j1), (3, .int i3)]) dX7_readShot_85 (by decide) rfl ?_
    refine x_aload_n dX7_readShot_87 1 rfl ?_
    refine x_iconst (v := 1) dX7_readShot_88 (by decide) ?_
    refine x_bipush (v := 60) dX7_readShot_89 (by decide) ?_
    refine EX.sub [1, 2, 3, 0] (K0.v (As := [.int 1, .int 60]) (st := []) cvX7_89 dX7_readShot_91 rfl rfl f1 rfl (Nat.le_of_ble_eq_true rfl) (k1 c1)) rfl
  · refine x_iconst (v := 0) dX7_readShot_76 (by decide) ?_
    exact x_zret rfl dX7_readShot_77 rfl (Nat.le_refl _) (Nat.le_refl _) (k2 c1)
set_option maxRecDepth 8000 in
theorem qX7_readShot_94 {g : GG} {d : Nat} {M : MM} {P : Option Value → MM → Prop} {j1 : Int64} {i3 : Int32} {i4 : Int32} {s0 : Int32} {la lb pa pb rl : Nat} (L : Lay M la lb pa pb rl)
    (k1 : s0 = 0 → P (some (.int 0)) M)
    (k2 : ¬ (s0 = 0) → K0 g YX7_readShot YX7_takeSemicolon d 101 [.ref 28] [(0, .ref 28), (1, .long j1), (3, .int i3), (4, .int i4)] [] M P) :
    E0 g YX7_readShot d 94 [(0, .ref 28), (1, .long j1), (3, .int i3), (4, .int i4)] [.int s0] M P := by
  have f1 : ob M 28 7 := L.s rfl (by decide)
  refine x_if_eq 104 dX7_readShot_94 (by decide) (fun c1 => ?_) (fun c1 => ?_)
  · refine x_iconst (v := 0) dX7_readShot_104 (by decide) ?_
    exact x_zret rfl dX7_readShot_105 rfl (Nat.le_refl _) (Nat.le_refl _) (k1 c1)
  · refine x_aload_n dX7_readShot_97 0 rfl ?_
    refine EX.sub [0, 1, 2, 3] (K0.v (As := []) (st := []) cvX7_93 dX7_readShot_98 rfl rfl f1 rfl (Nat.le_of_ble_eq_true rfl) (k2 c1)) rfl
set_option maxRecDepth 8000 in
theorem qX7_readShot_101 {g : GG} {d : Nat} {M : MM} {P : Option Value → MM → Prop} {j1 : Int64} {i3 : Int32} {i4 : Int32} {s0 : Int32} {la lb pa pb rl : Nat} (L : Lay M la lb pa pb rl)
    (k1 : ¬ s0 = 0 → K0 g YX7_readShot YX0_addShot d 117 [.ref rl, .long j1, .int i3, .int i4] [] [] M P)
    (k2 : s0 = 0 → P (some (.int 0)) M) :
    E0 g YX7_readShot d 101 [(0, .ref 28), (1, .long j1), (3, .int i3), (4, .int i4)] [.int s0] M P := by
  have f1 : ob M 28 7 := L.s rfl (by decide)
  have f2 : mr M 28 1 = some rl := L.rrl
  have f3 : ob M rl 0 := L.crl.o
  refine x_if_ne 106 dX7_readShot_101 (by decide) (fun c1 => ?_) (fun c1 => ?_)
  · refine x_aload_n dX7_readShot_106 0 rfl ?_
    refine x_getR fdX7_15 rfl dX7_readShot_107 f1.1 f1.2 f2 ?_
    refine x_lload_n dX7_readShot_110 1 rfl ?_
    refine x_iload_n dX7_readShot_111 2 rfl ?_
    refine x_iload dX7_readShot_112 3 rfl ?_
    refine EX.sub [] (K0.v (As := [.long j1, .int i3, .int i4]) (st := []) cvX7_96 dX7_readShot_114 rfl rfl f3 rfl (Nat.le_of_ble_eq_true rfl) (k1 c1)) rfl
  · refine x_iconst (v := 0) dX7_readShot_104 (by decide) ?_
    exact x_zret rfl dX7_readShot_105 rfl (Nat.le_refl _) (Nat.le_refl _) (k2 c1)
set_option maxRecDepth 8000 in
theorem qX7_readShot_117 {g : GG} {d : Nat} {M : MM} {P : Option Value → MM → Prop} 
    (k1 : P (some (.int 1)) M) :
    E0 g YX7_readShot d 117 [] [] M P := by
  refine x_iconst (v := 1) dX7_readShot_117 (by decide) ?_
  exact x_zret rfl dX7_readShot_118 rfl (Nat.le_refl _) (Nat.le_refl _) (k1)
set_option maxRecDepth 8000 in
theorem qX7_readNeeds_0 {g : GG} {d : Nat} {M : MM} {P : Option Value → MM → Prop}  {la lb pa pb rl : Nat} (L : Lay M la lb pa pb rl)
    (k1 : K0 g YX7_readNeeds YX9_advance d 7 [.ref 25] [(0, .ref 28)] [] M P) :
    E0 g YX7_readNeeds d 0 [(0, .ref 28)] [] M P := by
  have f1 : ob M 28 7 := L.s rfl (by decide)
  have f2 : mr M 28 0 = some 25 := L.r 34 rfl
  have f3 : ob M 25 9 := L.s rfl (by decide)
  refine x_aload_n dX7_readNeeds_0 0 rfl ?_
  refine x_getR fdX7_9 rfl dX7_readNeeds_1 f1.1 f1.2 f2 ?_
  refine EX.sub [0] (K0.v (As := []) (st := []) cvX7_73 dX7_readNeeds_4 rfl rfl f3 rfl (Nat.le_of_ble_eq_true rfl) (k1)) rfl
set_option maxRecDepth 8000 in
theorem qX7_readNeeds_7 {g : GG} {d : Nat} {M : MM} {P : Option Value → MM → Prop}  {la lb pa pb rl : Nat} (L : Lay M la lb pa pb rl)
    (k1 : K0 g YX7_readNeeds YX0_shotNamed d 21 [.ref rl, .long (mj M 25 6)] [(0, .ref 28)] [] M P) :
    E0 g YX7_readNeeds d 7 [(0, .ref 28)] [] M P := by
  have f1 : ob M 28 7 := L.s rfl (by decide)
  have f2 : mr M 28 1 = some rl := L.rrl
  have f3 : mr M 28 0 = some 25 := L.r 34 rfl
  have f4 : ob M 25 9 := L.s rfl (by decide)
  have f5 : ob M rl 0 := L.crl.o
  refine x_aload_n dX7_readNeeds_7 0 rfl ?_
  refine x_getR fdX7_15 rfl dX7_readNeeds_8 f1.1 f1.2 f2 ?_
  refine x_aload_n dX7_readNeeds_11 0 rfl ?_
  refine x_getR fdX7_9 rfl dX7_readNeeds_12 f1.1 f1.2 f3 ?_
  refine x_getJ fdX7_76 rfl dX7_readNeeds_15 f4.1 f4.2 ?_
  refine EX.sub [0] (K0.v (As := [.long (mj M 25 6)]) (st := []) cvX7_100 dX7_readNeeds_18 rfl rfl f5 rfl (Nat.le_of_ble_eq_true rfl) (k1)) rfl
set_option maxRecDepth 8000 in
theorem qX7_readNeeds_21 {g : GG} {d : Nat} {M : MM} {P : Option Value → MM → Prop} {s0 : Int32} {la lb pa pb rl : Nat} (L : Lay M la lb pa pb rl)
    (k1 : K0 g YX7_readNeeds YX7_takeTold d 27 [.ref 28, .int s0] [(0, .ref 28), (1, .int s0)] [] M P) :
    E0 g YX7_readNeeds d 21 [(0, .ref 28)] [.int s0] M P := by
  have f1 : ob M 28 7 := L.s rfl (by decide)
  refine x_istore_n (lv1 := [(1, .int s0), (0, .ref 28)]) dX7_readNeeds_21 (by decide) rfl ?_
  refine x_aload_n dX7_readNeeds_22 1 rfl ?_
  refine x_iload_n dX7_readNeeds_23 0 rfl ?_
  refine EX.sub [1, 0] (K0.v (As := [.int s0]) (st := []) cvX7_104 dX7_readNeeds_24 rfl rfl f1 rfl (Nat.le_of_ble_eq_true rfl) (k1)) rfl
set_option maxRecDepth 8000 in
theorem qX7_readNeeds_27 {g : GG} {d : Nat} {M : MM} {P : Option Value → MM → Prop} {i1 : Int32} {s0 : Int32} {la lb pa pb rl : Nat} (L : Lay M la lb pa pb rl)
    (k1 : ¬ s0 = 0 → K0 g YX7_readNeeds YX0_shotNamed d 46 [.ref rl, .long (mj M 25 6)] [(0, .ref 28), (1, .int i1)] [] M P)
    (k2 : s0 = 0 → P (some (.int 0)) M) :
    E0 g YX7_readNeeds d 27 [(0, .ref 28), (1, .int i1)] [.int s0] M P := by
  have f1 : ob M 28 7 := L.s rfl (by decide)
  have f2 : mr M 28 1 = some rl := L.rrl
  have f3 : mr M 28 0 = some 25 := L.r 34 rfl
  have f4 : ob M 25 9 := L.s rfl (by decide)
  have f5 : ob M rl 0 := L.crl.o
  refine x_if_ne 32 dX7_readNeeds_27 (by decide) (fun c1 => ?_) (fun c1 => ?_)
  · refine x_aload_n dX7_readNeeds_32 0 rfl ?_
    refine x_getR fdX7_15 rfl dX7_readNeeds_33 f1.1 f1.2 f2 ?_
    refine x_aload_n dX7_readNeeds_36 0 rfl ?_
    refine x_getR fdX7_9 rfl dX7_readNeeds_37 f1.1 f1.2 f3 ?_
    refine x_getJ fdX7_76 rfl dX7_readNeeds_40 f4.1 f4.2 ?_
    refine EX.sub [0, 1] (K0.v (As := [.long (mj M 25 6)]) (st := []) cvX7_100 dX7_readNeeds_43 rfl rfl f5 rfl (Nat.le_of_ble_eq_true rfl) (k1 c1)) rfl
  · refine x_iconst (v := 0) dX7_readNeeds_30 (by decide) ?_
    exact x_zret rfl dX7_readNeeds_31 rfl (Nat.le_refl _) (Nat.le_refl _) (k2 c1)
set_option maxRecDepth 8000 in
theorem qX7_readNeeds_46 {g : GG} {d : Nat} {M : MM} {P : Option Value → MM → Prop} {i1 : Int32} {s0 : Int32} {la lb pa pb rl : Nat} (L : Lay M la lb pa pb rl)
    (k1 : K0 g YX7_readNeeds YX7_isName d 51 [.ref 28] [(0, .ref 28), (1, .int i1), (2, .int s0)] [] M P) :
    E0 g YX7_readNeeds d 46 [(0, .ref 28), (1, .int i1)] [.int s0] M P := by
  have f1 : ob M 28 7 := L.s rfl (by decide)
  refine x_istore_n (lv1 := [(2, .int s0), (0, .ref 28), (1, .int i1)]) dX7_readNeeds_46 (by decide) rfl ?_
  refine x_aload_n dX7_readNeeds_47 1 rfl ?_
  refine EX.sub [1, 2, 0] (K0.v (As := []) (st := []) cvX7_107 dX7_readNeeds_48 rfl rfl f1 rfl (Nat.le_of_ble_eq_true rfl) (k1)) rfl
set_option maxRecDepth 8000 in
theorem qX7_readNeeds_51 {g : GG} {d : Nat} {M : MM} {P : Option Value → MM → Prop} {i1 : Int32} {i2 : Int32} {s0 : Int32} {la lb pa pb rl : Nat} (L : Lay M la lb pa pb rl)
    (k1 : s0 = 0 → K0 g YX7_readNeeds YX7_takeTold d 82 [.ref 28, .int i2] [(0, .ref 28), (1, .int i1), (2, .int i2)] [] M P)
    (k2 : ¬ (s0 = 0) → i2 = i1 → K0 g YX7_readNeeds YX7_fail d 76 [.ref 28, .int 3] [] [] M P)
    (k3 : ¬ (s0 = 0) → ¬ (i2 = i1) → K0 g YX7_readNeeds YX0_isNeeded d 68 [.ref rl, .int i1, .int i2] [(0, .ref 28), (1, .int i1), (2, .int i2)] [] M P) :
    E0 g YX7_readNeeds d 51 [(0, .ref 28), (1, .int i1), (2, .int i2)] [.int s0] M P := by
  have f1 : ob M 28 7 := L.s rfl (by decide)
  have f2 : mr M 28 1 = some rl := L.rrl
  have f3 : ob M rl 0 := L.crl.o
  refine x_if_eq 77 dX7_readNeeds_51 (by decide) (fun c1 => ?_) (fun c1 => ?_)
  · refine x_aload_n dX7_readNeeds_77 0 rfl ?_
    refine x_iload_n dX7_readNeeds_78 2 rfl ?_
    refine EX.sub [0, 1, 2] (K0.v (As := [.int i2]) (st := []) cvX7_104 dX7_readNeeds_79 rfl rfl f1 rfl (Nat.le_of_ble_eq_true rfl) (k1 c1)) rfl
  · refine x_iload_n dX7_readNeeds_54 2 rfl ?_
    refine x_iload_n dX7_readNeeds_55 1 rfl ?_
    refine x_ic_eq 71 dX7_readNeeds_56 (by decide) (fun c2 => ?_) (fun c2 => ?_)
    · refine x_aload_n dX7_readNeeds_71 0 rfl ?_
      refine x_iconst (v := 3) dX7_readNeeds_72 (by decide) ?_
      refine EX.sub [] (K0.v (As := [.int 3]) (st := []) cvX7_47 dX7_readNeeds_73 rfl rfl f1 rfl (Nat.le_of_ble_eq_true rfl) (k2 c1 c2)) rfl
    · refine x_aload_n dX7_readNeeds_59 0 rfl ?_
      refine x_getR fdX7_15 rfl dX7_readNeeds_60 f1.1 f1.2 f2 ?_
      refine x_iload_n dX7_readNeeds_63 1 rfl ?_
      refine x_iload_n dX7_readNeeds_64 2 rfl ?_
      refine EX.sub [0, 1, 2] (K0.v (As := [.int i1, .int i2]) (st := []) cvX7_110 dX7_readNeeds_65 rfl rfl f3 rfl (Nat.le_of_ble_eq_true rfl) (k3 c1 c2)) rfl
set_option maxRecDepth 8000 in
theorem qX7_readNeeds_68 {g : GG} {d : Nat} {M : MM} {P : Option Value → MM → Prop} {i1 : Int32} {i2 : Int32} {s0 : Int32} {la lb pa pb rl : Nat} (L : Lay M la lb pa pb rl)
    (k1 : s0 = 0 → K0 g YX7_readNeeds YX7_takeTold d 82 [.ref 28, .int i2] [(0, .ref 28), (1, .int i1), (2, .int i2)] [] M P)
    (k2 : ¬ (s0 = 0) → K0 g YX7_readNeeds YX7_fail d 76 [.ref 28, .int 3] [] [] M P) :
    E0 g YX7_readNeeds d 68 [(0, .ref 28), (1, .int i1), (2, .int i2)] [.int s0] M P := by
  have f1 : ob M 28 7 := L.s rfl (by decide)
  refine x_if_eq 77 dX7_readNeeds_68 (by decide) (fun c1 => ?_) (fun c1 => ?_)
  · refine x_aload_n dX7_readNeeds_77 0 rfl ?_
    refine x_iload_n dX7_readNeeds_78 2 rfl ?_
    refine EX.sub [0, 1, 2] (K0.v (As := [.int i2]) (st := []) cvX7_104 dX7_readNeeds_79 rfl rfl f1 rfl (Nat.le_of_ble_eq_true rfl) (k1 c1)) rfl
  · refine x_aload_n dX7_readNeeds_71 0 rfl ?_
    refine x_iconst (v := 3) dX7_readNeeds_72 (by decide) ?_
    refine EX.sub [] (K0.v (As := [.int 3]) (st := []) cvX7_47 dX7_readNeeds_73 rfl rfl f1 rfl (Nat.le_of_ble_eq_true rfl) (k2 c1)) rfl
set_option maxRecDepth 8000 in
theorem qX7_readNeeds_76 {g : GG} {d : Nat} {M : MM} {P : Option Value → MM → Prop} {s0 : Int32}
    (h1 : s0 &&& 1 = s0)
    (k1 : P (some (.int s0)) M) :
    E0 g YX7_readNeeds d 76 [] [.int s0] M P := by
  exact x_zret rfl dX7_readNeeds_76 (h1) (Nat.le_refl _) (Nat.le_refl _) (k1)
set_option maxRecDepth 8000 in
theorem qX7_readNeeds_82 {g : GG} {d : Nat} {M : MM} {P : Option Value → MM → Prop} {i1 : Int32} {i2 : Int32} {s0 : Int32} {la lb pa pb rl : Nat} (L : Lay M la lb pa pb rl)
    (k1 : s0 = 0 → P (some (.int 0)) M)
    (k2 : ¬ (s0 = 0) → K0 g YX7_readNeeds YX7_takeSemicolon d 89 [.ref 28] [(0, .ref 28), (1, .int i1), (2, .int i2)] [] M P) :
    E0 g YX7_readNeeds d 82 [(0, .ref 28), (1, .int i1), (2, .int i2)] [.int s0] M P := by
  have f1 : ob M 28 7 := L.s rfl (by decide)
  refine x_if_eq 92 dX7_readNeeds_82 (by decide) (fun c1 => ?_) (fun c1 => ?_)
  · refine x_iconst (v := 0) dX7_readNeeds_92 (by decide) ?_
    exact x_zret rfl dX7_readNeeds_93 rfl (Nat.le_refl _) (Nat.le_refl _) (k1 c1)
  · refine x_aload_n dX7_readNeeds_85 0 rfl ?_
    refine EX.sub [0, 1, 2] (K0.v (As := []) (st := []) cvX7_93 dX7_readNeeds_86 rfl rfl f1 rfl (Nat.le_of_ble_eq_true rfl) (k2 c1)) rfl
set_option maxRecDepth 8000 in
theorem qX7_readNeeds_89 {g : GG} {d : Nat} {M : MM} {P : Option Value → MM → Prop} {i1 : Int32} {i2 : Int32} {s0 : Int32} {la lb pa pb rl : Nat} (L : Lay M la lb pa pb rl)
    (k1 : ¬ s0 = 0 → K0 g YX7_readNeeds YX0_addNeed d 103 [.ref rl, .int i1, .int i2] [] [] M P)
    (k2 : s0 = 0 → P (some (.int 0)) M) :
    E0 g YX7_readNeeds d 89 [(0, .ref 28), (1, .int i1), (2, .int i2)] [.int s0] M P := by
  have f1 : ob M 28 7 := L.s rfl (by decide)
  have f2 : mr M 28 1 = some rl := L.rrl
  have f3 : ob M rl 0 := L.crl.o
  refine x_if_ne 94 dX7_readNeeds_89 (by decide) (fun c1 => ?_) (fun c1 => ?_)
  · refine x_aload_n dX7_readNeeds_94 0 rfl ?_
    refine x_getR fdX7_15 rfl dX7_readNeeds_95 f1.1 f1.2 f2 ?_
    refine x_iload_n dX7_readNeeds_98 1 rfl ?_
    refine x_iload_n dX7_readNeeds_99 2 rfl ?_
    refine EX.sub [] (K0.v (As := [.int i1, .int i2]) (st := []) cvX7_113 dX7_readNeeds_100 rfl rfl f3 rfl (Nat.le_of_ble_eq_true rfl) (k1 c1)) rfl
  · refine x_iconst (v := 0) dX7_readNeeds_92 (by decide) ?_
    exact x_zret rfl dX7_readNeeds_93 rfl (Nat.le_refl _) (Nat.le_refl _) (k2 c1)
set_option maxRecDepth 8000 in
theorem qX7_readNeeds_103 {g : GG} {d : Nat} {M : MM} {P : Option Value → MM → Prop} 
    (k1 : P (some (.int 1)) M) :
    E0 g YX7_readNeeds d 103 [] [] M P := by
  refine x_iconst (v := 1) dX7_readNeeds_103 (by decide) ?_
  exact x_zret rfl dX7_readNeeds_104 rfl (Nat.le_refl _) (Nat.le_refl _) (k1)
set_option maxRecDepth 8000 in
theorem qX7_readHall_0 {g : GG} {d : Nat} {M : MM} {P : Option Value → MM → Prop}  {la lb pa pb rl : Nat} (L : Lay M la lb pa pb rl)
    (k1 : (mi M rl 5) < 6 → K0 g YX7_readHall YX9_advance d 25 [.ref 25] [(0, .ref 28)] [] M P)
    (k2 : ¬ ((mi M rl 5) < 6) → K0 g YX7_readHall YX7_fail d 17 [.ref 28, .int 5] [] [] M P) :
    E0 g YX7_readHall d 0 [(0, .ref 28)] [] M P := by
  have f1 : ob M 28 7 := L.s rfl (by decide)
  have f2 : mr M 28 1 = some rl := L.rrl
  have f3 : ob M rl 0 := L.crl.o
  have f4 : mr M 28 0 = some 25 := L.r 34 rfl
  have f5 : ob M 25 9 := L.s rfl (by decide)
  refine x_aload_n dX7_readHall_0 0 rfl ?_
  refine x_getR fdX7_15 rfl dX7_readHall_1 f1.1 f1.2 f2 ?_
  refine x_getI fdX7_117 rfl dX7_readHall_4 f3.1 f3.2 ?_
  refine x_bipush (v := 6) dX7_readHall_7 (by decide) ?_
  refine x_ic_lt 18 dX7_readHall_9 (by decide) (fun c1 => ?_) (fun c1 => ?_)
  · refine x_aload_n dX7_readHall_18 0 rfl ?_
    refine x_getR fdX7_9 rfl dX7_readHall_19 f1.1 f1.2 f4 ?_
    refine EX.sub [0] (K0.v (As := []) (st := []) cvX7_73 dX7_readHall_22 rfl rfl f5 rfl (Nat.le_of_ble_eq_true rfl) (k1 c1)) rfl
  · refine x_aload_n dX7_readHall_12 0 rfl ?_
    refine x_iconst (v := 5) dX7_readHall_13 (by decide) ?_
    refine EX.sub [] (K0.v (As := [.int 5]) (st := []) cvX7_47 dX7_readHall_14 rfl rfl f1 rfl (Nat.le_of_ble_eq_true rfl) (k2 c1)) rfl
set_option maxRecDepth 8000 in
theorem qX7_readHall_17 {g : GG} {d : Nat} {M : MM} {P : Option Value → MM → Prop} {s0 : Int32}
    (h1 : s0 &&& 1 = s0)
    (k1 : P (some (.int s0)) M) :
    E0 g YX7_readHall d 17 [] [.int s0] M P := by
  exact x_zret rfl dX7_readHall_17 (h1) (Nat.le_refl _) (Nat.le_refl _) (k1)
set_option maxRecDepth 8000 in
theorem qX7_readHall_25 {g : GG} {d : Nat} {M : MM} {P : Option Value → MM → Prop}  {la lb pa pb rl : Nat} (L : Lay M la lb pa pb rl)
    (k1 : K0 g YX7_readHall YX7_takeNewName d 37 [.ref 28] [(0, .ref 28), (1, .long (mj M 25 6))] [] M P) :
    E0 g YX7_readHall d 25 [(0, .ref 28)] [] M P := by
  have f1 : ob M 28 7 := L.s rfl (by decide)
  have f2 : mr M 28 0 = some 25 := L.r 34 rfl
  have f3 : ob M 25 9 := L.s rfl (by decide)
  refine x_aload_n dX7_readHall_25 0 rfl ?_
  refine x_getR fdX7_9 rfl dX7_readHall_26 f1.1 f1.2 f2 ?_
  refine x_getJ fdX7_76 rfl dX7_readHall_29 f3.1 f3.2 ?_
  refine x_lstore_n (lv1 := [(1, .long (mj M 25 6)), (0, .ref 28)]) dX7_readHall_32 (by decide) rfl ?_
  refine x_aload_n dX7_readHall_33 1 rfl ?_
  refine EX.sub [1, 0] (K0.v (As := []) (st := []) cvX7_80 dX7_readHall_34 rfl rfl f1 rfl (Nat.le_of_ble_eq_true rfl) (k1)) rfl
set_option maxRecDepth 8000 in
theorem qX7_readHall_37 {g : GG} {d : Nat} {M : MM} {P : Option Value → MM → Prop} {j1 : Int64} {s0 : Int32} {la lb pa pb rl : Nat} (L : Lay M la lb pa pb rl)
    (k1 : ¬ s0 = 0 → (mi M 25 7) < 10 → K0 g YX7_readHall YX7_fail d 67 [.ref 28, .int 1] [] [] M P)
    (k2 : ¬ s0 = 0 → ¬ ((mi M 25 7) < 10) → (mi M 25 7) ≤ 13 → K0 g YX7_readHall YX9_advance d 75 [.ref 25] [(0, .ref 28), (1, .long j1), (3, .int (mi M 25 7))] [] M P)
    (k3 : ¬ s0 = 0 → ¬ ((mi M 25 7) < 10) → ¬ ((mi M 25 7) ≤ 13) → K0 g YX7_readHall YX7_fail d 67 [.ref 28, .int 1] [] [] M P)
    (k4 : s0 = 0 → P (some (.int 0)) M) :
    E0 g YX7_readHall d 37 [(0, .ref 28), (1, .long j1)] [.int s0] M P := by
  have f1 : ob M 28 7 := L.s rfl (by decide)
  have f2 : mr M 28 0 = some 25 := L.r 34 rfl
  have f3 : ob M 25 9 := L.s rfl (by decide)
  refine x_if_ne 42 dX7_readHall_37 (by decide) (fun c1 => ?_) (fun c1 => ?_)
  · refine x_aload_n dX7_readHall_42 0 rfl ?_
    refine x_getR fdX7_9 rfl dX7_readHall_43 f1.1 f1.2 f2 ?_
    refine x_getI fdX7_34 rfl dX7_readHall_46 f3.1 f3.2 ?_
    refine x_istore_n (lv1 := [(3, .int (mi M 25 7)), (0, .ref 28), (1, .long j1)]) dX7_readHall_49 (by decide) rfl ?_
    refine x_iload_n dX7_readHall_50 0 rfl ?_
    refine x_bipush (v := 10) dX7_readHall_51 (by decide) ?_
    refine x_ic_lt 62 dX7_readHall_53 (by decide) (fun c2 => ?_) (fun c2 => ?_)
    · refine x_aload_n dX7_readHall_62 1 rfl ?_
      refine x_iconst (v := 1) dX7_readHall_63 (by decide) ?_
      refine EX.sub [] (K0.v (As := [.int 1]) (st := []) cvX7_47 dX7_readHall_64 rfl rfl f1 rfl (Nat.le_of_ble_eq_true rfl) (k1 c1 c2)) rfl
    · refine x_iload_n dX7_readHall_56 0 rfl ?_
      refine x_bipush (v := 13) dX7_readHall_57 (by decide) ?_
      refine x_ic_le 68 dX7_readHall_59 (by decide) (fun c3 => ?_) (fun c3 => ?_)
      · refine x_aload_n dX7_readHall_68 1 rfl ?_
        refine x_getR fdX7_9 rfl dX7_readHall_69 f1.1 f1.2 f2 ?_
        refine EX.sub [1, 2, 0] (K0.v (As := []) (st := []) cvX7_73 dX7_readHall_72 rfl rfl f3 rfl (Nat.le_of_ble_eq_true rfl) (k2 c1 c2 c3)) rfl
      · refine x_aload_n dX7_readHall_62 1 rfl ?_
        refine x_iconst (v := 1) dX7_readHall_63 (by decide) ?_
        refine EX.sub [] (K0.v (As := [.int 1]) (st := []) cvX7_47 dX7_readHall_64 rfl rfl f1 rfl (Nat.le_of_ble_eq_true rfl) (k3 c1 c2 c3)) rfl
  · refine x_iconst (v := 0) dX7_readHall_40 (by decide) ?_
    exact x_zret rfl dX7_readHall_41 rfl (Nat.le_refl _) (Nat.le_refl _) (k4 c1)
set_option maxRecDepth 8000 in
theorem qX7_readHall_67 {g : GG} {d : Nat} {M : MM} {P : Option Value → MM → Prop} {s0 : Int32}
    (h1 : s0 &&& 1 = s0)
    (k1 : P (some (.int s0)) M) :
    E0 g YX7_readHall d 67 [] [.int s0] M P := by
  exact x_zret rfl dX7_readHall_67 (h1) (Nat.le_refl _) (Nat.le_refl _) (k1)
set_option maxRecDepth 8000 in
theorem qX7_readHall_75 {g : GG} {d : Nat} {M : MM} {P : Option Value → MM → Prop} {j1 : Int64} {i3 : Int32} {la lb pa pb rl : Nat} (L : Lay M la lb pa pb rl)
    (k1 : K0 g YX7_readHall YX7_takeKeyword d 80 [.ref 28, .int 5] [(0, .ref 28), (1, .long j1), (3, .int i3)] [] M P) :
    E0 g YX7_readHall d 75 [(0, .ref 28), (1, .long j1), (3, .int i3)] [] M P := by
  have f1 : ob M 28 7 := L.s rfl (by decide)
  refine x_aload_n dX7_readHall_75 0 rfl ?_
  refine x_iconst (v := 5) dX7_readHall_76 (by decide) ?_
  refine EX.sub [0, 1, 2] (K0.v (As := [.int 5]) (st := []) cvX7_83 dX7_readHall_77 rfl rfl f1 rfl (Nat.le_of_ble_eq_true rfl) (k1)) rfl
set_option maxRecDepth 8000 in
theorem qX7_readHall_80 {g : GG} {d : Nat} {M : MM} {P : Option Value → MM → Prop} {j1 : Int64} {i3 : Int32} {s0 : Int32} {la lb pa pb rl : Nat} (L : Lay M la lb pa pb rl)
    (k1 : s0 = 0 → P (some (.int 0)) M)
    (k2 : ¬ (s0 = 0) → K0 g YX7_readHall YX7_readExpression d 88 [.ref 28, .int 0] [(0, .ref 28), (1, .long j1), (3, .int i3)] [] M P) :
    E0 g YX7_readHall d 80 [(0, .ref 28), (1, .long j1), (3, .int i3)] [.int s0] M P := by
  have f1 : ob M 28 7 := L.s rfl (by decide)
  refine x_if_eq 98 dX7_readHall_80 (by decide) (fun c1 => ?_) (fun c1 => ?_)
  · refine x_iconst (v := 0) dX7_readHall_98 (by decide) ?_
    exact x_zret rfl dX7_readHall_99 rfl (Nat.le_refl _) (Nat.le_refl _) (k1 c1)
  · refine x_aload_n dX7_readHall_83 0 rfl ?_
    refine x_iconst (v := 0) dX7_readHall_84 (by decide) ?_
    refine EX.sub [0, 1, 2] (K0.v (As := [.int 0]) (st := []) cvX7_120 dX7_readHall_85 rfl rfl f1 rfl (Nat.le_of_ble_eq_true rfl) (k2 c1)) rfl
set_option maxRecDepth 8000 in
theorem qX7_readHall_88 {g : GG} {d : Nat} {M : MM} {P : Option Value → MM → Prop} {j1 : Int64} {i3 : Int32} {s0 : Int32} {la lb pa pb rl : Nat} (L : Lay M la lb pa pb rl)
    (k1 : s0 = 0 → P (some (.int 0)) M)
    (k2 : ¬ (s0 = 0) → K0 g YX7_readHall YX7_takeSemicolon d 95 [.ref 28] [(0, .ref 28), (1, .long j1), (3, .int i3)] [] M P) :
    E0 g YX7_readHall d 88 [(0, .ref 28), (1, .long j1), (3, .int i3)] [.int s0] M P := by
  have f1 : ob M 28 7 := L.s rfl (by decide)
  refine x_if_eq 98 dX7_readHall_88 (by decide) (fun c1 => ?_) (fun c1 => ?_)
  · refine x_iconst (v := 0) dX7_readHall_98 (by decide) ?_
    exact x_zret rfl dX7_readHall_99 rfl (Nat.le_refl _) (Nat.le_refl _) (k1 c1)
  · refine x_aload_n dX7_readHall_91 0 rfl ?_
    refine EX.sub [0, 1, 2] (K0.v (As := []) (st := []) cvX7_93 dX7_readHall_92 rfl rfl f1 rfl (Nat.le_of_ble_eq_true rfl) (k2 c1)) rfl
set_option maxRecDepth 8000 in
theorem qX7_readHall_95 {g : GG} {d : Nat} {M : MM} {P : Option Value → MM → Prop} {j1 : Int64} {i3 : Int32} {s0 : Int32} {la lb pa pb rl : Nat} (L : Lay M la lb pa pb rl)
    (k1 : ¬ s0 = 0 → K0 g YX7_readHall YX0_addHall d 114 [.ref rl, .long j1, .int ((i3 - 10) + 0)] [] [] M P)
    (k2 : s0 = 0 → P (some (.int 0)) M) :
    E0 g YX7_readHall d 95 [(0, .ref 28), (1, .long j1), (3, .int i3)] [.int s0] M P := by
  have f1 : ob M 28 7 := L.s rfl (by decide)
  have f2 : mr M 28 1 = some rl := L.rrl
  have f3 : ob M rl 0 := L.crl.o
  refine x_if_ne 100 dX7_readHall_95 (by decide) (fun c1 => ?_) (fun c1 => ?_)
  · refine x_aload_n dX7_readHall_100 0 rfl ?_
    refine x_getR fdX7_15 rfl dX7_readHall_101 f1.1 f1.2 f2 ?_
    refine x_lload_n dX7_readHall_104 1 rfl ?_
    refine x_iload_n dX7_readHall_105 2 rfl ?_
    refine x_bipush (v := 10) dX7_readHall_106 (by decide) ?_
    refine x_isub dX7_readHall_108 ?_
    refine x_iconst (v := 0) dX7_readHall_109 (by decide) ?_
    refine x_iadd dX7_readHall_110 ?_
    refine EX.sub [] (K0.v (As := [.long j1, .int ((i3 - 10) + 0)]) (st := []) cvX7_123 dX7_readHall_111 rfl rfl f3 rfl (Nat.le_of_ble_eq_true rfl) (k1 c1)) rfl
  · refine x_iconst (v := 0) dX7_readHall_98 (by decide) ?_
    exact x_zret rfl dX7_readHall_99 rfl (Nat.le_refl _) (Nat.le_refl _) (k2 c1)
set_option maxRecDepth 8000 in
theorem qX7_readHall_114 {g : GG} {d : Nat} {M : MM} {P : Option Value → MM → Prop} 
    (k1 : P (some (.int 1)) M) :
    E0 g YX7_readHall d 114 [] [] M P := by
  refine x_iconst (v := 1) dX7_readHall_114 (by decide) ?_
  exact x_zret rfl dX7_readHall_115 rfl (Nat.le_refl _) (Nat.le_refl _) (k1)
set_option maxRecDepth 8000 in
theorem qX7_readPlanLine_0 {g : GG} {d : Nat} {M : MM} {P : Option Value → MM → Prop} {a1 : Nat} {la lb pa pb rl : Nat} (L : Lay M la lb pa pb rl) (C1 : Pln M a1)
    (k1 : (mi M 25 7) < 6 → K0 g YX7_readPlanLine YX7_fail d 25 [.ref 28, .int 1] [] [] M P)
    (k2 : ¬ ((mi M 25 7) < 6) → (mi M 25 7) ≤ 9 → (mi M a1 0) < 40 → K0 g YX7_readPlanLine YX9_advance d 48 [.ref 25] [(0, .ref 28), (1, .ref a1), (2, .int (mi M 25 7))] [] M P)
    (k3 : ¬ ((mi M 25 7) < 6) → (mi M 25 7) ≤ 9 → ¬ ((mi M a1 0) < 40) → K0 g YX7_readPlanLine YX7_fail d 40 [.ref 28, .int 5] [] [] M P)
    (k4 : ¬ ((mi M 25 7) < 6) → ¬ ((mi M 25 7) ≤ 9) → K0 g YX7_readPlanLine YX7_fail d 25 [.ref 28, .int 1] [] [] M P) :
    E0 g YX7_readPlanLine d 0 [(0, .ref 28), (1, .ref a1)] [] M P := by
  have f1 : ob M 28 7 := L.s rfl (by decide)
  have f2 : mr M 28 0 = some 25 := L.r 34 rfl
  have f3 : ob M 25 9 := L.s rfl (by decide)
  have f4 : ob M a1 5 := C1.o
  refine x_aload_n dX7_readPlanLine_0 0 rfl ?_
  refine x_getR fdX7_9 rfl dX7_readPlanLine_1 f1.1 f1.2 f2 ?_
  refine x_getI fdX7_34 rfl dX7_readPlanLine_4 f3.1 f3.2 ?_
  refine x_istore_n (lv1 := [(2, .int (mi M 25 7)), (0, .ref 28), (1, .ref a1)]) dX7_readPlanLine_7 (by decide) rfl ?_
  refine x_iload_n dX7_readPlanLine_8 0 rfl ?_
  refine x_bipush (v := 6) dX7_readPlanLine_9 (by decide) ?_
  refine x_ic_lt 20 dX7_readPlanLine_11 (by decide) (fun c1 => ?_) (fun c1 => ?_)
  · refine x_aload_n dX7_readPlanLine_20 1 rfl ?_
    refine x_iconst (v := 1) dX7_readPlanLine_21 (by decide) ?_
    refine EX.sub [] (K0.v (As := [.int 1]) (st := []) cvX7_47 dX7_readPlanLine_22 rfl rfl f1 rfl (Nat.le_of_ble_eq_true rfl) (k1 c1)) rfl
  · refine x_iload_n dX7_readPlanLine_14 0 rfl ?_
    refine x_bipush (v := 9) dX7_readPlanLine_15 (by decide) ?_
    refine x_ic_le 26 dX7_readPlanLine_17 (by decide) (fun c2 => ?_) (fun c2 => ?_)
    · refine x_aload_n dX7_readPlanLine_26 2 rfl ?_
      refine x_getI fdX7_127 rfl dX7_readPlanLine_27 f4.1 f4.2 ?_
      refine x_bipush (v := 40) dX7_readPlanLine_30 (by decide) ?_
      refine x_ic_lt 41 dX7_readPlanLine_32 (by decide) (fun c3 => ?_) (fun c3 => ?_)
      · refine x_aload_n dX7_readPlanLine_41 1 rfl ?_
        refine x_getR fdX7_9 rfl dX7_readPlanLine_42 f1.1 f1.2 f2 ?_
        refine EX.sub [1, 2, 0] (K0.v (As := []) (st := []) cvX7_73 dX7_readPlanLine_45 rfl rfl f3 rfl (Nat.le_of_ble_eq_true rfl) (k2 c1 c2 c3)) rfl
      · refine x_aload_n dX7_readPlanLine_35 1 rfl ?_
        refine x_iconst (v := 5) dX7_readPlanLine_36 (by decide) ?_
        refine EX.sub [] (K0.v (As := [.int 5]) (st := []) cvX7_47 dX7_readPlanLine_37 rfl rfl f1 rfl (Nat.le_of_ble_eq_true rfl) (k3 c1 c2 c3)) rfl
    · refine x_aload_n dX7_readPlanLine_20 1 rfl ?_
      refine x_iconst (v := 1) dX7_readPlanLine_21 (by decide) ?_
      refine EX.sub [] (K0.v (As := [.int 1]) (st := []) cvX7_47 dX7_readPlanLine_22 rfl rfl f1 rfl (Nat.le_of_ble_eq_true rfl) (k4 c1 c2)) rfl
set_option maxRecDepth 8000 in
theorem qX7_readPlanLine_25 {g : GG} {d : Nat} {M : MM} {P : Option Value → MM → Prop} {s0 : Int32}
    (h1 : s0 &&& 1 = s0)
    (k1 : P (some (.int s0)) M) :
    E0 g YX7_readPlanLine d 25 [] [.int s0] M P := by
  exact x_zret rfl dX7_readPlanLine_25 (h1) (Nat.le_refl _) (Nat.le_refl _) (k1)
set_option maxRecDepth 8000 in
theorem qX7_readPlanLine_40 {g : GG} {d : Nat} {M : MM} {P : Option Value → MM → Prop} {s0 : Int32}
    (h1 : s0 &&& 1 = s0)
    (k1 : P (some (.int s0)) M) :
    E0 g YX7_readPlanLine d 40 [] [.int s0] M P := by
  exact x_zret rfl dX7_readPlanLine_40 (h1) (Nat.le_refl _) (Nat.le_refl _) (k1)
set_option maxRecDepth 8000 in
theorem qX7_readPlanLine_48 {g : GG} {d : Nat} {M : MM} {P : Option Value → MM → Prop} {a1 : Nat} {i2 : Int32} {la lb pa pb rl : Nat} (L : Lay M la lb pa pb rl)
    (k1 : ((i2 - 6) + 0) = 1 → K0 g YX7_readPlanLine YX7_readHandling d 71 [.ref 28, .ref a1, .int ((i2 - 6) + 0)] [] [] M P)
    (k2 : ¬ (((i2 - 6) + 0) = 1) → ¬ ((i2 - 6) + 0) = 2 → K0 g YX7_readPlanLine YX7_readBare d 80 [.ref 28, .ref a1, .int ((i2 - 6) + 0)] [] [] M P)
    (k3 : ¬ (((i2 - 6) + 0) = 1) → ((i2 - 6) + 0) = 2 → K0 g YX7_readPlanLine YX7_readHandling d 71 [.ref 28, .ref a1, .int ((i2 - 6) + 0)] [] [] M P) :
    E0 g YX7_readPlanLine d 48 [(0, .ref 28), (1, .ref a1), (2, .int i2)] [] M P := by
  have f1 : ob M 28 7 := L.s rfl (by decide)
  refine x_iload_n dX7_readPlanLine_48 2 rfl ?_
  refine x_bipush (v := 6) dX7_readPlanLine_49 (by decide) ?_
  refine x_isub dX7_readPlanLine_51 ?_
  refine x_iconst (v := 0) dX7_readPlanLine_52 (by decide) ?_
  refine x_iadd dX7_readPlanLine_53 ?_
  refine x_istore_n (lv1 := [(3, .int ((i2 - 6) + 0)), (0, .ref 28), (1, .ref a1), (2, .int i2)]) dX7_readPlanLine_54 (by decide) rfl ?_
  refine x_iload_n dX7_readPlanLine_55 0 rfl ?_
  refine x_iconst (v := 1) dX7_readPlanLine_56 (by decide) ?_
  refine x_ic_eq 65 dX7_readPlanLine_57 (by decide) (fun c1 => ?_) (fun c1 => ?_)
  · refine x_aload_n dX7_readPlanLine_65 1 rfl ?_
    refine x_aload_n dX7_readPlanLine_66 2 rfl ?_
    refine x_iload_n dX7_readPlanLine_67 0 rfl ?_
    refine EX.sub [] (K0.v (As := [.ref a1, .int ((i2 - 6) + 0)]) (st := []) cvX7_130 dX7_readPlanLine_68 rfl rfl f1 rfl (Nat.le_of_ble_eq_true rfl) (k1 c1)) rfl
  · refine x_iload_n dX7_readPlanLine_60 0 rfl ?_
    refine x_iconst (v := 2) dX7_readPlanLine_61 (by decide) ?_
    refine x_ic_ne 74 dX7_readPlanLine_62 (by decide) (fun c2 => ?_) (fun c2 => ?_)
    · refine x_aload_n dX7_readPlanLine_74 1 rfl ?_
      refine x_aload_n dX7_readPlanLine_75 2 rfl ?_
      refine x_iload_n dX7_readPlanLine_76 0 rfl ?_
      refine EX.sub [] (K0.v (As := [.ref a1, .int ((i2 - 6) + 0)]) (st := []) cvX7_134 dX7_readPlanLine_77 rfl rfl f1 rfl (Nat.le_of_ble_eq_true rfl) (k2 c1 c2)) rfl
    · refine x_aload_n dX7_readPlanLine_65 1 rfl ?_
      refine x_aload_n dX7_readPlanLine_66 2 rfl ?_
      refine x_iload_n dX7_readPlanLine_67 0 rfl ?_
      refine EX.sub [] (K0.v (As := [.ref a1, .int ((i2 - 6) + 0)]) (st := []) cvX7_130 dX7_readPlanLine_68 rfl rfl f1 rfl (Nat.le_of_ble_eq_true rfl) (k3 c1 c2)) rfl
set_option maxRecDepth 8000 in
theorem qX7_readPlanLine_71 {g : GG} {d : Nat} {M : MM} {P : Option Value → MM → Prop} {s0 : Int32}
    (k1 : E0 g YX7_readPlanLine d 80 [] [.int s0] M P) :
    E0 g YX7_readPlanLine d 71 [] [.int s0] M P := by
  refine x_goto 80 dX7_readPlanLine_71 (by decide) ?_
  exact EX.sub [] k1 rfl
set_option maxRecDepth 8000 in
theorem qX7_readPlanLine_80 {g : GG} {d : Nat} {M : MM} {P : Option Value → MM → Prop} {s0 : Int32}
    (h1 : s0 &&& 1 = s0)
    (k1 : P (some (.int s0)) M) :
    E0 g YX7_readPlanLine d 80 [] [.int s0] M P := by
  exact x_zret rfl dX7_readPlanLine_80 (h1) (Nat.le_refl _) (Nat.le_refl _) (k1)
set_option maxRecDepth 8000 in
theorem qX7_readBare_0 {g : GG} {d : Nat} {M : MM} {P : Option Value → MM → Prop} {a1 : Nat} {i2 : Int32} {la lb pa pb rl : Nat} (L : Lay M la lb pa pb rl)
    (k1 : K0 g YX7_readBare YX7_takeSemicolon d 4 [.ref 28] [(1, .ref a1), (2, .int i2)] [] M P) :
    E0 g YX7_readBare d 0 [(0, .ref 28), (1, .ref a1), (2, .int i2)] [] M P := by
  have f1 : ob M 28 7 := L.s rfl (by decide)
  refine x_aload_n dX7_readBare_0 0 rfl ?_
  refine EX.sub [1, 2] (K0.v (As := []) (st := []) cvX7_93 dX7_readBare_1 rfl rfl f1 rfl (Nat.le_of_ble_eq_true rfl) (k1)) rfl
set_option maxRecDepth 8000 in
theorem qX7_readBare_4 {g : GG} {d : Nat} {M : MM} {P : Option Value → MM → Prop} {a1 : Nat} {i2 : Int32} {s0 : Int32} (C1 : Pln M a1)
    (k1 : ¬ s0 = 0 → K0 g YX7_readBare YX5_add d 17 [.ref a1, .int i2, .int (-1), .int (-1), .int (-1)] [] [] M P)
    (k2 : s0 = 0 → P (some (.int 0)) M) :
    E0 g YX7_readBare d 4 [(1, .ref a1), (2, .int i2)] [.int s0] M P := by
  have f1 : ob M a1 5 := C1.o
  refine x_if_ne 9 dX7_readBare_4 (by decide) (fun c1 => ?_) (fun c1 => ?_)
  · refine x_aload_n dX7_readBare_9 0 rfl ?_
    refine x_iload_n dX7_readBare_10 1 rfl ?_
    refine x_iconst (v := (-1)) dX7_readBare_11 (by decide) ?_
    refine x_iconst (v := (-1)) dX7_readBare_12 (by decide) ?_
    refine x_iconst (v := (-1)) dX7_readBare_13 (by decide) ?_
    refine EX.sub [] (K0.v (As := [.int i2, .int (-1), .int (-1), .int (-1)]) (st := []) cvX7_137 dX7_readBare_14 rfl rfl f1 rfl (Nat.le_of_ble_eq_true rfl) (k1 c1)) rfl
  · refine x_iconst (v := 0) dX7_readBare_7 (by decide) ?_
    exact x_zret rfl dX7_readBare_8 rfl (Nat.le_refl _) (Nat.le_refl _) (k2 c1)
set_option maxRecDepth 8000 in
theorem qX7_readBare_17 {g : GG} {d : Nat} {M : MM} {P : Option Value → MM → Prop} 
    (k1 : P (some (.int 1)) M) :
    E0 g YX7_readBare d 17 [] [] M P := by
  refine x_iconst (v := 1) dX7_readBare_17 (by decide) ?_
  exact x_zret rfl dX7_readBare_18 rfl (Nat.le_refl _) (Nat.le_refl _) (k1)
set_option maxRecDepth 8000 in
theorem qX7_readHandling_0 {g : GG} {d : Nat} {M : MM} {P : Option Value → MM → Prop} {a1 : Nat} {i2 : Int32} {la lb pa pb rl : Nat} (L : Lay M la lb pa pb rl)
    (k1 : K0 g YX7_readHandling YX0_hallNamed d 14 [.ref rl, .long (mj M 25 6)] [(0, .ref 28), (1, .ref a1), (2, .int i2)] [] M P) :
    E0 g YX7_readHandling d 0 [(0, .ref 28), (1, .ref a1), (2, .int i2)] [] M P := by
  have f1 : ob M 28 7 := L.s rfl (by decide)
  have f2 : mr M 28 1 = some rl := L.rrl
  have f3 : mr M 28 0 = some 25 := L.r 34 rfl
  have f4 : ob M 25 9 := L.s rfl (by decide)
  have f5 : ob M rl 0 := L.crl.o
  refine x_aload_n dX7_readHandling_0 0 rfl ?_
  refine x_getR fdX7_15 rfl dX7_readHandling_1 f1.1 f1.2 f2 ?_
  refine x_aload_n dX7_readHandling_4 0 rfl ?_
  refine x_getR fdX7_9 rfl dX7_readHandling_5 f1.1 f1.2 f3 ?_
  refine x_getJ fdX7_76 rfl dX7_readHandling_8 f4.1 f4.2 ?_
  refine EX.sub [0, 1, 2] (K0.v (As := [.long (mj M 25 6)]) (st := []) cvX7_141 dX7_readHandling_11 rfl rfl f5 rfl (Nat.le_of_ble_eq_true rfl) (k1)) rfl
set_option maxRecDepth 8000 in
theorem qX7_readHandling_14 {g : GG} {d : Nat} {M : MM} {P : Option Value → MM → Prop} {a1 : Nat} {i2 : Int32} {s0 : Int32} {la lb pa pb rl : Nat} (L : Lay M la lb pa pb rl)
    (k1 : K0 g YX7_readHandling YX7_takeTold d 20 [.ref 28, .int s0] [(0, .ref 28), (1, .ref a1), (2, .int i2), (3, .int s0)] [] M P) :
    E0 g YX7_readHandling d 14 [(0, .ref 28), (1, .ref a1), (2, .int i2)] [.int s0] M P := by
  have f1 : ob M 28 7 := L.s rfl (by decide)
  refine x_istore_n (lv1 := [(3, .int s0), (0, .ref 28), (1, .ref a1), (2, .int i2)]) dX7_readHandling_14 (by decide) rfl ?_
  refine x_aload_n dX7_readHandling_15 1 rfl ?_
  refine x_iload_n dX7_readHandling_16 0 rfl ?_
  refine EX.sub [1, 2, 3, 0] (K0.v (As := [.int s0]) (st := []) cvX7_104 dX7_readHandling_17 rfl rfl f1 rfl (Nat.le_of_ble_eq_true rfl) (k1)) rfl
set_option maxRecDepth 8000 in
theorem qX7_readHandling_20 {g : GG} {d : Nat} {M : MM} {P : Option Value → MM → Prop} {a1 : Nat} {i2 : Int32} {i3 : Int32} {s0 : Int32} {la lb pa pb rl : Nat} (L : Lay M la lb pa pb rl)
    (k1 : ¬ s0 = 0 → ¬ i2 = 2 → K0 g YX7_readHandling YX0_shotNamed d 93 [.ref rl, .long (mj M 25 6)] [(0, .ref 28), (1, .ref a1), (2, .int i2), (3, .int i3), (4, .int (-1))] [] M P)
    (k2 : ¬ s0 = 0 → i2 = 2 → K0 g YX7_readHandling YX0_hallNamed d 47 [.ref rl, .long (mj M 25 6)] [(0, .ref 28), (1, .ref a1), (2, .int i2), (3, .int i3)] [] M P)
    (k3 : s0 = 0 → P (some (.int 0)) M) :
    E0 g YX7_readHandling d 20 [(0, .ref 28), (1, .ref a1), (2, .int i2), (3, .int i3)] [.int s0] M P := by
  have f1 : ob M 28 7 := L.s rfl (by decide)
  have f2 : mr M 28 1 = some rl := L.rrl
  have f3 : mr M 28 0 = some 25 := L.r 34 rfl
  have f4 : ob M 25 9 := L.s rfl (by decide)
  have f5 : ob M rl 0 := L.crl.o
  refine x_if_ne 25 dX7_readHandling_20 (by decide) (fun c1 => ?_) (fun c1 => ?_)
  · refine x_iconst (v := (-1)) dX7_readHandling_25 (by decide) ?_
    refine x_istore (lv1 := [(4, .int (-1)), (0, .ref 28), (1, .ref a1), (2, .int i2), (3, .int i3)]) dX7_readHandling_26 (by decide) rfl ?_
    refine x_iload_n dX7_readHandling_28 3 rfl ?_
    refine x_iconst (v := 2) dX7_readHandling_29 (by decide) ?_
    refine x_ic_ne 79 dX7_readHandling_30 (by decide) (fun c2 => ?_) (fun c2 => ?_)
    · refine x_aload_n dX7_readHandling_79 1 rfl ?_
      refine x_getR fdX7_15 rfl dX7_readHandling_80 f1.1 f1.2 f2 ?_
      refine x_aload_n dX7_readHandling_83 1 rfl ?_
      refine x_getR fdX7_9 rfl dX7_readHandling_84 f1.1 f1.2 f3 ?_
      refine x_getJ fdX7_76 rfl dX7_readHandling_87 f4.1 f4.2 ?_
      refine EX.sub [1, 2, 3, 4, 0] (K0.v (As := [.long (mj M 25 6)]) (st := []) cvX7_100 dX7_readHandling_90 rfl rfl f5 rfl (Nat.le_of_ble_eq_true rfl) (k1 c1 c2)) rfl
    · refine x_aload_n dX7_readHandling_33 1 rfl ?_
      refine x_getR fdX7_15 rfl dX7_readHandling_34 f1.1 f1.2 f2 ?_
      refine x_aload_n dX7_readHandling_37 1 rfl ?_
      refine x_getR fdX7_9 rfl dX7_readHandling_38 f1.1 f1.2 f3 ?_
      refine x_getJ fdX7_76 rfl dX7_readHandling_41 f4.1 f4.2 ?_
      refine EX.sub [1, 2, 3, 4] (K0.v (As := [.long (mj M 25 6)]) (st := []) cvX7_141 dX7_readHandling_44 rfl rfl f5 rfl (Nat.le_of_ble_eq_true rfl) (k2 c1 c2)) rfl
  · refine x_iconst (v := 0) dX7_readHandling_23 (by decide) ?_
    exact x_zret rfl dX7_readHandling_24 rfl (Nat.le_refl _) (Nat.le_refl _) (k3 c1)
set_option maxRecDepth 8000 in
theorem qX7_readHandling_47 {g : GG} {d : Nat} {M : MM} {P : Option Value → MM → Prop} {a1 : Nat} {i2 : Int32} {i3 : Int32} {s0 : Int32} {la lb pa pb rl : Nat} (L : Lay M la lb pa pb rl)
    (k1 : K0 g YX7_readHandling YX7_isName d 53 [.ref 28] [(0, .ref 28), (1, .ref a1), (2, .int i2), (3, .int i3), (4, .int s0)] [] M P) :
    E0 g YX7_readHandling d 47 [(0, .ref 28), (1, .ref a1), (2, .int i2), (3, .int i3)] [.int s0] M P := by
  have f1 : ob M 28 7 := L.s rfl (by decide)
  refine x_istore (lv1 := [(4, .int s0), (0, .ref 28), (1, .ref a1), (2, .int i2), (3, .int i3)]) dX7_readHandling_47 (by decide) rfl ?_
  refine x_aload_n dX7_readHandling_49 1 rfl ?_
  refine EX.sub [1, 2, 3, 4, 0] (K0.v (As := []) (st := []) cvX7_107 dX7_readHandling_50 rfl rfl f1 rfl (Nat.le_of_ble_eq_true rfl) (k1)) rfl
set_option maxRecDepth 8000 in
theorem qX7_readHandling_53 {g : GG} {d : Nat} {M : MM} {P : Option Value → MM → Prop} {a1 : Nat} {i2 : Int32} {i3 : Int32} {i4 : Int32} {s0 : Int32} {la lb pa pb rl : Nat} (L : Lay M la lb pa pb rl)
    (k1 : s0 = 0 → K0 g YX7_readHandling YX7_takeTold d 74 [.ref 28, .int i4] [(0, .ref 28), (1, .ref a1), (2, .int i2), (3, .int i3), (4, .int i4)] [] M P)
    (k2 : ¬ (s0 = 0) → ¬ i4 = i3 → K0 g YX7_readHandling YX7_takeTold d 74 [.ref 28, .int i4] [(0, .ref 28), (1, .ref a1), (2, .int i2), (3, .int i3), (4, .int i4)] [] M P)
    (k3 : ¬ (s0 = 0) → i4 = i3 → K0 g YX7_readHandling YX7_fail d 67 [.ref 28, .int 3] [] [] M P) :
    E0 g YX7_readHandling d 53 [(0, .ref 28), (1, .ref a1), (2, .int i2), (3, .int i3), (4, .int i4)] [.int s0] M P := by
  have f1 : ob M 28 7 := L.s rfl (by decide)
  refine x_if_eq 68 dX7_readHandling_53 (by decide) (fun c1 => ?_) (fun c1 => ?_)
  · refine x_aload_n dX7_readHandling_68 0 rfl ?_
    refine x_iload dX7_readHandling_69 4 rfl ?_
    refine EX.sub [0, 1, 2, 3, 4] (K0.v (As := [.int i4]) (st := []) cvX7_104 dX7_readHandling_71 rfl rfl f1 rfl (Nat.le_of_ble_eq_true rfl) (k1 c1)) rfl
  · refine x_iload dX7_readHandling_56 4 rfl ?_
    refine x_iload_n dX7_readHandling_58 3 rfl ?_
    refine x_ic_ne 68 dX7_readHandling_59 (by decide) (fun c2 => ?_) (fun c2 => ?_)
    · refine x_aload_n dX7_readHandling_68 0 rfl ?_
      refine x_iload dX7_readHandling_69 4 rfl ?_
      refine EX.sub [0, 1, 2, 3, 4] (K0.v (As := [.int i4]) (st := []) cvX7_104 dX7_readHandling_71 rfl rfl f1 rfl (Nat.le_of_ble_eq_true rfl) (k2 c1 c2)) rfl
    · refine x_aload_n dX7_readHandling_62 0 rfl ?_
      refine x_iconst (v := 3) dX7_readHandling_63 (by decide) ?_
      refine EX.sub [] (K0.v (As := [.int 3]) (st := []) cvX7_47 dX7_readHandling_64 rfl rfl f1 rfl (Nat.le_of_ble_eq_true rfl) (k3 c1 c2)) rfl
set_option maxRecDepth 8000 in
theorem qX7_readHandling_67 {g : GG} {d : Nat} {M : MM} {P : Option Value → MM → Prop} {s0 : Int32}
    (h1 : s0 &&& 1 = s0)
    (k1 : P (some (.int s0)) M) :
    E0 g YX7_readHandling d 67 [] [.int s0] M P := by
  exact x_zret rfl dX7_readHandling_67 (h1) (Nat.le_refl _) (Nat.le_refl _) (k1)
set_option maxRecDepth 8000 in
theorem qX7_readHandling_74 {g : GG} {d : Nat} {M : MM} {P : Option Value → MM → Prop} {a1 : Nat} {i2 : Int32} {i3 : Int32} {i4 : Int32} {s0 : Int32} {la lb pa pb rl : Nat} (L : Lay M la lb pa pb rl)
    (k1 : ¬ s0 = 0 → K0 g YX7_readHandling YX0_shotNamed d 93 [.ref rl, .long (mj M 25 6)] [(0, .ref 28), (1, .ref a1), (2, .int i2), (3, .int i3), (4, .int i4)] [] M P)
    (k2 : s0 = 0 → P (some (.int 0)) M) :
    E0 g YX7_readHandling d 74 [(0, .ref 28), (1, .ref a1), (2, .int i2), (3, .int i3), (4, .int i4)] [.int s0] M P := by
  have f1 : ob M 28 7 := L.s rfl (by decide)
  have f2 : mr M 28 1 = some rl := L.rrl
  have f3 : mr M 28 0 = some 25 := L.r 34 rfl
  have f4 : ob M 25 9 := L.s rfl (by decide)
  have f5 : ob M rl 0 := L.crl.o
  refine x_if_ne 79 dX7_readHandling_74 (by decide) (fun c1 => ?_) (fun c1 => ?_)
  · refine x_aload_n dX7_readHandling_79 0 rfl ?_
    refine x_getR fdX7_15 rfl dX7_readHandling_80 f1.1 f1.2 f2 ?_
    refine x_aload_n dX7_readHandling_83 0 rfl ?_
    refine x_getR fdX7_9 rfl dX7_readHandling_84 f1.1 f1.2 f3 ?_
    refine x_getJ fdX7_76 rfl dX7_readHandling_87 f4.1 f4.2 ?_
    refine EX.sub [0, 1, 2, 3, 4] (K0.v (As := [.long (mj M 25 6)]) (st := []) cvX7_100 dX7_readHandling_90 rfl rfl f5 rfl (Nat.le_of_ble_eq_true rfl) (k1 c1)) rfl
  · refine x_iconst (v := 0) dX7_readHandling_77 (by decide) ?_
    exact x_zret rfl dX7_readHandling_78 rfl (Nat.le_refl _) (Nat.le_refl _) (k2 c1)
set_option maxRecDepth 8000 in
theorem qX7_readHandling_93 {g : GG} {d : Nat} {M : MM} {P : Option Value → MM → Prop} {a1 : Nat} {i2 : Int32} {i3 : Int32} {i4 : Int32} {s0 : Int32} {la lb pa pb rl : Nat} (L : Lay M la lb pa pb rl)
    (k1 : K0 g YX7_readHandling YX7_takeTold d 101 [.ref 28, .int s0] [(0, .ref 28), (1, .ref a1), (2, .int i2), (3, .int i3), (4, .int i4), (5, .int s0)] [] M P) :
    E0 g YX7_readHandling d 93 [(0, .ref 28), (1, .ref a1), (2, .int i2), (3, .int i3), (4, .int i4)] [.int s0] M P := by
  have f1 : ob M 28 7 := L.s rfl (by decide)
  refine x_istore (lv1 := [(5, .int s0), (0, .ref 28), (1, .ref a1), (2, .int i2), (3, .int i3), (4, .int i4)]) dX7_readHandling_93 (by decide) rfl ?_
  refine x_aload_n dX7_readHandling_95 1 rfl ?_
  refine x_iload dX7_readHandling_96 0 rfl ?_
  refine EX.sub [1, 2, 3, 4, 5, 0] (K0.v (As := [.int s0]) (st := []) cvX7_104 dX7_readHandling_98 rfl rfl f1 rfl (Nat.le_of_ble_eq_true rfl) (k1)) rfl
set_option maxRecDepth 8000 in
theorem qX7_readHandling_101 {g : GG} {d : Nat} {M : MM} {P : Option Value → MM → Prop} {a1 : Nat} {i2 : Int32} {i3 : Int32} {i4 : Int32} {i5 : Int32} {s0 : Int32} {la lb pa pb rl : Nat} (L : Lay M la lb pa pb rl)
    (k1 : s0 = 0 → P (some (.int 0)) M)
    (k2 : ¬ (s0 = 0) → K0 g YX7_readHandling YX7_takeSemicolon d 108 [.ref 28] [(1, .ref a1), (2, .int i2), (3, .int i3), (4, .int i4), (5, .int i5)] [] M P) :
    E0 g YX7_readHandling d 101 [(0, .ref 28), (1, .ref a1), (2, .int i2), (3, .int i3), (4, .int i4), (5, .int i5)] [.int s0] M P := by
  have f1 : ob M 28 7 := L.s rfl (by decide)
  refine x_if_eq 111 dX7_readHandling_101 (by decide) (fun c1 => ?_) (fun c1 => ?_)
  · refine x_iconst (v := 0) dX7_readHandling_111 (by decide) ?_
    exact x_zret rfl dX7_readHandling_112 rfl (Nat.le_refl _) (Nat.le_refl _) (k1 c1)
  · refine x_aload_n dX7_readHandling_104 0 rfl ?_
    refine EX.sub [1, 2, 3, 4, 5] (K0.v (As := []) (st := []) cvX7_93 dX7_readHandling_105 rfl rfl f1 rfl (Nat.le_of_ble_eq_true rfl) (k2 c1)) rfl
set_option maxRecDepth 8000 in
theorem qX7_readHandling_108 {g : GG} {d : Nat} {M : MM} {P : Option Value → MM → Prop} {a1 : Nat} {i2 : Int32} {i3 : Int32} {i4 : Int32} {i5 : Int32} {s0 : Int32} (C1 : Pln M a1)
    (k1 : ¬ s0 = 0 → K0 g YX7_readHandling YX5_add d 123 [.ref a1, .int i2, .int i3, .int i4, .int i5] [] [] M P)
    (k2 : s0 = 0 → P (some (.int 0)) M) :
    E0 g YX7_readHandling d 108 [(1, .ref a1), (2, .int i2), (3, .int i3), (4, .int i4), (5, .int i5)] [.int s0] M P := by
  have f1 : ob M a1 5 := C1.o
  refine x_if_ne 113 dX7_readHandling_108 (by decide) (fun c1 => ?_) (fun c1 => ?_)
  · refine x_aload_n dX7_readHandling_113 0 rfl ?_
    refine x_iload_n dX7_readHandling_114 1 rfl ?_
    refine x_iload_n dX7_readHandling_115 2 rfl ?_
    refine x_iload dX7_readHandling_116 3 rfl ?_
    refine x_iload dX7_readHandling_118 4 rfl ?_
    refine EX.sub [] (K0.v (As := [.int i2, .int i3, .int i4, .int i5]) (st := []) cvX7_137 dX7_readHandling_120 rfl rfl f1 rfl (Nat.le_of_ble_eq_true rfl) (k1 c1)) rfl
  · refine x_iconst (v := 0) dX7_readHandling_111 (by decide) ?_
    exact x_zret rfl dX7_readHandling_112 rfl (Nat.le_refl _) (Nat.le_refl _) (k2 c1)
set_option maxRecDepth 8000 in
theorem qX7_readHandling_123 {g : GG} {d : Nat} {M : MM} {P : Option Value → MM → Prop} 
    (k1 : P (some (.int 1)) M) :
    E0 g YX7_readHandling d 123 [] [] M P := by
  refine x_iconst (v := 1) dX7_readHandling_123 (by decide) ?_
  exact x_zret rfl dX7_readHandling_124 rfl (Nat.le_refl _) (Nat.le_refl _) (k1)
set_option maxRecDepth 8000 in
theorem qX7_isName_0 {g : GG} {d : Nat} {M : MM} {P : Option Value → MM → Prop}  {la lb pa pb rl : Nat} (L : Lay M la lb pa pb rl)
    (k1 : ¬ (mi M 25 5) = 1 → P (some (.int 0)) M)
    (k2 : (mi M 25 5) = 1 → (mi M 25 7) = (-1) → P (some (.int 1)) M)
    (k3 : (mi M 25 5) = 1 → ¬ ((mi M 25 7) = (-1)) → (mi M 25 7) < 17 → P (some (.int 0)) M)
    (k4 : (mi M 25 5) = 1 → ¬ ((mi M 25 7) = (-1)) → ¬ ((mi M 25 7) < 17) → P (some (.int 1)) M) :
    E0 g YX7_isName d 0 [(0, .ref 28)] [] M P := by
  have f1 : ob M 28 7 := L.s rfl (by decide)
  have f2 : mr M 28 0 = some 25 := L.r 34 rfl
  have f3 : ob M 25 9 := L.s rfl (by decide)
  refine x_aload_n dX7_isName_0 0 rfl ?_
  refine x_getR fdX7_9 rfl dX7_isName_1 f1.1 f1.2 f2 ?_
  refine x_getI fdX7_28 rfl dX7_isName_4 f3.1 f3.2 ?_
  refine x_iconst (v := 1) dX7_isName_7 (by decide) ?_
  refine x_ic_ne 38 dX7_isName_8 (by decide) (fun c1 => ?_) (fun c1 => ?_)
  · refine x_iconst (v := 0) dX7_isName_38 (by decide) ?_
    exact x_zret rfl dX7_isName_39 rfl (Nat.le_refl _) (Nat.le_refl _) (k1 c1)
  · refine x_aload_n dX7_isName_11 0 rfl ?_
    refine x_getR fdX7_9 rfl dX7_isName_12 f1.1 f1.2 f2 ?_
    refine x_getI fdX7_34 rfl dX7_isName_15 f3.1 f3.2 ?_
    refine x_iconst (v := (-1)) dX7_isName_18 (by decide) ?_
    refine x_ic_eq 34 dX7_isName_19 (by decide) (fun c2 => ?_) (fun c2 => ?_)
    · refine x_iconst (v := 1) dX7_isName_34 (by decide) ?_
      refine x_goto 39 dX7_isName_35 (by decide) ?_
      exact x_zret rfl dX7_isName_39 rfl (Nat.le_refl _) (Nat.le_refl _) (k2 c1 c2)
    · refine x_aload_n dX7_isName_22 0 rfl ?_
      refine x_getR fdX7_9 rfl dX7_isName_23 f1.1 f1.2 f2 ?_
      refine x_getI fdX7_34 rfl dX7_isName_26 f3.1 f3.2 ?_
      refine x_bipush (v := 17) dX7_isName_29 (by decide) ?_
      refine x_ic_lt 38 dX7_isName_31 (by decide) (fun c3 => ?_) (fun c3 => ?_)
      · refine x_iconst (v := 0) dX7_isName_38 (by decide) ?_
        exact x_zret rfl dX7_isName_39 rfl (Nat.le_refl _) (Nat.le_refl _) (k3 c1 c2 c3)
      · refine x_iconst (v := 1) dX7_isName_34 (by decide) ?_
        refine x_goto 39 dX7_isName_35 (by decide) ?_
        exact x_zret rfl dX7_isName_39 rfl (Nat.le_refl _) (Nat.le_refl _) (k4 c1 c2 c3)
set_option maxRecDepth 8000 in
theorem qX7_takeNewName_0 {g : GG} {d : Nat} {M : MM} {P : Option Value → MM → Prop}  {la lb pa pb rl : Nat} (L : Lay M la lb pa pb rl)
    (k1 : K0 g YX7_takeNewName YX7_isName d 4 [.ref 28] [(0, .ref 28)] [] M P) :
    E0 g YX7_takeNewName d 0 [(0, .ref 28)] [] M P := by
  have f1 : ob M 28 7 := L.s rfl (by decide)
  refine x_aload_n dX7_takeNewName_0 0 rfl ?_
  refine EX.sub [0] (K0.v (As := []) (st := []) cvX7_107 dX7_takeNewName_1 rfl rfl f1 rfl (Nat.le_of_ble_eq_true rfl) (k1)) rfl
set_option maxRecDepth 8000 in
theorem qX7_takeNewName_4 {g : GG} {d : Nat} {M : MM} {P : Option Value → MM → Prop} {s0 : Int32} {la lb pa pb rl : Nat} (L : Lay M la lb pa pb rl)
    (k1 : ¬ s0 = 0 → K0 g YX7_takeNewName YX0_shotNamed d 27 [.ref rl, .long (mj M 25 6)] [(0, .ref 28)] [] M P)
    (k2 : s0 = 0 → K0 g YX7_takeNewName YX7_fail d 12 [.ref 28, .int 1] [] [] M P) :
    E0 g YX7_takeNewName d 4 [(0, .ref 28)] [.int s0] M P := by
  have f1 : ob M 28 7 := L.s rfl (by decide)
  have f2 : mr M 28 1 = some rl := L.rrl
  have f3 : mr M 28 0 = some 25 := L.r 34 rfl
  have f4 : ob M 25 9 := L.s rfl (by decide)
  have f5 : ob M rl 0 := L.crl.o
  refine x_if_ne 13 dX7_takeNewName_4 (by decide) (fun c1 => ?_) (fun c1 => ?_)
  · refine x_aload_n dX7_takeNewName_13 0 rfl ?_
    refine x_getR fdX7_15 rfl dX7_takeNewName_14 f1.1 f1.2 f2 ?_
    refine x_aload_n dX7_takeNewName_17 0 rfl ?_
    refine x_getR fdX7_9 rfl dX7_takeNewName_18 f1.1 f1.2 f3 ?_
    refine x_getJ fdX7_76 rfl dX7_takeNewName_21 f4.1 f4.2 ?_
    refine EX.sub [0] (K0.v (As := [.long (mj M 25 6)]) (st := []) cvX7_100 dX7_takeNewName_24 rfl rfl f5 rfl (Nat.le_of_ble_eq_true rfl) (k1 c1)) rfl
  · refine x_aload_n dX7_takeNewName_7 0 rfl ?_
    refine x_iconst (v := 1) dX7_takeNewName_8 (by decide) ?_
    refine EX.sub [] (K0.v (As := [.int 1]) (st := []) cvX7_47 dX7_takeNewName_9 rfl rfl f1 rfl (Nat.le_of_ble_eq_true rfl) (k2 c1)) rfl
set_option maxRecDepth 8000 in
theorem qX7_takeNewName_12 {g : GG} {d : Nat} {M : MM} {P : Option Value → MM → Prop} {s0 : Int32}
    (h1 : s0 &&& 1 = s0)
    (k1 : P (some (.int s0)) M) :
    E0 g YX7_takeNewName d 12 [] [.int s0] M P := by
  exact x_zret rfl dX7_takeNewName_12 (h1) (Nat.le_refl _) (Nat.le_refl _) (k1)
set_option maxRecDepth 8000 in
theorem qX7_takeNewName_27 {g : GG} {d : Nat} {M : MM} {P : Option Value → MM → Prop} {s0 : Int32} {la lb pa pb rl : Nat} (L : Lay M la lb pa pb rl)
    (k1 : ¬ s0 = (-1) → K0 g YX7_takeNewName YX7_fail d 54 [.ref 28, .int 3] [] [] M P)
    (k2 : s0 = (-1) → K0 g YX7_takeNewName YX0_hallNamed d 45 [.ref rl, .long (mj M 25 6)] [(0, .ref 28)] [] M P) :
    E0 g YX7_takeNewName d 27 [(0, .ref 28)] [.int s0] M P := by
  have f1 : ob M 28 7 := L.s rfl (by decide)
  have f2 : mr M 28 1 = some rl := L.rrl
  have f3 : mr M 28 0 = some 25 := L.r 34 rfl
  have f4 : ob M 25 9 := L.s rfl (by decide)
  have f5 : ob M rl 0 := L.crl.o
  refine x_iconst (v := (-1)) dX7_takeNewName_27 (by decide) ?_
  refine x_ic_ne 49 dX7_takeNewName_28 (by decide) (fun c1 => ?_) (fun c1 => ?_)
  · refine x_aload_n dX7_takeNewName_49 0 rfl ?_
    refine x_iconst (v := 3) dX7_takeNewName_50 (by decide) ?_
    refine EX.sub [] (K0.v (As := [.int 3]) (st := []) cvX7_47 dX7_takeNewName_51 rfl rfl f1 rfl (Nat.le_of_ble_eq_true rfl) (k1 c1)) rfl
  · refine x_aload_n dX7_takeNewName_31 0 rfl ?_
    refine x_getR fdX7_15 rfl dX7_takeNewName_32 f1.1 f1.2 f2 ?_
    refine x_aload_n dX7_takeNewName_35 0 rfl ?_
    refine x_getR fdX7_9 rfl dX7_takeNewName_36 f1.1 f1.2 f3 ?_
    refine x_getJ fdX7_76 rfl dX7_takeNewName_39 f4.1 f4.2 ?_
    refine EX.sub [0] (K0.v (As := [.long (mj M 25 6)]) (st := []) cvX7_141 dX7_takeNewName_42 rfl rfl f5 rfl (Nat.le_of_ble_eq_true rfl) (k2 c1)) rfl
set_option maxRecDepth 8000 in
theorem qX7_takeNewName_45 {g : GG} {d : Nat} {M : MM} {P : Option Value → MM → Prop} {s0 : Int32} {la lb pa pb rl : Nat} (L : Lay M la lb pa pb rl)
    (k1 : s0 = (-1) → K0 g YX7_takeNewName YX9_advance d 62 [.ref 25] [] [] M P)
    (k2 : ¬ (s0 = (-1)) → K0 g YX7_takeNewName YX7_fail d 54 [.ref 28, .int 3] [] [] M P) :
    E0 g YX7_takeNewName d 45 [(0, .ref 28)] [.int s0] M P := by
  have f1 : ob M 28 7 := L.s rfl (by decide)
  have f2 : mr M 28 0 = some 25 := L.r 34 rfl
  have f3 : ob M 25 9 := L.s rfl (by decide)
  refine x_iconst (v := (-1)) dX7_takeNewName_45 (by decide) ?_
  refine x_ic_eq 55 dX7_takeNewName_46 (by decide) (fun c1 => ?_) (fun c1 => ?_)
  · refine x_aload_n dX7_takeNewName_55 0 rfl ?_
    refine x_getR fdX7_9 rfl dX7_takeNewName_56 f1.1 f1.2 f2 ?_
    refine EX.sub [] (K0.v (As := []) (st := []) cvX7_73 dX7_takeNewName_59 rfl rfl f3 rfl (Nat.le_of_ble_eq_true rfl) (k1 c1)) rfl
  · refine x_aload_n dX7_takeNewName_49 0 rfl ?_
    refine x_iconst (v := 3) dX7_takeNewName_50 (by decide) ?_
    refine EX.sub [] (K0.v (As := [.int 3]) (st := []) cvX7_47 dX7_takeNewName_51 rfl rfl f1 rfl (Nat.le_of_ble_eq_true rfl) (k2 c1)) rfl
set_option maxRecDepth 8000 in
theorem qX7_takeNewName_54 {g : GG} {d : Nat} {M : MM} {P : Option Value → MM → Prop} {s0 : Int32}
    (h1 : s0 &&& 1 = s0)
    (k1 : P (some (.int s0)) M) :
    E0 g YX7_takeNewName d 54 [] [.int s0] M P := by
  exact x_zret rfl dX7_takeNewName_54 (h1) (Nat.le_refl _) (Nat.le_refl _) (k1)
set_option maxRecDepth 8000 in
theorem qX7_takeNewName_62 {g : GG} {d : Nat} {M : MM} {P : Option Value → MM → Prop} 
    (k1 : P (some (.int 1)) M) :
    E0 g YX7_takeNewName d 62 [] [] M P := by
  refine x_iconst (v := 1) dX7_takeNewName_62 (by decide) ?_
  exact x_zret rfl dX7_takeNewName_63 rfl (Nat.le_refl _) (Nat.le_refl _) (k1)
set_option maxRecDepth 8000 in
theorem qX7_takeTold_0 {g : GG} {d : Nat} {M : MM} {P : Option Value → MM → Prop} {i1 : Int32} {la lb pa pb rl : Nat} (L : Lay M la lb pa pb rl)
    (k1 : K0 g YX7_takeTold YX7_isName d 4 [.ref 28] [(0, .ref 28), (1, .int i1)] [] M P) :
    E0 g YX7_takeTold d 0 [(0, .ref 28), (1, .int i1)] [] M P := by
  have f1 : ob M 28 7 := L.s rfl (by decide)
  refine x_aload_n dX7_takeTold_0 0 rfl ?_
  refine EX.sub [0, 1] (K0.v (As := []) (st := []) cvX7_107 dX7_takeTold_1 rfl rfl f1 rfl (Nat.le_of_ble_eq_true rfl) (k1)) rfl
set_option maxRecDepth 8000 in
theorem qX7_takeTold_4 {g : GG} {d : Nat} {M : MM} {P : Option Value → MM → Prop} {i1 : Int32} {s0 : Int32} {la lb pa pb rl : Nat} (L : Lay M la lb pa pb rl)
    (k1 : ¬ s0 = 0 → ¬ i1 = (-1) → K0 g YX7_takeTold YX9_advance d 31 [.ref 25] [] [] M P)
    (k2 : ¬ s0 = 0 → i1 = (-1) → K0 g YX7_takeTold YX7_fail d 23 [.ref 28, .int 2] [] [] M P)
    (k3 : s0 = 0 → K0 g YX7_takeTold YX7_fail d 12 [.ref 28, .int 1] [] [] M P) :
    E0 g YX7_takeTold d 4 [(0, .ref 28), (1, .int i1)] [.int s0] M P := by
  have f1 : ob M 28 7 := L.s rfl (by decide)
  have f2 : mr M 28 0 = some 25 := L.r 34 rfl
  have f3 : ob M 25 9 := L.s rfl (by decide)
  refine x_if_ne 13 dX7_takeTold_4 (by decide) (fun c1 => ?_) (fun c1 => ?_)
  · refine x_iload_n dX7_takeTold_13 1 rfl ?_
    refine x_iconst (v := (-1)) dX7_takeTold_14 (by decide) ?_
    refine x_ic_ne 24 dX7_takeTold_15 (by decide) (fun c2 => ?_) (fun c2 => ?_)
    · refine x_aload_n dX7_takeTold_24 0 rfl ?_
      refine x_getR fdX7_9 rfl dX7_takeTold_25 f1.1 f1.2 f2 ?_
      refine EX.sub [] (K0.v (As := []) (st := []) cvX7_73 dX7_takeTold_28 rfl rfl f3 rfl (Nat.le_of_ble_eq_true rfl) (k1 c1 c2)) rfl
    · refine x_aload_n dX7_takeTold_18 0 rfl ?_
      refine x_iconst (v := 2) dX7_takeTold_19 (by decide) ?_
      refine EX.sub [] (K0.v (As := [.int 2]) (st := []) cvX7_47 dX7_takeTold_20 rfl rfl f1 rfl (Nat.le_of_ble_eq_true rfl) (k2 c1 c2)) rfl
  · refine x_aload_n dX7_takeTold_7 0 rfl ?_
    refine x_iconst (v := 1) dX7_takeTold_8 (by decide) ?_
    refine EX.sub [] (K0.v (As := [.int 1]) (st := []) cvX7_47 dX7_takeTold_9 rfl rfl f1 rfl (Nat.le_of_ble_eq_true rfl) (k3 c1)) rfl
set_option maxRecDepth 8000 in
theorem qX7_takeTold_12 {g : GG} {d : Nat} {M : MM} {P : Option Value → MM → Prop} {s0 : Int32}
    (h1 : s0 &&& 1 = s0)
    (k1 : P (some (.int s0)) M) :
    E0 g YX7_takeTold d 12 [] [.int s0] M P := by
  exact x_zret rfl dX7_takeTold_12 (h1) (Nat.le_refl _) (Nat.le_refl _) (k1)
set_option maxRecDepth 8000 in
theorem qX7_takeTold_23 {g : GG} {d : Nat} {M : MM} {P : Option Value → MM → Prop} {s0 : Int32}
    (h1 : s0 &&& 1 = s0)
    (k1 : P (some (.int s0)) M) :
    E0 g YX7_takeTold d 23 [] [.int s0] M P := by
  exact x_zret rfl dX7_takeTold_23 (h1) (Nat.le_refl _) (Nat.le_refl _) (k1)
set_option maxRecDepth 8000 in
theorem qX7_takeTold_31 {g : GG} {d : Nat} {M : MM} {P : Option Value → MM → Prop} 
    (k1 : P (some (.int 1)) M) :
    E0 g YX7_takeTold d 31 [] [] M P := by
  refine x_iconst (v := 1) dX7_takeTold_31 (by decide) ?_
  exact x_zret rfl dX7_takeTold_32 rfl (Nat.le_refl _) (Nat.le_refl _) (k1)
set_option maxRecDepth 8000 in
theorem qX7_takeKeyword_0 {g : GG} {d : Nat} {M : MM} {P : Option Value → MM → Prop} {i1 : Int32} {la lb pa pb rl : Nat} (L : Lay M la lb pa pb rl)
    (k1 : (mi M 25 7) = i1 → K0 g YX7_takeKeyword YX9_advance d 24 [.ref 25] [] [] M P)
    (k2 : ¬ ((mi M 25 7) = i1) → K0 g YX7_takeKeyword YX7_fail d 16 [.ref 28, .int 1] [] [] M P) :
    E0 g YX7_takeKeyword d 0 [(0, .ref 28), (1, .int i1)] [] M P := by
  have f1 : ob M 28 7 := L.s rfl (by decide)
  have f2 : mr M 28 0 = some 25 := L.r 34 rfl
  have f3 : ob M 25 9 := L.s rfl (by decide)
  refine x_aload_n dX7_takeKeyword_0 0 rfl ?_
  refine x_getR fdX7_9 rfl dX7_takeKeyword_1 f1.1 f1.2 f2 ?_
  refine x_getI fdX7_34 rfl dX7_takeKeyword_4 f3.1 f3.2 ?_
  refine x_iload_n dX7_takeKeyword_7 1 rfl ?_
  refine x_ic_eq 17 dX7_takeKeyword_8 (by decide) (fun c1 => ?_) (fun c1 => ?_)
  · refine x_aload_n dX7_takeKeyword_17 0 rfl ?_
    refine x_getR fdX7_9 rfl dX7_takeKeyword_18 f1.1 f1.2 f2 ?_
    refine EX.sub [] (K0.v (As := []) (st := []) cvX7_73 dX7_takeKeyword_21 rfl rfl f3 rfl (Nat.le_of_ble_eq_true rfl) (k1 c1)) rfl
  · refine x_aload_n dX7_takeKeyword_11 0 rfl ?_
    refine x_iconst (v := 1) dX7_takeKeyword_12 (by decide) ?_
    refine EX.sub [] (K0.v (As := [.int 1]) (st := []) cvX7_47 dX7_takeKeyword_13 rfl rfl f1 rfl (Nat.le_of_ble_eq_true rfl) (k2 c1)) rfl
set_option maxRecDepth 8000 in
theorem qX7_takeKeyword_16 {g : GG} {d : Nat} {M : MM} {P : Option Value → MM → Prop} {s0 : Int32}
    (h1 : s0 &&& 1 = s0)
    (k1 : P (some (.int s0)) M) :
    E0 g YX7_takeKeyword d 16 [] [.int s0] M P := by
  exact x_zret rfl dX7_takeKeyword_16 (h1) (Nat.le_refl _) (Nat.le_refl _) (k1)
set_option maxRecDepth 8000 in
theorem qX7_takeKeyword_24 {g : GG} {d : Nat} {M : MM} {P : Option Value → MM → Prop} 
    (k1 : P (some (.int 1)) M) :
    E0 g YX7_takeKeyword d 24 [] [] M P := by
  refine x_iconst (v := 1) dX7_takeKeyword_24 (by decide) ?_
  exact x_zret rfl dX7_takeKeyword_25 rfl (Nat.le_refl _) (Nat.le_refl _) (k1)
set_option maxRecDepth 8000 in
theorem qX7_takeNumber_0 {g : GG} {d : Nat} {M : MM} {P : Option Value → MM → Prop} {i1 : Int32} {i2 : Int32} {la lb pa pb rl : Nat} (L : Lay M la lb pa pb rl)
    (k1 : (mi M 25 5) = 2 → (mi M 25 8) < i1 → K0 g YX7_takeNumber YX7_fail d 44 [.ref 28, .int 4] [] [] M P)
    (k2 : (mi M 25 5) = 2 → ¬ ((mi M 25 8) < i1) → (mi M 25 8) ≤ i2 → K0 g YX7_takeNumber YX9_advance d 52 [.ref 25] [] [] M P)
    (k3 : (mi M 25 5) = 2 → ¬ ((mi M 25 8) < i1) → ¬ ((mi M 25 8) ≤ i2) → K0 g YX7_takeNumber YX7_fail d 44 [.ref 28, .int 4] [] [] M P)
    (k4 : ¬ ((mi M 25 5) = 2) → K0 g YX7_takeNumber YX7_fail d 16 [.ref 28, .int 1] [] [] M P) :
    E0 g YX7_takeNumber d 0 [(0, .ref 28), (1, .int i1), (2, .int i2)] [] M P := by
  have f1 : ob M 28 7 := L.s rfl (by decide)
  have f2 : mr M 28 0 = some 25 := L.r 34 rfl
  have f3 : ob M 25 9 := L.s rfl (by decide)
  refine x_aload_n dX7_takeNumber_0 0 rfl ?_
  refine x_getR fdX7_9 rfl dX7_takeNumber_1 f1.1 f1.2 f2 ?_
  refine x_getI fdX7_28 rfl dX7_takeNumber_4 f3.1 f3.2 ?_
  refine x_iconst (v := 2) dX7_takeNumber_7 (by decide) ?_
  refine x_ic_eq 17 dX7_takeNumber_8 (by decide) (fun c1 => ?_) (fun c1 => ?_)
  · refine x_aload_n dX7_takeNumber_17 0 rfl ?_
    refine x_getR fdX7_9 rfl dX7_takeNumber_18 f1.1 f1.2 f2 ?_
    refine x_getI fdX7_86 rfl dX7_takeNumber_21 f3.1 f3.2 ?_
    refine x_iload_n dX7_takeNumber_24 1 rfl ?_
    refine x_ic_lt 39 dX7_takeNumber_25 (by decide) (fun c2 => ?_) (fun c2 => ?_)
    · refine x_aload_n dX7_takeNumber_39 0 rfl ?_
      refine x_iconst (v := 4) dX7_takeNumber_40 (by decide) ?_
      refine EX.sub [] (K0.v (As := [.int 4]) (st := []) cvX7_47 dX7_takeNumber_41 rfl rfl f1 rfl (Nat.le_of_ble_eq_true rfl) (k1 c1 c2)) rfl
    · refine x_aload_n dX7_takeNumber_28 0 rfl ?_
      refine x_getR fdX7_9 rfl dX7_takeNumber_29 f1.1 f1.2 f2 ?_
      refine x_getI fdX7_86 rfl dX7_takeNumber_32 f3.1 f3.2 ?_
      refine x_iload_n dX7_takeNumber_35 2 rfl ?_
      refine x_ic_le 45 dX7_takeNumber_36 (by decide) (fun c3 => ?_) (fun c3 => ?_)
      · refine x_aload_n dX7_takeNumber_45 0 rfl ?_
        refine x_getR fdX7_9 rfl dX7_takeNumber_46 f1.1 f1.2 f2 ?_
        refine EX.sub [] (K0.v (As := []) (st := []) cvX7_73 dX7_takeNumber_49 rfl rfl f3 rfl (Nat.le_of_ble_eq_true rfl) (k2 c1 c2 c3)) rfl
      · refine x_aload_n dX7_takeNumber_39 0 rfl ?_
        refine x_iconst (v := 4) dX7_takeNumber_40 (by decide) ?_
        refine EX.sub [] (K0.v (As := [.int 4]) (st := []) cvX7_47 dX7_takeNumber_41 rfl rfl f1 rfl (Nat.le_of_ble_eq_true rfl) (k3 c1 c2 c3)) rfl
  · refine x_aload_n dX7_takeNumber_11 0 rfl ?_
    refine x_iconst (v := 1) dX7_takeNumber_12 (by decide) ?_
    refine EX.sub [] (K0.v (As := [.int 1]) (st := []) cvX7_47 dX7_takeNumber_13 rfl rfl f1 rfl (Nat.le_of_ble_eq_true rfl) (k4 c1)) rfl
set_option maxRecDepth 8000 in
theorem qX7_takeNumber_16 {g : GG} {d : Nat} {M : MM} {P : Option Value → MM → Prop} {s0 : Int32}
    (h1 : s0 &&& 1 = s0)
    (k1 : P (some (.int s0)) M) :
    E0 g YX7_takeNumber d 16 [] [.int s0] M P := by
  exact x_zret rfl dX7_takeNumber_16 (h1) (Nat.le_refl _) (Nat.le_refl _) (k1)
set_option maxRecDepth 8000 in
theorem qX7_takeNumber_44 {g : GG} {d : Nat} {M : MM} {P : Option Value → MM → Prop} {s0 : Int32}
    (h1 : s0 &&& 1 = s0)
    (k1 : P (some (.int s0)) M) :
    E0 g YX7_takeNumber d 44 [] [.int s0] M P := by
  exact x_zret rfl dX7_takeNumber_44 (h1) (Nat.le_refl _) (Nat.le_refl _) (k1)
set_option maxRecDepth 8000 in
theorem qX7_takeNumber_52 {g : GG} {d : Nat} {M : MM} {P : Option Value → MM → Prop} 
    (k1 : P (some (.int 1)) M) :
    E0 g YX7_takeNumber d 52 [] [] M P := by
  refine x_iconst (v := 1) dX7_takeNumber_52 (by decide) ?_
  exact x_zret rfl dX7_takeNumber_53 rfl (Nat.le_refl _) (Nat.le_refl _) (k1)
set_option maxRecDepth 8000 in
theorem qX7_takeSemicolon_0 {g : GG} {d : Nat} {M : MM} {P : Option Value → MM → Prop}  {la lb pa pb rl : Nat} (L : Lay M la lb pa pb rl)
    (k1 : K0 g YX7_takeSemicolon YX9_isSign d 9 [.ref 25, .int 59] [(0, .ref 28)] [] M P) :
    E0 g YX7_takeSemicolon d 0 [(0, .ref 28)] [] M P := by
  have f1 : ob M 28 7 := L.s rfl (by decide)
  have f2 : mr M 28 0 = some 25 := L.r 34 rfl
  have f3 : ob M 25 9 := L.s rfl (by decide)
  refine x_aload_n dX7_takeSemicolon_0 0 rfl ?_
  refine x_getR fdX7_9 rfl dX7_takeSemicolon_1 f1.1 f1.2 f2 ?_
  refine x_bipush (v := 59) dX7_takeSemicolon_4 (by decide) ?_
  refine EX.sub [0] (K0.v (As := [.int 59]) (st := []) cvX7_144 dX7_takeSemicolon_6 rfl rfl f3 rfl (Nat.le_of_ble_eq_true rfl) (k1)) rfl
set_option maxRecDepth 8000 in
theorem qX7_takeSemicolon_9 {g : GG} {d : Nat} {M : MM} {P : Option Value → MM → Prop} {s0 : Int32} {la lb pa pb rl : Nat} (L : Lay M la lb pa pb rl)
    (k1 : ¬ s0 = 0 → K0 g YX7_takeSemicolon YX9_advance d 25 [.ref 25] [] [] M P)
    (k2 : s0 = 0 → K0 g YX7_takeSemicolon YX7_fail d 17 [.ref 28, .int 1] [] [] M P) :
    E0 g YX7_takeSemicolon d 9 [(0, .ref 28)] [.int s0] M P := by
  have f1 : ob M 28 7 := L.s rfl (by decide)
  have f2 : mr M 28 0 = some 25 := L.r 34 rfl
  have f3 : ob M 25 9 := L.s rfl (by decide)
  refine x_if_ne 18 dX7_takeSemicolon_9 (by decide) (fun c1 => ?_) (fun c1 => ?_)
  · refine x_aload_n dX7_takeSemicolon_18 0 rfl ?_
    refine x_getR fdX7_9 rfl dX7_takeSemicolon_19 f1.1 f1.2 f2 ?_
    refine EX.sub [] (K0.v (As := []) (st := []) cvX7_73 dX7_takeSemicolon_22 rfl rfl f3 rfl (Nat.le_of_ble_eq_true rfl) (k1 c1)) rfl
  · refine x_aload_n dX7_takeSemicolon_12 0 rfl ?_
    refine x_iconst (v := 1) dX7_takeSemicolon_13 (by decide) ?_
    refine EX.sub [] (K0.v (As := [.int 1]) (st := []) cvX7_47 dX7_takeSemicolon_14 rfl rfl f1 rfl (Nat.le_of_ble_eq_true rfl) (k2 c1)) rfl
set_option maxRecDepth 8000 in
theorem qX7_takeSemicolon_17 {g : GG} {d : Nat} {M : MM} {P : Option Value → MM → Prop} {s0 : Int32}
    (h1 : s0 &&& 1 = s0)
    (k1 : P (some (.int s0)) M) :
    E0 g YX7_takeSemicolon d 17 [] [.int s0] M P := by
  exact x_zret rfl dX7_takeSemicolon_17 (h1) (Nat.le_refl _) (Nat.le_refl _) (k1)
set_option maxRecDepth 8000 in
theorem qX7_takeSemicolon_25 {g : GG} {d : Nat} {M : MM} {P : Option Value → MM → Prop} 
    (k1 : P (some (.int 1)) M) :
    E0 g YX7_takeSemicolon d 25 [] [] M P := by
  refine x_iconst (v := 1) dX7_takeSemicolon_25 (by decide) ?_
  exact x_zret rfl dX7_takeSemicolon_26 rfl (Nat.le_refl _) (Nat.le_refl _) (k1)
set_option maxRecDepth 8000 in
theorem qX7_readExpression_0 {g : GG} {d : Nat} {M : MM} {P : Option Value → MM → Prop} {i1 : Int32} {la lb pa pb rl : Nat} (L : Lay M la lb pa pb rl)
    (k1 : K0 g YX7_readExpression YX7_readTest d 5 [.ref 28, .int i1] [(0, .ref 28), (1, .int i1)] [] M P) :
    E0 g YX7_readExpression d 0 [(0, .ref 28), (1, .int i1)] [] M P := by
  have f1 : ob M 28 7 := L.s rfl (by decide)
  refine x_aload_n dX7_readExpression_0 0 rfl ?_
  refine x_iload_n dX7_readExpression_1 1 rfl ?_
  refine EX.sub [0, 1] (K0.v (As := [.int i1]) (st := []) cvX7_148 dX7_readExpression_2 rfl rfl f1 rfl (Nat.le_of_ble_eq_true rfl) (k1)) rfl
set_option maxRecDepth 8000 in
theorem qX7_readExpression_5 {g : GG} {d : Nat} {M : MM} {P : Option Value → MM → Prop} {i1 : Int32} {s0 : Int32}
    (k1 : ¬ s0 = 0 → E0 g YX7_readExpression d 12 [(0, .ref 28), (1, .int i1), (2, .int 0)] [] M P)
    (k2 : s0 = 0 → P (some (.int 0)) M) :
    E0 g YX7_readExpression d 5 [(0, .ref 28), (1, .int i1)] [.int s0] M P := by
  refine x_if_ne 10 dX7_readExpression_5 (by decide) (fun c1 => ?_) (fun c1 => ?_)
  · refine x_iconst (v := 0) dX7_readExpression_10 (by decide) ?_
    refine x_istore_n (lv1 := [(2, .int 0), (0, .ref 28), (1, .int i1)]) dX7_readExpression_11 (by decide) rfl ?_
    exact EX.sub [1, 2, 0] (k1 c1) rfl
  · refine x_iconst (v := 0) dX7_readExpression_8 (by decide) ?_
    exact x_zret rfl dX7_readExpression_9 rfl (Nat.le_refl _) (Nat.le_refl _) (k2 c1)
set_option maxRecDepth 8000 in
theorem qX7_readExpression_12 {g : GG} {d : Nat} {M : MM} {P : Option Value → MM → Prop} {i1 : Int32} {i2 : Int32} {la lb pa pb rl : Nat} (L : Lay M la lb pa pb rl)
    (k1 : 1000 ≤ i2 → P (some (.int 1)) M)
    (k2 : ¬ (1000 ≤ i2) → (mi M 25 7) = 15 → K0 g YX7_readExpression YX9_advance d 48 [.ref 25] [(0, .ref 28), (1, .int i1), (2, .int i2), (3, .int (mi M 25 7))] [] M P)
    (k3 : ¬ (1000 ≤ i2) → ¬ ((mi M 25 7) = 15) → (mi M 25 7) = 16 → K0 g YX7_readExpression YX9_advance d 48 [.ref 25] [(0, .ref 28), (1, .int i1), (2, .int i2), (3, .int (mi M 25 7))] [] M P)
    (k4 : ¬ (1000 ≤ i2) → ¬ ((mi M 25 7) = 15) → ¬ ((mi M 25 7) = 16) → P (some (.int 1)) M) :
    E0 g YX7_readExpression d 12 [(0, .ref 28), (1, .int i1), (2, .int i2)] [] M P := by
  have f1 : ob M 28 7 := L.s rfl (by decide)
  have f2 : mr M 28 0 = some 25 := L.r 34 rfl
  have f3 : ob M 25 9 := L.s rfl (by decide)
  refine x_iload_n dX7_readExpression_12 2 rfl ?_
  refine x_sipush (v := 1000) dX7_readExpression_13 (by decide) ?_
  refine x_ic_ge 87 dX7_readExpression_16 (by decide) (fun c1 => ?_) (fun c1 => ?_)
  · refine x_iconst (v := 1) dX7_readExpression_87 (by decide) ?_
    exact x_zret rfl dX7_readExpression_88 rfl (Nat.le_refl _) (Nat.le_refl _) (k1 c1)
  · refine x_aload_n dX7_readExpression_19 0 rfl ?_
    refine x_getR fdX7_9 rfl dX7_readExpression_20 f1.1 f1.2 f2 ?_
    refine x_getI fdX7_34 rfl dX7_readExpression_23 f3.1 f3.2 ?_
    refine x_istore_n (lv1 := [(3, .int (mi M 25 7)), (0, .ref 28), (1, .int i1), (2, .int i2)]) dX7_readExpression_26 (by decide) rfl ?_
    refine x_iload_n dX7_readExpression_27 0 rfl ?_
    refine x_bipush (v := 15) dX7_readExpression_28 (by decide) ?_
    refine x_ic_eq 41 dX7_readExpression_30 (by decide) (fun c2 => ?_) (fun c2 => ?_)
    · refine x_aload_n dX7_readExpression_41 1 rfl ?_
      refine x_getR fdX7_9 rfl dX7_readExpression_42 f1.1 f1.2 f2 ?_
      refine EX.sub [1, 2, 3, 0] (K0.v (As := []) (st := []) cvX7_73 dX7_readExpression_45 rfl rfl f3 rfl (Nat.le_of_ble_eq_true rfl) (k2 c1 c2)) rfl
    · refine x_iload_n dX7_readExpression_33 0 rfl ?_
      refine x_bipush (v := 16) dX7_readExpression_34 (by decide) ?_
      refine x_ic_eq 41 dX7_readExpression_36 (by decide) (fun c3 => ?_) (fun c3 => ?_)
      · refine x_aload_n dX7_readExpression_41 1 rfl ?_
        refine x_getR fdX7_9 rfl dX7_readExpression_42 f1.1 f1.2 f2 ?_
        refine EX.sub [1, 2, 3, 0] (K0.v (As := []) (st := []) cvX7_73 dX7_readExpression_45 rfl rfl f3 rfl (Nat.le_of_ble_eq_true rfl) (k3 c1 c2 c3)) rfl
      · refine x_iconst (v := 1) dX7_readExpression_39 (by decide) ?_
        exact x_zret rfl dX7_readExpression_40 rfl (Nat.le_refl _) (Nat.le_refl _) (k4 c1 c2 c3)
set_option maxRecDepth 8000 in
theorem qX7_readExpression_48 {g : GG} {d : Nat} {M : MM} {P : Option Value → MM → Prop} {i1 : Int32} {i2 : Int32} {i3 : Int32} {la lb pa pb rl : Nat} (L : Lay M la lb pa pb rl)
    (k1 : K0 g YX7_readExpression YX7_readTest d 53 [.ref 28, .int i1] [(0, .ref 28), (1, .int i1), (2, .int i2), (3, .int i3)] [] M P) :
    E0 g YX7_readExpression d 48 [(0, .ref 28), (1, .int i1), (2, .int i2), (3, .int i3)] [] M P := by
  have f1 : ob M 28 7 := L.s rfl (by decide)
  refine x_aload_n dX7_readExpression_48 0 rfl ?_
  refine x_iload_n dX7_readExpression_49 1 rfl ?_
  refine EX.sub [0, 1, 2, 3] (K0.v (As := [.int i1]) (st := []) cvX7_148 dX7_readExpression_50 rfl rfl f1 rfl (Nat.le_of_ble_eq_true rfl) (k1)) rfl
set_option maxRecDepth 8000 in
theorem qX7_readExpression_53 {g : GG} {d : Nat} {M : MM} {P : Option Value → MM → Prop} {i1 : Int32} {i2 : Int32} {i3 : Int32} {s0 : Int32} {la lb pa pb rl : Nat} (L : Lay M la lb pa pb rl)
    (k1 : ¬ s0 = 0 → ¬ i3 = 15 → K0 g YX7_readExpression YX2_add d 81 [.ref (rl + 7), .int (-7)] [(0, .ref 28), (1, .int i1), (2, .int i2)] [] M P)
    (k2 : ¬ s0 = 0 → i3 = 15 → K0 g YX7_readExpression YX2_add d 81 [.ref (rl + 7), .int (-6)] [(0, .ref 28), (1, .int i1), (2, .int i2)] [] M P)
    (k3 : s0 = 0 → P (some (.int 0)) M) :
    E0 g YX7_readExpression d 53 [(0, .ref 28), (1, .int i1), (2, .int i2), (3, .int i3)] [.int s0] M P := by
  have f1 : ob M 28 7 := L.s rfl (by decide)
  have f2 : mr M 28 1 = some rl := L.rrl
  have f3 : ob M rl 0 := L.crl.o
  have f4 : mr M rl 8 = some (rl + 7) := L.crl.r8
  have f5 : ob M (rl + 7) 2 := L.crl.a8.o
  refine x_if_ne 58 dX7_readExpression_53 (by decide) (fun c1 => ?_) (fun c1 => ?_)
  · refine x_aload_n dX7_readExpression_58 0 rfl ?_
    refine x_getR fdX7_15 rfl dX7_readExpression_59 f1.1 f1.2 f2 ?_
    refine x_getR fdX7_151 rfl dX7_readExpression_62 f3.1 f3.2 f4 ?_
    refine x_iload_n dX7_readExpression_65 3 rfl ?_
    refine x_bipush (v := 15) dX7_readExpression_66 (by decide) ?_
    refine x_ic_ne 76 dX7_readExpression_68 (by decide) (fun c2 => ?_) (fun c2 => ?_)
    · refine x_bipush (v := (-7)) dX7_readExpression_76 (by decide) ?_
      refine EX.sub [0, 1, 2] (K0.v (As := [.int (-7)]) (st := []) cvX7_157 dX7_readExpression_78 rfl rfl f5 rfl (Nat.le_of_ble_eq_true rfl) (k1 c1 c2)) rfl
    · refine x_bipush (v := (-6)) dX7_readExpression_71 (by decide) ?_
      refine x_goto 78 dX7_readExpression_73 (by decide) ?_
      refine EX.sub [0, 1, 2] (K0.v (As := [.int (-6)]) (st := []) cvX7_157 dX7_readExpression_78 rfl rfl f5 rfl (Nat.le_of_ble_eq_true rfl) (k2 c1 c2)) rfl
  · refine x_iconst (v := 0) dX7_readExpression_56 (by decide) ?_
    exact x_zret rfl dX7_readExpression_57 rfl (Nat.le_refl _) (Nat.le_refl _) (k3 c1)
set_option maxRecDepth 8000 in
theorem qX7_readExpression_81 {g : GG} {d : Nat} {M : MM} {P : Option Value → MM → Prop} {i1 : Int32} {i2 : Int32}
    (k1 : E0 g YX7_readExpression d 12 [(0, .ref 28), (1, .int i1), (2, .int (i2 + 1))] [] M P) :
    E0 g YX7_readExpression d 81 [(0, .ref 28), (1, .int i1), (2, .int i2)] [] M P := by
  refine x_iinc (v := (i2 + 1)) (lv1 := [(2, .int (i2 + 1)), (0, .ref 28), (1, .int i1)]) dX7_readExpression_81 2 rfl rfl (by decide) rfl ?_
  refine x_goto 12 dX7_readExpression_84 (by decide) ?_
  exact EX.sub [1, 2, 0] k1 rfl
set_option maxRecDepth 8000 in
theorem qX7_readTest_0 {g : GG} {d : Nat} {M : MM} {P : Option Value → MM → Prop} {i1 : Int32} {la lb pa pb rl : Nat} (L : Lay M la lb pa pb rl)
    (k1 : K0 g YX7_readTest YX7_readSum d 5 [.ref 28, .int i1] [(0, .ref 28), (1, .int i1)] [] M P) :
    E0 g YX7_readTest d 0 [(0, .ref 28), (1, .int i1)] [] M P := by
  have f1 : ob M 28 7 := L.s rfl (by decide)
  refine x_aload_n dX7_readTest_0 0 rfl ?_
  refine x_iload_n dX7_readTest_1 1 rfl ?_
  refine EX.sub [0, 1] (K0.v (As := [.int i1]) (st := []) cvX7_160 dX7_readTest_2 rfl rfl f1 rfl (Nat.le_of_ble_eq_true rfl) (k1)) rfl
set_option maxRecDepth 8000 in
theorem qX7_readTest_5 {g : GG} {d : Nat} {M : MM} {P : Option Value → MM → Prop} {i1 : Int32} {s0 : Int32} {la lb pa pb rl : Nat} (L : Lay M la lb pa pb rl)
    (k1 : ¬ s0 = 0 → K0 g YX7_readTest YX9_isSign d 19 [.ref 25, .int 60] [(0, .ref 28), (1, .int i1)] [] M P)
    (k2 : s0 = 0 → P (some (.int 0)) M) :
    E0 g YX7_readTest d 5 [(0, .ref 28), (1, .int i1)] [.int s0] M P := by
  have f1 : ob M 28 7 := L.s rfl (by decide)
  have f2 : mr M 28 0 = some 25 := L.r 34 rfl
  have f3 : ob M 25 9 := L.s rfl (by decide)
  refine x_if_ne 10 dX7_readTest_5 (by decide) (fun c1 => ?_) (fun c1 => ?_)
  · refine x_aload_n dX7_readTest_10 0 rfl ?_
    refine x_getR fdX7_9 rfl dX7_readTest_11 f1.1 f1.2 f2 ?_
    refine x_bipush (v := 60) dX7_readTest_14 (by decide) ?_
    refine EX.sub [0, 1] (K0.v (As := [.int 60]) (st := []) cvX7_144 dX7_readTest_16 rfl rfl f3 rfl (Nat.le_of_ble_eq_true rfl) (k1 c1)) rfl
  · refine x_iconst (v := 0) dX7_readTest_8 (by decide) ?_
    exact x_zret rfl dX7_readTest_9 rfl (Nat.le_refl _) (Nat.le_refl _) (k2 c1)
set_option maxRecDepth 8000 in
theorem qX7_readTest_19 {g : GG} {d : Nat} {M : MM} {P : Option Value → MM → Prop} {i1 : Int32} {s0 : Int32} {la lb pa pb rl : Nat} (L : Lay M la lb pa pb rl)
    (k1 : ¬ s0 = 0 → K0 g YX7_readTest YX9_advance d 45 [.ref 25] [(0, .ref 28), (1, .int i1), (2, .int s0)] [] M P)
    (k2 : s0 = 0 → K0 g YX7_readTest YX9_isSign d 33 [.ref 25, .int 61] [(0, .ref 28), (1, .int i1), (2, .int s0)] [] M P) :
    E0 g YX7_readTest d 19 [(0, .ref 28), (1, .int i1)] [.int s0] M P := by
  have f1 : ob M 28 7 := L.s rfl (by decide)
  have f2 : mr M 28 0 = some 25 := L.r 34 rfl
  have f3 : ob M 25 9 := L.s rfl (by decide)
  refine x_istore_n (lv1 := [(2, .int s0), (0, .ref 28), (1, .int i1)]) dX7_readTest_19 (by decide) rfl ?_
  refine x_iload_n dX7_readTest_20 0 rfl ?_
  refine x_if_ne 38 dX7_readTest_21 (by decide) (fun c1 => ?_) (fun c1 => ?_)
  · refine x_aload_n dX7_readTest_38 1 rfl ?_
    refine x_getR fdX7_9 rfl dX7_readTest_39 f1.1 f1.2 f2 ?_
    refine EX.sub [1, 2, 0] (K0.v (As := []) (st := []) cvX7_73 dX7_readTest_42 rfl rfl f3 rfl (Nat.le_of_ble_eq_true rfl) (k1 c1)) rfl
  · refine x_aload_n dX7_readTest_24 1 rfl ?_
    refine x_getR fdX7_9 rfl dX7_readTest_25 f1.1 f1.2 f2 ?_
    refine x_bipush (v := 61) dX7_readTest_28 (by decide) ?_
    refine EX.sub [1, 2, 0] (K0.v (As := [.int 61]) (st := []) cvX7_144 dX7_readTest_30 rfl rfl f3 rfl (Nat.le_of_ble_eq_true rfl) (k2 c1)) rfl
set_option maxRecDepth 8000 in
theorem qX7_readTest_33 {g : GG} {d : Nat} {M : MM} {P : Option Value → MM → Prop} {i1 : Int32} {i2 : Int32} {s0 : Int32} {la lb pa pb rl : Nat} (L : Lay M la lb pa pb rl)
    (k1 : ¬ s0 = 0 → K0 g YX7_readTest YX9_advance d 45 [.ref 25] [(0, .ref 28), (1, .int i1), (2, .int i2)] [] M P)
    (k2 : s0 = 0 → P (some (.int 1)) M) :
    E0 g YX7_readTest d 33 [(0, .ref 28), (1, .int i1), (2, .int i2)] [.int s0] M P := by
  have f1 : ob M 28 7 := L.s rfl (by decide)
  have f2 : mr M 28 0 = some 25 := L.r 34 rfl
  have f3 : ob M 25 9 := L.s rfl (by decide)
  refine x_if_ne 38 dX7_readTest_33 (by decide) (fun c1 => ?_) (fun c1 => ?_)
  · refine x_aload_n dX7_readTest_38 0 rfl ?_
    refine x_getR fdX7_9 rfl dX7_readTest_39 f1.1 f1.2 f2 ?_
    refine EX.sub [0, 1, 2] (K0.v (As := []) (st := []) cvX7_73 dX7_readTest_42 rfl rfl f3 rfl (Nat.le_of_ble_eq_true rfl) (k1 c1)) rfl
  · refine x_iconst (v := 1) dX7_readTest_36 (by decide) ?_
    exact x_zret rfl dX7_readTest_37 rfl (Nat.le_refl _) (Nat.le_refl _) (k2 c1)
set_option maxRecDepth 8000 in
theorem qX7_readTest_45 {g : GG} {d : Nat} {M : MM} {P : Option Value → MM → Prop} {i1 : Int32} {i2 : Int32} {la lb pa pb rl : Nat} (L : Lay M la lb pa pb rl)
    (k1 : K0 g YX7_readTest YX7_readSum d 50 [.ref 28, .int i1] [(0, .ref 28), (2, .int i2)] [] M P) :
    E0 g YX7_readTest d 45 [(0, .ref 28), (1, .int i1), (2, .int i2)] [] M P := by
  have f1 : ob M 28 7 := L.s rfl (by decide)
  refine x_aload_n dX7_readTest_45 0 rfl ?_
  refine x_iload_n dX7_readTest_46 1 rfl ?_
  refine EX.sub [0, 2] (K0.v (As := [.int i1]) (st := []) cvX7_160 dX7_readTest_47 rfl rfl f1 rfl (Nat.le_of_ble_eq_true rfl) (k1)) rfl
set_option maxRecDepth 8000 in
theorem qX7_readTest_50 {g : GG} {d : Nat} {M : MM} {P : Option Value → MM → Prop} {i2 : Int32} {s0 : Int32} {la lb pa pb rl : Nat} (L : Lay M la lb pa pb rl)
    (k1 : ¬ s0 = 0 → i2 = 0 → K0 g YX7_readTest YX2_add d 76 [.ref (rl + 7), .int (-9)] [] [] M P)
    (k2 : ¬ s0 = 0 → ¬ (i2 = 0) → K0 g YX7_readTest YX2_add d 76 [.ref (rl + 7), .int (-8)] [] [] M P)
    (k3 : s0 = 0 → P (some (.int 0)) M) :
    E0 g YX7_readTest d 50 [(0, .ref 28), (2, .int i2)] [.int s0] M P := by
  have f1 : ob M 28 7 := L.s rfl (by decide)
  have f2 : mr M 28 1 = some rl := L.rrl
  have f3 : ob M rl 0 := L.crl.o
  have f4 : mr M rl 8 = some (rl + 7) := L.crl.r8
  have f5 : ob M (rl + 7) 2 := L.crl.a8.o
  refine x_if_ne 55 dX7_readTest_50 (by decide) (fun c1 => ?_) (fun c1 => ?_)
  · refine x_aload_n dX7_readTest_55 0 rfl ?_
    refine x_getR fdX7_15 rfl dX7_readTest_56 f1.1 f1.2 f2 ?_
    refine x_getR fdX7_151 rfl dX7_readTest_59 f3.1 f3.2 f4 ?_
    refine x_iload_n dX7_readTest_62 1 rfl ?_
    refine x_if_eq 71 dX7_readTest_63 (by decide) (fun c2 => ?_) (fun c2 => ?_)
    · refine x_bipush (v := (-9)) dX7_readTest_71 (by decide) ?_
      refine EX.sub [] (K0.v (As := [.int (-9)]) (st := []) cvX7_157 dX7_readTest_73 rfl rfl f5 rfl (Nat.le_of_ble_eq_true rfl) (k1 c1 c2)) rfl
    · refine x_bipush (v := (-8)) dX7_readTest_66 (by decide) ?_
      refine x_goto 73 dX7_readTest_68 (by decide) ?_
      refine EX.sub [] (K0.v (As := [.int (-8)]) (st := []) cvX7_157 dX7_readTest_73 rfl rfl f5 rfl (Nat.le_of_ble_eq_true rfl) (k2 c1 c2)) rfl
  · refine x_iconst (v := 0) dX7_readTest_53 (by decide) ?_
    exact x_zret rfl dX7_readTest_54 rfl (Nat.le_refl _) (Nat.le_refl _) (k3 c1)
set_option maxRecDepth 8000 in
theorem qX7_readTest_76 {g : GG} {d : Nat} {M : MM} {P : Option Value → MM → Prop} 
    (k1 : P (some (.int 1)) M) :
    E0 g YX7_readTest d 76 [] [] M P := by
  refine x_iconst (v := 1) dX7_readTest_76 (by decide) ?_
  exact x_zret rfl dX7_readTest_77 rfl (Nat.le_refl _) (Nat.le_refl _) (k1)
set_option maxRecDepth 8000 in
theorem qX7_readSum_0 {g : GG} {d : Nat} {M : MM} {P : Option Value → MM → Prop} {i1 : Int32} {la lb pa pb rl : Nat} (L : Lay M la lb pa pb rl)
    (k1 : K0 g YX7_readSum YX7_readProduct d 5 [.ref 28, .int i1] [(0, .ref 28), (1, .int i1)] [] M P) :
    E0 g YX7_readSum d 0 [(0, .ref 28), (1, .int i1)] [] M P := by
  have f1 : ob M 28 7 := L.s rfl (by decide)
  refine x_aload_n dX7_readSum_0 0 rfl ?_
  refine x_iload_n dX7_readSum_1 1 rfl ?_
  refine EX.sub [0, 1] (K0.v (As := [.int i1]) (st := []) cvX7_163 dX7_readSum_2 rfl rfl f1 rfl (Nat.le_of_ble_eq_true rfl) (k1)) rfl
set_option maxRecDepth 8000 in
theorem qX7_readSum_5 {g : GG} {d : Nat} {M : MM} {P : Option Value → MM → Prop} {i1 : Int32} {s0 : Int32}
    (k1 : ¬ s0 = 0 → E0 g YX7_readSum d 12 [(0, .ref 28), (1, .int i1), (2, .int 0)] [] M P)
    (k2 : s0 = 0 → P (some (.int 0)) M) :
    E0 g YX7_readSum d 5 [(0, .ref 28), (1, .int i1)] [.int s0] M P := by
  refine x_if_ne 10 dX7_readSum_5 (by decide) (fun c1 => ?_) (fun c1 => ?_)
  · refine x_iconst (v := 0) dX7_readSum_10 (by decide) ?_
    refine x_istore_n (lv1 := [(2, .int 0), (0, .ref 28), (1, .int i1)]) dX7_readSum_11 (by decide) rfl ?_
    exact EX.sub [1, 2, 0] (k1 c1) rfl
  · refine x_iconst (v := 0) dX7_readSum_8 (by decide) ?_
    exact x_zret rfl dX7_readSum_9 rfl (Nat.le_refl _) (Nat.le_refl _) (k2 c1)
set_option maxRecDepth 8000 in
theorem qX7_readSum_12 {g : GG} {d : Nat} {M : MM} {P : Option Value → MM → Prop} {i1 : Int32} {i2 : Int32} {la lb pa pb rl : Nat} (L : Lay M la lb pa pb rl)
    (k1 : 1000 ≤ i2 → P (some (.int 1)) M)
    (k2 : ¬ (1000 ≤ i2) → K0 g YX7_readSum YX9_isSign d 28 [.ref 25, .int 43] [(0, .ref 28), (1, .int i1), (2, .int i2)] [] M P) :
    E0 g YX7_readSum d 12 [(0, .ref 28), (1, .int i1), (2, .int i2)] [] M P := by
  have f1 : ob M 28 7 := L.s rfl (by decide)
  have f2 : mr M 28 0 = some 25 := L.r 34 rfl
  have f3 : ob M 25 9 := L.s rfl (by decide)
  refine x_iload_n dX7_readSum_12 2 rfl ?_
  refine x_sipush (v := 1000) dX7_readSum_13 (by decide) ?_
  refine x_ic_ge 91 dX7_readSum_16 (by decide) (fun c1 => ?_) (fun c1 => ?_)
  · refine x_iconst (v := 1) dX7_readSum_91 (by decide) ?_
    exact x_zret rfl dX7_readSum_92 rfl (Nat.le_refl _) (Nat.le_refl _) (k1 c1)
  · refine x_aload_n dX7_readSum_19 0 rfl ?_
    refine x_getR fdX7_9 rfl dX7_readSum_20 f1.1 f1.2 f2 ?_
    refine x_bipush (v := 43) dX7_readSum_23 (by decide) ?_
    refine EX.sub [0, 1, 2] (K0.v (As := [.int 43]) (st := []) cvX7_144 dX7_readSum_25 rfl rfl f3 rfl (Nat.le_of_ble_eq_true rfl) (k2 c1)) rfl
set_option maxRecDepth 8000 in
theorem qX7_readSum_28 {g : GG} {d : Nat} {M : MM} {P : Option Value → MM → Prop} {i1 : Int32} {i2 : Int32} {s0 : Int32} {la lb pa pb rl : Nat} (L : Lay M la lb pa pb rl)
    (k1 : ¬ s0 = 0 → K0 g YX7_readSum YX9_advance d 54 [.ref 25] [(0, .ref 28), (1, .int i1), (2, .int i2), (3, .int s0)] [] M P)
    (k2 : s0 = 0 → K0 g YX7_readSum YX9_isSign d 42 [.ref 25, .int 45] [(0, .ref 28), (1, .int i1), (2, .int i2), (3, .int s0)] [] M P) :
    E0 g YX7_readSum d 28 [(0, .ref 28), (1, .int i1), (2, .int i2)] [.int s0] M P := by
  have f1 : ob M 28 7 := L.s rfl (by decide)
  have f2 : mr M 28 0 = some 25 := L.r 34 rfl
  have f3 : ob M 25 9 := L.s rfl (by decide)
  refine x_istore_n (lv1 := [(3, .int s0), (0, .ref 28), (1, .int i1), (2, .int i2)]) dX7_readSum_28 (by decide) rfl ?_
  refine x_iload_n dX7_readSum_29 0 rfl ?_
  refine x_if_ne 47 dX7_readSum_30 (by decide) (fun c1 => ?_) (fun c1 => ?_)
  · refine x_aload_n dX7_readSum_47 1 rfl ?_
    refine x_getR fdX7_9 rfl dX7_readSum_48 f1.1 f1.2 f2 ?_
    refine EX.sub [1, 2, 3, 0] (K0.v (As := []) (st := []) cvX7_73 dX7_readSum_51 rfl rfl f3 rfl (Nat.le_of_ble_eq_true rfl) (k1 c1)) rfl
  · refine x_aload_n dX7_readSum_33 1 rfl ?_
    refine x_getR fdX7_9 rfl dX7_readSum_34 f1.1 f1.2 f2 ?_
    refine x_bipush (v := 45) dX7_readSum_37 (by decide) ?_
    refine EX.sub [1, 2, 3, 0] (K0.v (As := [.int 45]) (st := []) cvX7_144 dX7_readSum_39 rfl rfl f3 rfl (Nat.le_of_ble_eq_true rfl) (k2 c1)) rfl
set_option maxRecDepth 8000 in
theorem qX7_readSum_42 {g : GG} {d : Nat} {M : MM} {P : Option Value → MM → Prop} {i1 : Int32} {i2 : Int32} {i3 : Int32} {s0 : Int32} {la lb pa pb rl : Nat} (L : Lay M la lb pa pb rl)
    (k1 : ¬ s0 = 0 → K0 g YX7_readSum YX9_advance d 54 [.ref 25] [(0, .ref 28), (1, .int i1), (2, .int i2), (3, .int i3)] [] M P)
    (k2 : s0 = 0 → P (some (.int 1)) M) :
    E0 g YX7_readSum d 42 [(0, .ref 28), (1, .int i1), (2, .int i2), (3, .int i3)] [.int s0] M P := by
  have f1 : ob M 28 7 := L.s rfl (by decide)
  have f2 : mr M 28 0 = some 25 := L.r 34 rfl
  have f3 : ob M 25 9 := L.s rfl (by decide)
  refine x_if_ne 47 dX7_readSum_42 (by decide) (fun c1 => ?_) (fun c1 => ?_)
  · refine x_aload_n dX7_readSum_47 0 rfl ?_
    refine x_getR fdX7_9 rfl dX7_readSum_48 f1.1 f1.2 f2 ?_
    refine EX.sub [0, 1, 2, 3] (K0.v (As := []) (st := []) cvX7_73 dX7_readSum_51 rfl rfl f3 rfl (Nat.le_of_ble_eq_true rfl) (k1 c1)) rfl
  · refine x_iconst (v := 1) dX7_readSum_45 (by decide) ?_
    exact x_zret rfl dX7_readSum_46 rfl (Nat.le_refl _) (Nat.le_refl _) (k2 c1)
set_option maxRecDepth 8000 in
theorem qX7_readSum_54 {g : GG} {d : Nat} {M : MM} {P : Option Value → MM → Prop} {i1 : Int32} {i2 : Int32} {i3 : Int32} {la lb pa pb rl : Nat} (L : Lay M la lb pa pb rl)
    (k1 : K0 g YX7_readSum YX7_readProduct d 59 [.ref 28, .int i1] [(0, .ref 28), (1, .int i1), (2, .int i2), (3, .int i3)] [] M P) :
    E0 g YX7_readSum d 54 [(0, .ref 28), (1, .int i1), (2, .int i2), (3, .int i3)] [] M P := by
  have f1 : ob M 28 7 := L.s rfl (by decide)
  refine x_aload_n dX7_readSum_54 0 rfl ?_
  refine x_iload_n dX7_readSum_55 1 rfl ?_
  refine EX.sub [0, 1, 2, 3] (K0.v (As := [.int i1]) (st := []) cvX7_163 dX7_readSum_56 rfl rfl f1 rfl (Nat.le_of_ble_eq_true rfl) (k1)) rfl
set_option maxRecDepth 8000 in
theorem qX7_readSum_59 {g : GG} {d : Nat} {M : MM} {P : Option Value → MM → Prop} {i1 : Int32} {i2 : Int32} {i3 : Int32} {s0 : Int32} {la lb pa pb rl : Nat} (L : Lay M la lb pa pb rl)
    (k1 : ¬ s0 = 0 → i3 = 0 → K0 g YX7_readSum YX2_add d 85 [.ref (rl + 7), .int (-11)] [(0, .ref 28), (1, .int i1), (2, .int i2)] [] M P)
    (k2 : ¬ s0 = 0 → ¬ (i3 = 0) → K0 g YX7_readSum YX2_add d 85 [.ref (rl + 7), .int (-10)] [(0, .ref 28), (1, .int i1), (2, .int i2)] [] M P)
    (k3 : s0 = 0 → P (some (.int 0)) M) :
    E0 g YX7_readSum d 59 [(0, .ref 28), (1, .int i1), (2, .int i2), (3, .int i3)] [.int s0] M P := by
  have f1 : ob M 28 7 := L.s rfl (by decide)
  have f2 : mr M 28 1 = some rl := L.rrl
  have f3 : ob M rl 0 := L.crl.o
  have f4 : mr M rl 8 = some (rl + 7) := L.crl.r8
  have f5 : ob M (rl + 7) 2 := L.crl.a8.o
  refine x_if_ne 64 dX7_readSum_59 (by decide) (fun c1 => ?_) (fun c1 => ?_)
  · refine x_aload_n dX7_readSum_64 0 rfl ?_
    refine x_getR fdX7_15 rfl dX7_readSum_65 f1.1 f1.2 f2 ?_
    refine x_getR fdX7_151 rfl dX7_readSum_68 f3.1 f3.2 f4 ?_
    refine x_iload_n dX7_readSum_71 3 rfl ?_
    refine x_if_eq 80 dX7_readSum_72 (by decide) (fun c2 => ?_) (fun c2 => ?_)
    · refine x_bipush (v := (-11)) dX7_readSum_80 (by decide) ?_
      refine EX.sub [0, 1, 2] (K0.v (As := [.int (-11)]) (st := []) cvX7_157 dX7_readSum_82 rfl rfl f5 rfl (Nat.le_of_ble_eq_true rfl) (k1 c1 c2)) rfl
    · refine x_bipush (v := (-10)) dX7_readSum_75 (by decide) ?_
      refine x_goto 82 dX7_readSum_77 (by decide) ?_
      refine EX.sub [0, 1, 2] (K0.v (As := [.int (-10)]) (st := []) cvX7_157 dX7_readSum_82 rfl rfl f5 rfl (Nat.le_of_ble_eq_true rfl) (k2 c1 c2)) rfl
  · refine x_iconst (v := 0) dX7_readSum_62 (by decide) ?_
    exact x_zret rfl dX7_readSum_63 rfl (Nat.le_refl _) (Nat.le_refl _) (k3 c1)
set_option maxRecDepth 8000 in
theorem qX7_readSum_85 {g : GG} {d : Nat} {M : MM} {P : Option Value → MM → Prop} {i1 : Int32} {i2 : Int32}
    (k1 : E0 g YX7_readSum d 12 [(0, .ref 28), (1, .int i1), (2, .int (i2 + 1))] [] M P) :
    E0 g YX7_readSum d 85 [(0, .ref 28), (1, .int i1), (2, .int i2)] [] M P := by
  refine x_iinc (v := (i2 + 1)) (lv1 := [(2, .int (i2 + 1)), (0, .ref 28), (1, .int i1)]) dX7_readSum_85 2 rfl rfl (by decide) rfl ?_
  refine x_goto 12 dX7_readSum_88 (by decide) ?_
  exact EX.sub [1, 2, 0] k1 rfl
set_option maxRecDepth 8000 in
theorem qX7_readProduct_0 {g : GG} {d : Nat} {M : MM} {P : Option Value → MM → Prop} {i1 : Int32} {la lb pa pb rl : Nat} (L : Lay M la lb pa pb rl)
    (k1 : K0 g YX7_readProduct YX7_readPart d 5 [.ref 28, .int i1] [(0, .ref 28), (1, .int i1)] [] M P) :
    E0 g YX7_readProduct d 0 [(0, .ref 28), (1, .int i1)] [] M P := by
  have f1 : ob M 28 7 := L.s rfl (by decide)
  refine x_aload_n dX7_readProduct_0 0 rfl ?_
  refine x_iload_n dX7_readProduct_1 1 rfl ?_
  refine EX.sub [0, 1] (K0.v (As := [.int i1]) (st := []) cvX7_166 dX7_readProduct_2 rfl rfl f1 rfl (Nat.le_of_ble_eq_true rfl) (k1)) rfl
set_option maxRecDepth 8000 in
theorem qX7_readProduct_5 {g : GG} {d : Nat} {M : MM} {P : Option Value → MM → Prop} {i1 : Int32} {s0 : Int32}
    (k1 : ¬ s0 = 0 → E0 g YX7_readProduct d 12 [(0, .ref 28), (1, .int i1), (2, .int 0)] [] M P)
    (k2 : s0 = 0 → P (some (.int 0)) M) :
    E0 g YX7_readProduct d 5 [(0, .ref 28), (1, .int i1)] [.int s0] M P := by
  refine x_if_ne 10 dX7_readProduct_5 (by decide) (fun c1 => ?_) (fun c1 => ?_)
  · refine x_iconst (v := 0) dX7_readProduct_10 (by decide) ?_
    refine x_istore_n (lv1 := [(2, .int 0), (0, .ref 28), (1, .int i1)]) dX7_readProduct_11 (by decide) rfl ?_
    exact EX.sub [1, 2, 0] (k1 c1) rfl
  · refine x_iconst (v := 0) dX7_readProduct_8 (by decide) ?_
    exact x_zret rfl dX7_readProduct_9 rfl (Nat.le_refl _) (Nat.le_refl _) (k2 c1)
set_option maxRecDepth 8000 in
theorem qX7_readProduct_12 {g : GG} {d : Nat} {M : MM} {P : Option Value → MM → Prop} {i1 : Int32} {i2 : Int32} {la lb pa pb rl : Nat} (L : Lay M la lb pa pb rl)
    (k1 : 1000 ≤ i2 → P (some (.int 1)) M)
    (k2 : ¬ (1000 ≤ i2) → K0 g YX7_readProduct YX9_isSign d 28 [.ref 25, .int 42] [(0, .ref 28), (1, .int i1), (2, .int i2)] [] M P) :
    E0 g YX7_readProduct d 12 [(0, .ref 28), (1, .int i1), (2, .int i2)] [] M P := by
  have f1 : ob M 28 7 := L.s rfl (by decide)
  have f2 : mr M 28 0 = some 25 := L.r 34 rfl
  have f3 : ob M 25 9 := L.s rfl (by decide)
  refine x_iload_n dX7_readProduct_12 2 rfl ?_
  refine x_sipush (v := 1000) dX7_readProduct_13 (by decide) ?_
  refine x_ic_ge 68 dX7_readProduct_16 (by decide) (fun c1 => ?_) (fun c1 => ?_)
  · refine x_iconst (v := 1) dX7_readProduct_68 (by decide) ?_
    exact x_zret rfl dX7_readProduct_69 rfl (Nat.le_refl _) (Nat.le_refl _) (k1 c1)
  · refine x_aload_n dX7_readProduct_19 0 rfl ?_
    refine x_getR fdX7_9 rfl dX7_readProduct_20 f1.1 f1.2 f2 ?_
    refine x_bipush (v := 42) dX7_readProduct_23 (by decide) ?_
    refine EX.sub [0, 1, 2] (K0.v (As := [.int 42]) (st := []) cvX7_144 dX7_readProduct_25 rfl rfl f3 rfl (Nat.le_of_ble_eq_true rfl) (k2 c1)) rfl
set_option maxRecDepth 8000 in
theorem qX7_readProduct_28 {g : GG} {d : Nat} {M : MM} {P : Option Value → MM → Prop} {i1 : Int32} {i2 : Int32} {s0 : Int32} {la lb pa pb rl : Nat} (L : Lay M la lb pa pb rl)
    (k1 : ¬ s0 = 0 → K0 g YX7_readProduct YX9_advance d 40 [.ref 25] [(0, .ref 28), (1, .int i1), (2, .int i2)] [] M P)
    (k2 : s0 = 0 → P (some (.int 1)) M) :
    E0 g YX7_readProduct d 28 [(0, .ref 28), (1, .int i1), (2, .int i2)] [.int s0] M P := by
  have f1 : ob M 28 7 := L.s rfl (by decide)
  have f2 : mr M 28 0 = some 25 := L.r 34 rfl
  have f3 : ob M 25 9 := L.s rfl (by decide)
  refine x_if_ne 33 dX7_readProduct_28 (by decide) (fun c1 => ?_) (fun c1 => ?_)
  · refine x_aload_n dX7_readProduct_33 0 rfl ?_
    refine x_getR fdX7_9 rfl dX7_readProduct_34 f1.1 f1.2 f2 ?_
    refine EX.sub [0, 1, 2] (K0.v (As := []) (st := []) cvX7_73 dX7_readProduct_37 rfl rfl f3 rfl (Nat.le_of_ble_eq_true rfl) (k1 c1)) rfl
  · refine x_iconst (v := 1) dX7_readProduct_31 (by decide) ?_
    exact x_zret rfl dX7_readProduct_32 rfl (Nat.le_refl _) (Nat.le_refl _) (k2 c1)
set_option maxRecDepth 8000 in
theorem qX7_readProduct_40 {g : GG} {d : Nat} {M : MM} {P : Option Value → MM → Prop} {i1 : Int32} {i2 : Int32} {la lb pa pb rl : Nat} (L : Lay M la lb pa pb rl)
    (k1 : K0 g YX7_readProduct YX7_readPart d 45 [.ref 28, .int i1] [(0, .ref 28), (1, .int i1), (2, .int i2)] [] M P) :
    E0 g YX7_readProduct d 40 [(0, .ref 28), (1, .int i1), (2, .int i2)] [] M P := by
  have f1 : ob M 28 7 := L.s rfl (by decide)
  refine x_aload_n dX7_readProduct_40 0 rfl ?_
  refine x_iload_n dX7_readProduct_41 1 rfl ?_
  refine EX.sub [0, 1, 2] (K0.v (As := [.int i1]) (st := []) cvX7_166 dX7_readProduct_42 rfl rfl f1 rfl (Nat.le_of_ble_eq_true rfl) (k1)) rfl
set_option maxRecDepth 8000 in
theorem qX7_readProduct_45 {g : GG} {d : Nat} {M : MM} {P : Option Value → MM → Prop} {i1 : Int32} {i2 : Int32} {s0 : Int32} {la lb pa pb rl : Nat} (L : Lay M la lb pa pb rl)
    (k1 : ¬ s0 = 0 → K0 g YX7_readProduct YX2_add d 62 [.ref (rl + 7), .int (-12)] [(0, .ref 28), (1, .int i1), (2, .int i2)] [] M P)
    (k2 : s0 = 0 → P (some (.int 0)) M) :
    E0 g YX7_readProduct d 45 [(0, .ref 28), (1, .int i1), (2, .int i2)] [.int s0] M P := by
  have f1 : ob M 28 7 := L.s rfl (by decide)
  have f2 : mr M 28 1 = some rl := L.rrl
  have f3 : ob M rl 0 := L.crl.o
  have f4 : mr M rl 8 = some (rl + 7) := L.crl.r8
  have f5 : ob M (rl + 7) 2 := L.crl.a8.o
  refine x_if_ne 50 dX7_readProduct_45 (by decide) (fun c1 => ?_) (fun c1 => ?_)
  · refine x_aload_n dX7_readProduct_50 0 rfl ?_
    refine x_getR fdX7_15 rfl dX7_readProduct_51 f1.1 f1.2 f2 ?_
    refine x_getR fdX7_151 rfl dX7_readProduct_54 f3.1 f3.2 f4 ?_
    refine x_bipush (v := (-12)) dX7_readProduct_57 (by decide) ?_
    refine EX.sub [0, 1, 2] (K0.v (As := [.int (-12)]) (st := []) cvX7_157 dX7_readProduct_59 rfl rfl f5 rfl (Nat.le_of_ble_eq_true rfl) (k1 c1)) rfl
  · refine x_iconst (v := 0) dX7_readProduct_48 (by decide) ?_
    exact x_zret rfl dX7_readProduct_49 rfl (Nat.le_refl _) (Nat.le_refl _) (k2 c1)
set_option maxRecDepth 8000 in
theorem qX7_readProduct_62 {g : GG} {d : Nat} {M : MM} {P : Option Value → MM → Prop} {i1 : Int32} {i2 : Int32}
    (k1 : E0 g YX7_readProduct d 12 [(0, .ref 28), (1, .int i1), (2, .int (i2 + 1))] [] M P) :
    E0 g YX7_readProduct d 62 [(0, .ref 28), (1, .int i1), (2, .int i2)] [] M P := by
  refine x_iinc (v := (i2 + 1)) (lv1 := [(2, .int (i2 + 1)), (0, .ref 28), (1, .int i1)]) dX7_readProduct_62 2 rfl rfl (by decide) rfl ?_
  refine x_goto 12 dX7_readProduct_65 (by decide) ?_
  exact EX.sub [1, 2, 0] k1 rfl
set_option maxRecDepth 8000 in
theorem qX7_readPart_0 {g : GG} {d : Nat} {M : MM} {P : Option Value → MM → Prop} {i1 : Int32} {la lb pa pb rl : Nat} (L : Lay M la lb pa pb rl)
    (k1 : ¬ (mi M 25 5) = 2 → (mi M 25 7) < 17 → K0 g YX7_readPart YX9_isSign d 53 [.ref 25, .int 40] [(0, .ref 28), (1, .int i1), (2, .int (mi M 25 7)), (3, .int 0), (4, .int 0)] [] M P)
    (k2 : ¬ (mi M 25 5) = 2 → ¬ ((mi M 25 7) < 17) → 20 < (mi M 25 7) → K0 g YX7_readPart YX9_isSign d 53 [.ref 25, .int 40] [(0, .ref 28), (1, .int i1), (2, .int (mi M 25 7)), (3, .int 0), (4, .int 0)] [] M P)
    (k3 : ¬ (mi M 25 5) = 2 → ¬ ((mi M 25 7) < 17) → ¬ (20 < (mi M 25 7)) → K0 g YX7_readPart YX9_isSign d 53 [.ref 25, .int 40] [(0, .ref 28), (1, .int i1), (2, .int (mi M 25 7)), (3, .int 0), (4, .int 1)] [] M P)
    (k4 : (mi M 25 5) = 2 → (mi M 25 7) < 17 → K0 g YX7_readPart YX9_isSign d 53 [.ref 25, .int 40] [(0, .ref 28), (1, .int i1), (2, .int (mi M 25 7)), (3, .int 1), (4, .int 0)] [] M P)
    (k5 : (mi M 25 5) = 2 → ¬ ((mi M 25 7) < 17) → 20 < (mi M 25 7) → K0 g YX7_readPart YX9_isSign d 53 [.ref 25, .int 40] [(0, .ref 28), (1, .int i1), (2, .int (mi M 25 7)), (3, .int 1), (4, .int 0)] [] M P)
    (k6 : (mi M 25 5) = 2 → ¬ ((mi M 25 7) < 17) → ¬ (20 < (mi M 25 7)) → K0 g YX7_readPart YX9_isSign d 53 [.ref 25, .int 40] [(0, .ref 28), (1, .int i1), (2, .int (mi M 25 7)), (3, .int 1), (4, .int 1)] [] M P) :
    E0 g YX7_readPart d 0 [(0, .ref 28), (1, .int i1)] [] M P := by
  have f1 : ob M 28 7 := L.s rfl (by decide)
  have f2 : mr M 28 0 = some 25 := L.r 34 rfl
  have f3 : ob M 25 9 := L.s rfl (by decide)
  refine x_aload_n dX7_readPart_0 0 rfl ?_
  refine x_getR fdX7_9 rfl dX7_readPart_1 f1.1 f1.2 f2 ?_
  refine x_getI fdX7_34 rfl dX7_readPart_4 f3.1 f3.2 ?_
  refine x_istore_n (lv1 := [(2, .int (mi M 25 7)), (0, .ref 28), (1, .int i1)]) dX7_readPart_7 (by decide) rfl ?_
  refine x_aload_n dX7_readPart_8 1 rfl ?_
  refine x_getR fdX7_9 rfl dX7_readPart_9 f1.1 f1.2 f2 ?_
  refine x_getI fdX7_28 rfl dX7_readPart_12 f3.1 f3.2 ?_
  refine x_iconst (v := 2) dX7_readPart_15 (by decide) ?_
  refine x_ic_ne 23 dX7_readPart_16 (by decide) (fun c1 => ?_) (fun c1 => ?_)
  · refine x_iconst (v := 0) dX7_readPart_23 (by decide) ?_
    refine x_istore_n (lv1 := [(3, .int 0), (2, .int (mi M 25 7)), (0, .ref 28), (1, .int i1)]) dX7_readPart_24 (by decide) rfl ?_
    refine x_iload_n dX7_readPart_25 1 rfl ?_
    refine x_bipush (v := 17) dX7_readPart_26 (by decide) ?_
    refine x_ic_lt 41 dX7_readPart_28 (by decide) (fun c2 => ?_) (fun c2 => ?_)
    · refine x_iconst (v := 0) dX7_readPart_41 (by decide) ?_
      refine x_istore (lv1 := [(4, .int 0), (3, .int 0), (2, .int (mi M 25 7)), (0, .ref 28), (1, .int i1)]) dX7_readPart_42 (by decide) rfl ?_
      refine x_aload_n dX7_readPart_44 3 rfl ?_
      refine x_getR fdX7_9 rfl dX7_readPart_45 f1.1 f1.2 f2 ?_
      refine x_bipush (v := 40) dX7_readPart_48 (by decide) ?_
      refine EX.sub [3, 4, 2, 1, 0] (K0.v (As := [.int 40]) (st := []) cvX7_144 dX7_readPart_50 rfl rfl f3 rfl (Nat.le_of_ble_eq_true rfl) (k1 c1 c2)) rfl
    · refine x_iload_n dX7_readPart_31 1 rfl ?_
      refine x_bipush (v := 20) dX7_readPart_32 (by decide) ?_
      refine x_ic_gt 41 dX7_readPart_34 (by decide) (fun c3 => ?_) (fun c3 => ?_)
      · refine x_iconst (v := 0) dX7_readPart_41 (by decide) ?_
        refine x_istore (lv1 := [(4, .int 0), (3, .int 0), (2, .int (mi M 25 7)), (0, .ref 28), (1, .int i1)]) dX7_readPart_42 (by decide) rfl ?_
        refine x_aload_n dX7_readPart_44 3 rfl ?_
        refine x_getR fdX7_9 rfl dX7_readPart_45 f1.1 f1.2 f2 ?_
        refine x_bipush (v := 40) dX7_readPart_48 (by decide) ?_
        refine EX.sub [3, 4, 2, 1, 0] (K0.v (As := [.int 40]) (st := []) cvX7_144 dX7_readPart_50 rfl rfl f3 rfl (Nat.le_of_ble_eq_true rfl) (k2 c1 c2 c3)) rfl
      · refine x_iconst (v := 1) dX7_readPart_37 (by decide) ?_
        refine x_goto 42 dX7_readPart_38 (by decide) ?_
        refine x_istore (lv1 := [(4, .int 1), (3, .int 0), (2, .int (mi M 25 7)), (0, .ref 28), (1, .int i1)]) dX7_readPart_42 (by decide) rfl ?_
        refine x_aload_n dX7_readPart_44 3 rfl ?_
        refine x_getR fdX7_9 rfl dX7_readPart_45 f1.1 f1.2 f2 ?_
        refine x_bipush (v := 40) dX7_readPart_48 (by decide) ?_
        refine EX.sub [3, 4, 2, 1, 0] (K0.v (As := [.int 40]) (st := []) cvX7_144 dX7_readPart_50 rfl rfl f3 rfl (Nat.le_of_ble_eq_true rfl) (k3 c1 c2 c3)) rfl
  · refine x_iconst (v := 1) dX7_readPart_19 (by decide) ?_
    refine x_goto 24 dX7_readPart_20 (by decide) ?_
    refine x_istore_n (lv1 := [(3, .int 1), (2, .int (mi M 25 7)), (0, .ref 28), (1, .int i1)]) dX7_readPart_24 (by decide) rfl ?_
    refine x_iload_n dX7_readPart_25 1 rfl ?_
    refine x_bipush (v := 17) dX7_readPart_26 (by decide) ?_
    refine x_ic_lt 41 dX7_readPart_28 (by decide) (fun c2 => ?_) (fun c2 => ?_)
    · refine x_iconst (v := 0) dX7_readPart_41 (by decide) ?_
      refine x_istore (lv1 := [(4, .int 0), (3, .int 1), (2, .int (mi M 25 7)), (0, .ref 28), (1, .int i1)]) dX7_readPart_42 (by decide) rfl ?_
      refine x_aload_n dX7_readPart_44 3 rfl ?_
      refine x_getR fdX7_9 rfl dX7_readPart_45 f1.1 f1.2 f2 ?_
      refine x_bipush (v := 40) dX7_readPart_48 (by decide) ?_
      refine EX.sub [3, 4, 2, 1, 0] (K0.v (As := [.int 40]) (st := []) cvX7_144 dX7_readPart_50 rfl rfl f3 rfl (Nat.le_of_ble_eq_true rfl) (k4 c1 c2)) rfl
    · refine x_iload_n dX7_readPart_31 1 rfl ?_
      refine x_bipush (v := 20) dX7_readPart_32 (by decide) ?_
      refine x_ic_gt 41 dX7_readPart_34 (by decide) (fun c3 => ?_) (fun c3 => ?_)
      · refine x_iconst (v := 0) dX7_readPart_41 (by decide) ?_
        refine x_istore (lv1 := [(4, .int 0), (3, .int 1), (2, .int (mi M 25 7)), (0, .ref 28), (1, .int i1)]) dX7_readPart_42 (by decide) rfl ?_
        refine x_aload_n dX7_readPart_44 3 rfl ?_
        refine x_getR fdX7_9 rfl dX7_readPart_45 f1.1 f1.2 f2 ?_
        refine x_bipush (v := 40) dX7_readPart_48 (by decide) ?_
        refine EX.sub [3, 4, 2, 1, 0] (K0.v (As := [.int 40]) (st := []) cvX7_144 dX7_readPart_50 rfl rfl f3 rfl (Nat.le_of_ble_eq_true rfl) (k5 c1 c2 c3)) rfl
      · refine x_iconst (v := 1) dX7_readPart_37 (by decide) ?_
        refine x_goto 42 dX7_readPart_38 (by decide) ?_
        refine x_istore (lv1 := [(4, .int 1), (3, .int 1), (2, .int (mi M 25 7)), (0, .ref 28), (1, .int i1)]) dX7_readPart_42 (by decide) rfl ?_
        refine x_aload_n dX7_readPart_44 3 rfl ?_
        refine x_getR fdX7_9 rfl dX7_readPart_45 f1.1 f1.2 f2 ?_
        refine x_bipush (v := 40) dX7_readPart_48 (by decide) ?_
        refine EX.sub [3, 4, 2, 1, 0] (K0.v (As := [.int 40]) (st := []) cvX7_144 dX7_readPart_50 rfl rfl f3 rfl (Nat.le_of_ble_eq_true rfl) (k6 c1 c2 c3)) rfl
set_option maxRecDepth 8000 in
theorem qX7_readPart_53 {g : GG} {d : Nat} {M : MM} {P : Option Value → MM → Prop} {i1 : Int32} {i2 : Int32} {i3 : Int32} {i4 : Int32} {s0 : Int32} {la lb pa pb rl : Nat} (L : Lay M la lb pa pb rl)
    (k1 : ¬ i3 = 0 → E0 g YX7_readPart d 81 [(0, .ref 28), (1, .int i1), (2, .int i2), (3, .int i3), (4, .int i4), (5, .int s0)] [] M P)
    (k2 : i3 = 0 → ¬ i4 = 0 → E0 g YX7_readPart d 81 [(0, .ref 28), (1, .int i1), (2, .int i2), (3, .int i3), (4, .int i4), (5, .int s0)] [] M P)
    (k3 : i3 = 0 → i4 = 0 → ¬ s0 = 0 → E0 g YX7_readPart d 81 [(0, .ref 28), (1, .int i1), (2, .int i2), (3, .int i3), (4, .int i4), (5, .int s0)] [] M P)
    (k4 : i3 = 0 → i4 = 0 → s0 = 0 → i2 = 14 → E0 g YX7_readPart d 81 [(0, .ref 28), (1, .int i1), (2, .int i2), (3, .int i3), (4, .int i4), (5, .int s0)] [] M P)
    (k5 : i3 = 0 → i4 = 0 → s0 = 0 → ¬ (i2 = 14) → K0 g YX7_readPart YX7_fail d 80 [.ref 28, .int 1] [] [] M P) :
    E0 g YX7_readPart d 53 [(0, .ref 28), (1, .int i1), (2, .int i2), (3, .int i3), (4, .int i4)] [.int s0] M P := by
  have f1 : ob M 28 7 := L.s rfl (by decide)
  refine x_istore (lv1 := [(5, .int s0), (0, .ref 28), (1, .int i1), (2, .int i2), (3, .int i3), (4, .int i4)]) dX7_readPart_53 (by decide) rfl ?_
  refine x_iload_n dX7_readPart_55 4 rfl ?_
  refine x_if_ne 81 dX7_readPart_56 (by decide) (fun c1 => ?_) (fun c1 => ?_)
  · exact EX.sub [1, 2, 3, 4, 5, 0] (k1 c1) rfl
  · refine x_iload dX7_readPart_59 5 rfl ?_
    refine x_if_ne 81 dX7_readPart_61 (by decide) (fun c2 => ?_) (fun c2 => ?_)
    · exact EX.sub [1, 2, 3, 4, 5, 0] (k2 c1 c2) rfl
    · refine x_iload dX7_readPart_64 0 rfl ?_
      refine x_if_ne 81 dX7_readPart_66 (by decide) (fun c3 => ?_) (fun c3 => ?_)
      · exact EX.sub [1, 2, 3, 4, 5, 0] (k3 c1 c2 c3) rfl
      · refine x_iload_n dX7_readPart_69 3 rfl ?_
        refine x_bipush (v := 14) dX7_readPart_70 (by decide) ?_
        refine x_ic_eq 81 dX7_readPart_72 (by decide) (fun c4 => ?_) (fun c4 => ?_)
        · exact EX.sub [1, 2, 3, 4, 5, 0] (k4 c1 c2 c3 c4) rfl
        · refine x_aload_n dX7_readPart_75 1 rfl ?_
          refine x_iconst (v := 1) dX7_readPart_76 (by decide) ?_
          refine EX.sub [] (K0.v (As := [.int 1]) (st := []) cvX7_47 dX7_readPart_77 rfl rfl f1 rfl (Nat.le_of_ble_eq_true rfl) (k5 c1 c2 c3 c4)) rfl
set_option maxRecDepth 8000 in
theorem qX7_readPart_80 {g : GG} {d : Nat} {M : MM} {P : Option Value → MM → Prop} {s0 : Int32}
    (h1 : s0 &&& 1 = s0)
    (k1 : P (some (.int s0)) M) :
    E0 g YX7_readPart d 80 [] [.int s0] M P := by
  exact x_zret rfl dX7_readPart_80 (h1) (Nat.le_refl _) (Nat.le_refl _) (k1)
set_option maxRecDepth 8000 in
theorem qX7_readPart_81 {g : GG} {d : Nat} {M : MM} {P : Option Value → MM → Prop} {i1 : Int32} {i2 : Int32} {i3 : Int32} {i4 : Int32} {i5 : Int32} {la lb pa pb rl : Nat} (L : Lay M la lb pa pb rl)
    (k1 : i1 < 5 → ¬ i3 = 0 → i3 = 0 → K0 g YX7_readPart YX2_add d 131 [.ref (rl + 7), .int ((-1) - (i2 - 17))] [(0, .ref 28)] [] M P)
    (k2 : i1 < 5 → ¬ i3 = 0 → ¬ (i3 = 0) → K0 g YX7_readPart YX2_add d 131 [.ref (rl + 7), .int (mi M 25 8)] [(0, .ref 28)] [] M P)
    (k3 : i1 < 5 → i3 = 0 → i4 = 0 → K0 g YX7_readPart YX9_advance d 147 [.ref 25] [(0, .ref 28), (1, .int i1), (5, .int i5)] [] M P)
    (k4 : i1 < 5 → i3 = 0 → ¬ (i4 = 0) → i3 = 0 → K0 g YX7_readPart YX2_add d 131 [.ref (rl + 7), .int ((-1) - (i2 - 17))] [(0, .ref 28)] [] M P)
    (k5 : i1 < 5 → i3 = 0 → ¬ (i4 = 0) → ¬ (i3 = 0) → K0 g YX7_readPart YX2_add d 131 [.ref (rl + 7), .int (mi M 25 8)] [(0, .ref 28)] [] M P)
    (k6 : ¬ (i1 < 5) → K0 g YX7_readPart YX7_fail d 91 [.ref 28, .int 5] [] [] M P) :
    E0 g YX7_readPart d 81 [(0, .ref 28), (1, .int i1), (2, .int i2), (3, .int i3), (4, .int i4), (5, .int i5)] [] M P := by
  have f1 : ob M 28 7 := L.s rfl (by decide)
  have f2 : mr M 28 1 = some rl := L.rrl
  have f3 : ob M rl 0 := L.crl.o
  have f4 : mr M rl 8 = some (rl + 7) := L.crl.r8
  have f5 : ob M (rl + 7) 2 := L.crl.a8.o
  have f6 : mr M 28 0 = some 25 := L.r 34 rfl
  have f7 : ob M 25 9 := L.s rfl (by decide)
  refine x_iload_n dX7_readPart_81 1 rfl ?_
  refine x_iconst (v := 5) dX7_readPart_82 (by decide) ?_
  refine x_ic_lt 92 dX7_readPart_83 (by decide) (fun c1 => ?_) (fun c1 => ?_)
  · refine x_iload_n dX7_readPart_92 3 rfl ?_
    refine x_if_ne 101 dX7_readPart_93 (by decide) (fun c2 => ?_) (fun c2 => ?_)
    · refine x_aload_n dX7_readPart_101 0 rfl ?_
      refine x_getR fdX7_15 rfl dX7_readPart_102 f1.1 f1.2 f2 ?_
      refine x_getR fdX7_151 rfl dX7_readPart_105 f3.1 f3.2 f4 ?_
      refine x_iload_n dX7_readPart_108 3 rfl ?_
      refine x_if_eq 122 dX7_readPart_109 (by decide) (fun c3 => ?_) (fun c3 => ?_)
      · refine x_iconst (v := (-1)) dX7_readPart_122 (by decide) ?_
        refine x_iload_n dX7_readPart_123 2 rfl ?_
        refine x_bipush (v := 17) dX7_readPart_124 (by decide) ?_
        refine x_isub dX7_readPart_126 ?_
        refine x_isub dX7_readPart_127 ?_
        refine EX.sub [0] (K0.v (As := [.int ((-1) - (i2 - 17))]) (st := []) cvX7_157 dX7_readPart_128 rfl rfl f5 rfl (Nat.le_of_ble_eq_true rfl) (k1 c1 c2 c3)) rfl
      · refine x_aload_n dX7_readPart_112 0 rfl ?_
        refine x_getR fdX7_9 rfl dX7_readPart_113 f1.1 f1.2 f6 ?_
        refine x_getI fdX7_86 rfl dX7_readPart_116 f7.1 f7.2 ?_
        refine x_goto 128 dX7_readPart_119 (by decide) ?_
        refine EX.sub [0] (K0.v (As := [.int (mi M 25 8)]) (st := []) cvX7_157 dX7_readPart_128 rfl rfl f5 rfl (Nat.le_of_ble_eq_true rfl) (k2 c1 c2 c3)) rfl
    · refine x_iload dX7_readPart_96 4 rfl ?_
      refine x_if_eq 140 dX7_readPart_98 (by decide) (fun c3 => ?_) (fun c3 => ?_)
      · refine x_aload_n dX7_readPart_140 0 rfl ?_
        refine x_getR fdX7_9 rfl dX7_readPart_141 f1.1 f1.2 f6 ?_
        refine EX.sub [0, 1, 5] (K0.v (As := []) (st := []) cvX7_73 dX7_readPart_144 rfl rfl f7 rfl (Nat.le_of_ble_eq_true rfl) (k3 c1 c2 c3)) rfl
      · refine x_aload_n dX7_readPart_101 0 rfl ?_
        refine x_getR fdX7_15 rfl dX7_readPart_102 f1.1 f1.2 f2 ?_
        refine x_getR fdX7_151 rfl dX7_readPart_105 f3.1 f3.2 f4 ?_
        refine x_iload_n dX7_readPart_108 3 rfl ?_
        refine x_if_eq 122 dX7_readPart_109 (by decide) (fun c4 => ?_) (fun c4 => ?_)
        · refine x_iconst (v := (-1)) dX7_readPart_122 (by decide) ?_
          refine x_iload_n dX7_readPart_123 2 rfl ?_
          refine x_bipush (v := 17) dX7_readPart_124 (by decide) ?_
          refine x_isub dX7_readPart_126 ?_
          refine x_isub dX7_readPart_127 ?_
          refine EX.sub [0] (K0.v (As := [.int ((-1) - (i2 - 17))]) (st := []) cvX7_157 dX7_readPart_128 rfl rfl f5 rfl (Nat.le_of_ble_eq_true rfl) (k4 c1 c2 c3 c4)) rfl
        · refine x_aload_n dX7_readPart_112 0 rfl ?_
          refine x_getR fdX7_9 rfl dX7_readPart_113 f1.1 f1.2 f6 ?_
          refine x_getI fdX7_86 rfl dX7_readPart_116 f7.1 f7.2 ?_
          refine x_goto 128 dX7_readPart_119 (by decide) ?_
          refine EX.sub [0] (K0.v (As := [.int (mi M 25 8)]) (st := []) cvX7_157 dX7_readPart_128 rfl rfl f5 rfl (Nat.le_of_ble_eq_true rfl) (k5 c1 c2 c3 c4)) rfl
  · refine x_aload_n dX7_readPart_86 0 rfl ?_
    refine x_iconst (v := 5) dX7_readPart_87 (by decide) ?_
    refine EX.sub [] (K0.v (As := [.int 5]) (st := []) cvX7_47 dX7_readPart_88 rfl rfl f1 rfl (Nat.le_of_ble_eq_true rfl) (k6 c1)) rfl
set_option maxRecDepth 8000 in
theorem qX7_readPart_91 {g : GG} {d : Nat} {M : MM} {P : Option Value → MM → Prop} {s0 : Int32}
    (h1 : s0 &&& 1 = s0)
    (k1 : P (some (.int s0)) M) :
    E0 g YX7_readPart d 91 [] [.int s0] M P := by
  exact x_zret rfl dX7_readPart_91 (h1) (Nat.le_refl _) (Nat.le_refl _) (k1)
set_option maxRecDepth 8000 in
theorem qX7_readPart_131 {g : GG} {d : Nat} {M : MM} {P : Option Value → MM → Prop}  {la lb pa pb rl : Nat} (L : Lay M la lb pa pb rl)
    (k1 : K0 g YX7_readPart YX9_advance d 138 [.ref 25] [] [] M P) :
    E0 g YX7_readPart d 131 [(0, .ref 28)] [] M P := by
  have f1 : ob M 28 7 := L.s rfl (by decide)
  have f2 : mr M 28 0 = some 25 := L.r 34 rfl
  have f3 : ob M 25 9 := L.s rfl (by decide)
  refine x_aload_n dX7_readPart_131 0 rfl ?_
  refine x_getR fdX7_9 rfl dX7_readPart_132 f1.1 f1.2 f2 ?_
  refine EX.sub [] (K0.v (As := []) (st := []) cvX7_73 dX7_readPart_135 rfl rfl f3 rfl (Nat.le_of_ble_eq_true rfl) (k1)) rfl
set_option maxRecDepth 8000 in
theorem qX7_readPart_138 {g : GG} {d : Nat} {M : MM} {P : Option Value → MM → Prop} 
    (k1 : P (some (.int 1)) M) :
    E0 g YX7_readPart d 138 [] [] M P := by
  refine x_iconst (v := 1) dX7_readPart_138 (by decide) ?_
  exact x_zret rfl dX7_readPart_139 rfl (Nat.le_refl _) (Nat.le_refl _) (k1)
set_option maxRecDepth 8000 in
theorem qX7_readPart_147 {g : GG} {d : Nat} {M : MM} {P : Option Value → MM → Prop} {i1 : Int32} {i5 : Int32} {la lb pa pb rl : Nat} (L : Lay M la lb pa pb rl)
    (k1 : i5 = 0 → K0 g YX7_readPart YX7_readNegated d 169 [.ref 28, .int (i1 + 1)] [] [] M P)
    (k2 : ¬ (i5 = 0) → K0 g YX7_readPart YX7_readBracketed d 159 [.ref 28, .int (i1 + 1)] [] [] M P) :
    E0 g YX7_readPart d 147 [(0, .ref 28), (1, .int i1), (5, .int i5)] [] M P := by
  have f1 : ob M 28 7 := L.s rfl (by decide)
  refine x_iload dX7_readPart_147 2 rfl ?_
  refine x_if_eq 162 dX7_readPart_149 (by decide) (fun c1 => ?_) (fun c1 => ?_)
  · refine x_aload_n dX7_readPart_162 0 rfl ?_
    refine x_iload_n dX7_readPart_163 1 rfl ?_
    refine x_iconst (v := 1) dX7_readPart_164 (by decide) ?_
    refine x_iadd dX7_readPart_165 ?_
    refine EX.sub [] (K0.v (As := [.int (i1 + 1)]) (st := []) cvX7_172 dX7_readPart_166 rfl rfl f1 rfl (Nat.le_of_ble_eq_true rfl) (k1 c1)) rfl
  · refine x_aload_n dX7_readPart_152 0 rfl ?_
    refine x_iload_n dX7_readPart_153 1 rfl ?_
    refine x_iconst (v := 1) dX7_readPart_154 (by decide) ?_
    refine x_iadd dX7_readPart_155 ?_
    refine EX.sub [] (K0.v (As := [.int (i1 + 1)]) (st := []) cvX7_169 dX7_readPart_156 rfl rfl f1 rfl (Nat.le_of_ble_eq_true rfl) (k2 c1)) rfl
set_option maxRecDepth 8000 in
theorem qX7_readPart_159 {g : GG} {d : Nat} {M : MM} {P : Option Value → MM → Prop} {s0 : Int32}
    (k1 : E0 g YX7_readPart d 169 [] [.int s0] M P) :
    E0 g YX7_readPart d 159 [] [.int s0] M P := by
  refine x_goto 169 dX7_readPart_159 (by decide) ?_
  exact EX.sub [] k1 rfl
set_option maxRecDepth 8000 in
theorem qX7_readPart_169 {g : GG} {d : Nat} {M : MM} {P : Option Value → MM → Prop} {s0 : Int32}
    (h1 : s0 &&& 1 = s0)
    (k1 : P (some (.int s0)) M) :
    E0 g YX7_readPart d 169 [] [.int s0] M P := by
  exact x_zret rfl dX7_readPart_169 (h1) (Nat.le_refl _) (Nat.le_refl _) (k1)
set_option maxRecDepth 8000 in
theorem qX7_readBracketed_0 {g : GG} {d : Nat} {M : MM} {P : Option Value → MM → Prop} {i1 : Int32} {la lb pa pb rl : Nat} (L : Lay M la lb pa pb rl)
    (k1 : K0 g YX7_readBracketed YX7_readExpression d 5 [.ref 28, .int i1] [(0, .ref 28)] [] M P) :
    E0 g YX7_readBracketed d 0 [(0, .ref 28), (1, .int i1)] [] M P := by
  have f1 : ob M 28 7 := L.s rfl (by decide)
  refine x_aload_n dX7_readBracketed_0 0 rfl ?_
  refine x_iload_n dX7_readBracketed_1 1 rfl ?_
  refine EX.sub [0] (K0.v (As := [.int i1]) (st := []) cvX7_120 dX7_readBracketed_2 rfl rfl f1 rfl (Nat.le_of_ble_eq_true rfl) (k1)) rfl
set_option maxRecDepth 8000 in
theorem qX7_readBracketed_5 {g : GG} {d : Nat} {M : MM} {P : Option Value → MM → Prop} {s0 : Int32} {la lb pa pb rl : Nat} (L : Lay M la lb pa pb rl)
    (k1 : ¬ s0 = 0 → K0 g YX7_readBracketed YX9_isSign d 19 [.ref 25, .int 41] [(0, .ref 28)] [] M P)
    (k2 : s0 = 0 → P (some (.int 0)) M) :
    E0 g YX7_readBracketed d 5 [(0, .ref 28)] [.int s0] M P := by
  have f1 : ob M 28 7 := L.s rfl (by decide)
  have f2 : mr M 28 0 = some 25 := L.r 34 rfl
  have f3 : ob M 25 9 := L.s rfl (by decide)
  refine x_if_ne 10 dX7_readBracketed_5 (by decide) (fun c1 => ?_) (fun c1 => ?_)
  · refine x_aload_n dX7_readBracketed_10 0 rfl ?_
    refine x_getR fdX7_9 rfl dX7_readBracketed_11 f1.1 f1.2 f2 ?_
    refine x_bipush (v := 41) dX7_readBracketed_14 (by decide) ?_
    refine EX.sub [0] (K0.v (As := [.int 41]) (st := []) cvX7_144 dX7_readBracketed_16 rfl rfl f3 rfl (Nat.le_of_ble_eq_true rfl) (k1 c1)) rfl
  · refine x_iconst (v := 0) dX7_readBracketed_8 (by decide) ?_
    exact x_zret rfl dX7_readBracketed_9 rfl (Nat.le_refl _) (Nat.le_refl _) (k2 c1)
set_option maxRecDepth 8000 in
theorem qX7_readBracketed_19 {g : GG} {d : Nat} {M : MM} {P : Option Value → MM → Prop} {s0 : Int32} {la lb pa pb rl : Nat} (L : Lay M la lb pa pb rl)
    (k1 : ¬ s0 = 0 → K0 g YX7_readBracketed YX9_advance d 35 [.ref 25] [] [] M P)
    (k2 : s0 = 0 → K0 g YX7_readBracketed YX7_fail d 27 [.ref 28, .int 1] [] [] M P) :
    E0 g YX7_readBracketed d 19 [(0, .ref 28)] [.int s0] M P := by
  have f1 : ob M 28 7 := L.s rfl (by decide)
  have f2 : mr M 28 0 = some 25 := L.r 34 rfl
  have f3 : ob M 25 9 := L.s rfl (by decide)
  refine x_if_ne 28 dX7_readBracketed_19 (by decide) (fun c1 => ?_) (fun c1 => ?_)
  · refine x_aload_n dX7_readBracketed_28 0 rfl ?_
    refine x_getR fdX7_9 rfl dX7_readBracketed_29 f1.1 f1.2 f2 ?_
    refine EX.sub [] (K0.v (As := []) (st := []) cvX7_73 dX7_readBracketed_32 rfl rfl f3 rfl (Nat.le_of_ble_eq_true rfl) (k1 c1)) rfl
  · refine x_aload_n dX7_readBracketed_22 0 rfl ?_
    refine x_iconst (v := 1) dX7_readBracketed_23 (by decide) ?_
    refine EX.sub [] (K0.v (As := [.int 1]) (st := []) cvX7_47 dX7_readBracketed_24 rfl rfl f1 rfl (Nat.le_of_ble_eq_true rfl) (k2 c1)) rfl
set_option maxRecDepth 8000 in
theorem qX7_readBracketed_27 {g : GG} {d : Nat} {M : MM} {P : Option Value → MM → Prop} {s0 : Int32}
    (h1 : s0 &&& 1 = s0)
    (k1 : P (some (.int s0)) M) :
    E0 g YX7_readBracketed d 27 [] [.int s0] M P := by
  exact x_zret rfl dX7_readBracketed_27 (h1) (Nat.le_refl _) (Nat.le_refl _) (k1)
set_option maxRecDepth 8000 in
theorem qX7_readBracketed_35 {g : GG} {d : Nat} {M : MM} {P : Option Value → MM → Prop} 
    (k1 : P (some (.int 1)) M) :
    E0 g YX7_readBracketed d 35 [] [] M P := by
  refine x_iconst (v := 1) dX7_readBracketed_35 (by decide) ?_
  exact x_zret rfl dX7_readBracketed_36 rfl (Nat.le_refl _) (Nat.le_refl _) (k1)
set_option maxRecDepth 8000 in
theorem qX7_readNegated_0 {g : GG} {d : Nat} {M : MM} {P : Option Value → MM → Prop} {i1 : Int32} {la lb pa pb rl : Nat} (L : Lay M la lb pa pb rl)
    (k1 : K0 g YX7_readNegated YX7_readPart d 5 [.ref 28, .int i1] [(0, .ref 28)] [] M P) :
    E0 g YX7_readNegated d 0 [(0, .ref 28), (1, .int i1)] [] M P := by
  have f1 : ob M 28 7 := L.s rfl (by decide)
  refine x_aload_n dX7_readNegated_0 0 rfl ?_
  refine x_iload_n dX7_readNegated_1 1 rfl ?_
  refine EX.sub [0] (K0.v (As := [.int i1]) (st := []) cvX7_166 dX7_readNegated_2 rfl rfl f1 rfl (Nat.le_of_ble_eq_true rfl) (k1)) rfl
set_option maxRecDepth 8000 in
theorem qX7_readNegated_5 {g : GG} {d : Nat} {M : MM} {P : Option Value → MM → Prop} {s0 : Int32} {la lb pa pb rl : Nat} (L : Lay M la lb pa pb rl)
    (k1 : ¬ s0 = 0 → K0 g YX7_readNegated YX2_add d 22 [.ref (rl + 7), .int (-5)] [] [] M P)
    (k2 : s0 = 0 → P (some (.int 0)) M) :
    E0 g YX7_readNegated d 5 [(0, .ref 28)] [.int s0] M P := by
  have f1 : ob M 28 7 := L.s rfl (by decide)
  have f2 : mr M 28 1 = some rl := L.rrl
  have f3 : ob M rl 0 := L.crl.o
  have f4 : mr M rl 8 = some (rl + 7) := L.crl.r8
  have f5 : ob M (rl + 7) 2 := L.crl.a8.o
  refine x_if_ne 10 dX7_readNegated_5 (by decide) (fun c1 => ?_) (fun c1 => ?_)
  · refine x_aload_n dX7_readNegated_10 0 rfl ?_
    refine x_getR fdX7_15 rfl dX7_readNegated_11 f1.1 f1.2 f2 ?_
    refine x_getR fdX7_151 rfl dX7_readNegated_14 f3.1 f3.2 f4 ?_
    refine x_bipush (v := (-5)) dX7_readNegated_17 (by decide) ?_
    refine EX.sub [] (K0.v (As := [.int (-5)]) (st := []) cvX7_157 dX7_readNegated_19 rfl rfl f5 rfl (Nat.le_of_ble_eq_true rfl) (k1 c1)) rfl
  · refine x_iconst (v := 0) dX7_readNegated_8 (by decide) ?_
    exact x_zret rfl dX7_readNegated_9 rfl (Nat.le_refl _) (Nat.le_refl _) (k2 c1)
set_option maxRecDepth 8000 in
theorem qX7_readNegated_22 {g : GG} {d : Nat} {M : MM} {P : Option Value → MM → Prop} 
    (k1 : P (some (.int 1)) M) :
    E0 g YX7_readNegated d 22 [] [] M P := by
  refine x_iconst (v := 1) dX7_readNegated_22 (by decide) ?_
  exact x_zret rfl dX7_readNegated_23 rfl (Nat.le_refl _) (Nat.le_refl _) (k1)
