set_option maxRecDepth 8000 in
theorem qX6_find_0 {g : GG} {d : Nat} {M : MM} {P : Option Value → MM → Prop} {a1 : Nat} {i2 : Int32} {i3 : Int32} {M1 : MM} {la lb pa pb rl : Nat} (L : Lay M la lb pa pb rl)
    (qM1 : M1 = wi M 125 2 (-1))
    (k1 : K0 g YX6_find YX6_search d 14 [.ref 125, .ref a1, .int 0, .int i2, .int i3, .int 0] [] [] M1 P) :
    E0 g YX6_find d 0 [(0, .ref 125), (1, .ref a1), (2, .int i2), (3, .int i3)] [] M P := by
  have f1 : ob M 125 6 := L.s rfl (by decide)
  subst qM1
  refine x_aload_n dX6_find_0 0 rfl ?_
  refine x_iconst (v := (-1)) dX6_find_1 (by decide) ?_
  refine x_putI fdX6_18 rfl (Or.inl rfl) dX6_find_2 f1.1 f1.2 rfl rfl ?_
  refine x_aload_n dX6_find_5 0 rfl ?_
  refine x_aload_n dX6_find_6 1 rfl ?_
  refine x_iconst (v := 0) dX6_find_7 (by decide) ?_
  refine x_iload_n dX6_find_8 2 rfl ?_
  refine x_iload_n dX6_find_9 3 rfl ?_
  refine x_iconst (v := 0) dX6_find_10 (by decide) ?_
  refine EX.sub [] (K0.v (As := [.ref a1, .int 0, .int i2, .int i3, .int 0]) (st := []) cvX6_22 dX6_find_11 rfl rfl f1 rfl (Nat.le_of_ble_eq_true rfl) (k1)) rfl
set_option maxRecDepth 8000 in
theorem qX6_find_14 {g : GG} {d : Nat} {M : MM} {P : Option Value → MM → Prop} 
    (k1 : P none M) :
    E0 g YX6_find d 14 [] [] M P := by
  exact x_vret rfl dX6_find_14 (Nat.le_refl _) (Nat.le_refl _) (k1)
set_option maxRecDepth 8000 in
theorem qX6_search_0 {g : GG} {d : Nat} {M : MM} {P : Option Value → MM → Prop} {a1 : Nat} {i2 : Int32} {i3 : Int32} {i4 : Int32} {i5 : Int32} {M1 : MM} {M2 : MM} {la lb pa pb rl : Nat} (L : Lay M la lb pa pb rl)
    (qM1 : M1 = wi M 125 2 i5)
    (qM2 : M2 = wi M 125 2 i5)
    (k1 : i3 = 0 → i5 ≤ (mi M 125 2) → E0 g YX6_search d 29 [] [] M P)
    (k2 : i3 = 0 → ¬ (i5 ≤ (mi M 125 2)) → K0 g YX6_search YX6_keepPath d 29 [.ref 125] [] [] M1 P)
    (k3 : ¬ (i3 = 0) → i2 < 6 → K0 g YX6_search YJ6_bitCount_0f7a4 d 36 [.int i3] [(0, .ref 125), (1, .ref a1), (2, .int i2), (3, .int i3), (4, .int i4), (5, .int i5)] [.int i5] M P)
    (k4 : ¬ (i3 = 0) → ¬ (i2 < 6) → i5 ≤ (mi M 125 2) → E0 g YX6_search d 29 [] [] M P)
    (k5 : ¬ (i3 = 0) → ¬ (i2 < 6) → ¬ (i5 ≤ (mi M 125 2)) → K0 g YX6_search YX6_keepPath d 29 [.ref 125] [] [] M2 P) :
    E0 g YX6_search d 0 [(0, .ref 125), (1, .ref a1), (2, .int i2), (3, .int i3), (4, .int i4), (5, .int i5)] [] M P := by
  have f1 : ob M 125 6 := L.s rfl (by decide)
  subst qM1 qM2
  refine x_iload_n dX6_search_0 3 rfl ?_
  refine x_if_eq 10 dX6_search_1 (by decide) (fun c1 => ?_) (fun c1 => ?_)
  · refine x_iload dX6_search_10 5 rfl ?_
    refine x_aload_n dX6_search_12 0 rfl ?_
    refine x_getI fdX6_18 rfl dX6_search_13 f1.1 f1.2 ?_
    refine x_ic_le 29 dX6_search_16 (by decide) (fun c2 => ?_) (fun c2 => ?_)
    · exact EX.sub [] (k1 c1 c2) rfl
    · refine x_aload_n dX6_search_19 0 rfl ?_
      refine x_iload dX6_search_20 5 rfl ?_
      refine x_putI fdX6_18 rfl (Or.inl rfl) dX6_search_22 f1.1 f1.2 rfl rfl ?_
      refine x_aload_n dX6_search_25 0 rfl ?_
      refine EX.sub [] (K0.v (As := []) (st := []) cvX6_26 dX6_search_26 rfl rfl f1 rfl (Nat.le_of_ble_eq_true rfl) (k2 c1 c2)) rfl
  · refine x_iload_n dX6_search_4 2 rfl ?_
    refine x_bipush (v := 6) dX6_search_5 (by decide) ?_
    refine x_ic_lt 30 dX6_search_7 (by decide) (fun c2 => ?_) (fun c2 => ?_)
    · refine x_iload dX6_search_30 5 rfl ?_
      refine x_iload_n dX6_search_32 3 rfl ?_
      refine EX.sub [0, 1, 2, 3, 4, 5] (K0.s (As := [.int i3]) (st := [.int i5]) csX6_29 dX6_search_33 rfl rfl (Nat.le_of_ble_eq_true rfl) (k3 c1 c2)) rfl
    · refine x_iload dX6_search_10 5 rfl ?_
      refine x_aload_n dX6_search_12 0 rfl ?_
      refine x_getI fdX6_18 rfl dX6_search_13 f1.1 f1.2 ?_
      refine x_ic_le 29 dX6_search_16 (by decide) (fun c3 => ?_) (fun c3 => ?_)
      · exact EX.sub [] (k4 c1 c2 c3) rfl
      · refine x_aload_n dX6_search_19 0 rfl ?_
        refine x_iload dX6_search_20 5 rfl ?_
        refine x_putI fdX6_18 rfl (Or.inl rfl) dX6_search_22 f1.1 f1.2 rfl rfl ?_
        refine x_aload_n dX6_search_25 0 rfl ?_
        refine EX.sub [] (K0.v (As := []) (st := []) cvX6_26 dX6_search_26 rfl rfl f1 rfl (Nat.le_of_ble_eq_true rfl) (k5 c1 c2 c3)) rfl
set_option maxRecDepth 8000 in
theorem qX6_search_29 {g : GG} {d : Nat} {M : MM} {P : Option Value → MM → Prop} 
    (k1 : P none M) :
    E0 g YX6_search d 29 [] [] M P := by
  exact x_vret rfl dX6_search_29 (Nat.le_refl _) (Nat.le_refl _) (k1)
set_option maxRecDepth 8000 in
theorem qX6_search_36 {g : GG} {d : Nat} {M : MM} {P : Option Value → MM → Prop} {a1 : Nat} {i2 : Int32} {i3 : Int32} {i4 : Int32} {i5 : Int32} {s0 : Int32} {s1 : Int32} (C1 : Cty M a1)
    (k1 : K0 g YX6_search YX0_minutesOf d 42 [.ref a1, .int i4] [(0, .ref 125), (1, .ref a1), (2, .int i2), (3, .int i3), (4, .int i4), (5, .int i5)] [.int s1, .int s0] M P) :
    E0 g YX6_search d 36 [(0, .ref 125), (1, .ref a1), (2, .int i2), (3, .int i3), (4, .int i4), (5, .int i5)] [.int s1, .int s0] M P := by
  have f1 : ob M a1 0 := C1.o
  refine x_aload_n dX6_search_36 1 rfl ?_
  refine x_iload dX6_search_37 4 rfl ?_
  refine EX.sub [0, 1, 2, 3, 4, 5] (K0.v (As := [.int i4]) (st := [.int s1, .int s0]) cvX6_35 dX6_search_39 rfl rfl f1 rfl (Nat.le_of_ble_eq_true rfl) (k1)) rfl
set_option maxRecDepth 8000 in
theorem qX6_search_42 {g : GG} {d : Nat} {M : MM} {P : Option Value → MM → Prop} {a1 : Nat} {i2 : Int32} {i3 : Int32} {i4 : Int32} {i5 : Int32} {s0 : Int32} {s1 : Int32} {s2 : Int32} {la lb pa pb rl : Nat} (L : Lay M la lb pa pb rl)
    (k1 : (mi M 125 2) < (s0 + (s1 * s2)) → E0 g YX6_search d 55 [(0, .ref 125), (1, .ref a1), (2, .int i2), (3, .int i3), (4, .int i4), (5, .int i5), (6, .int 0)] [] M P)
    (k2 : ¬ ((mi M 125 2) < (s0 + (s1 * s2))) → P none M) :
    E0 g YX6_search d 42 [(0, .ref 125), (1, .ref a1), (2, .int i2), (3, .int i3), (4, .int i4), (5, .int i5)] [.int s2, .int s1, .int s0] M P := by
  have f1 : ob M 125 6 := L.s rfl (by decide)
  refine x_imul dX6_search_42 ?_
  refine x_iadd dX6_search_43 ?_
  refine x_aload_n dX6_search_44 0 rfl ?_
  refine x_getI fdX6_18 rfl dX6_search_45 f1.1 f1.2 ?_
  refine x_ic_gt 52 dX6_search_48 (by decide) (fun c1 => ?_) (fun c1 => ?_)
  · refine x_iconst (v := 0) dX6_search_52 (by decide) ?_
    refine x_istore (lv1 := [(6, .int 0), (0, .ref 125), (1, .ref a1), (2, .int i2), (3, .int i3), (4, .int i4), (5, .int i5)]) dX6_search_53 (by decide) rfl ?_
    exact EX.sub [1, 2, 3, 4, 5, 6, 0] (k1 c1) rfl
  · exact x_vret rfl dX6_search_51 (Nat.le_refl _) (Nat.le_refl _) (k2 c1)
set_option maxRecDepth 8000 in
theorem qX6_search_55 {g : GG} {d : Nat} {M : MM} {P : Option Value → MM → Prop} {a1 : Nat} {i2 : Int32} {i3 : Int32} {i4 : Int32} {i5 : Int32} {i6 : Int32} (C1 : Cty M a1)
    (k1 : (mi M a1 5) ≤ i6 → P none M)
    (k2 : ¬ ((mi M a1 5) ≤ i6) → ¬ ((i3 >>> (i6 &&& 31)) &&& 1) = 1 → E0 g YX6_search d 124 [(0, .ref 125), (1, .ref a1), (2, .int i2), (3, .int i3), (4, .int i4), (5, .int i5), (6, .int i6)] [] M P)
    (k3 : ¬ ((mi M a1 5) ≤ i6) → ((i3 >>> (i6 &&& 31)) &&& 1) = 1 → K0 g YX6_search YX0_takenOut d 84 [.ref a1, .int i6, .int i4] [(0, .ref 125), (1, .ref a1), (2, .int i2), (3, .int i3), (4, .int i4), (5, .int i5), (6, .int i6)] [.int i4] M P) :
    E0 g YX6_search d 55 [(0, .ref 125), (1, .ref a1), (2, .int i2), (3, .int i3), (4, .int i4), (5, .int i5), (6, .int i6)] [] M P := by
  have f1 : ob M a1 0 := C1.o
  refine x_iload dX6_search_55 6 rfl ?_
  refine x_aload_n dX6_search_57 1 rfl ?_
  refine x_getI fdX6_40 rfl dX6_search_58 f1.1 f1.2 ?_
  refine x_ic_ge 130 dX6_search_61 (by decide) (fun c1 => ?_) (fun c1 => ?_)
  · exact x_vret rfl dX6_search_130 (Nat.le_refl _) (Nat.le_refl _) (k1 c1)
  · refine x_iload_n dX6_search_64 3 rfl ?_
    refine x_iload dX6_search_65 6 rfl ?_
    refine x_ishr dX6_search_67 ?_
    refine x_iconst (v := 1) dX6_search_68 (by decide) ?_
    refine x_iand dX6_search_69 ?_
    refine x_iconst (v := 1) dX6_search_70 (by decide) ?_
    refine x_ic_ne 124 dX6_search_71 (by decide) (fun c2 => ?_) (fun c2 => ?_)
    · exact EX.sub [0, 1, 2, 3, 4, 5, 6] (k2 c1 c2) rfl
    · refine x_iload dX6_search_74 4 rfl ?_
      refine x_aload_n dX6_search_76 1 rfl ?_
      refine x_iload dX6_search_77 6 rfl ?_
      refine x_iload dX6_search_79 4 rfl ?_
      refine EX.sub [0, 1, 2, 3, 4, 5, 6] (K0.v (As := [.int i6, .int i4]) (st := [.int i4]) cvX6_43 dX6_search_81 rfl rfl f1 rfl (Nat.le_of_ble_eq_true rfl) (k3 c1 c2)) rfl
set_option maxRecDepth 8000 in
theorem qX6_search_84 {g : GG} {d : Nat} {M : MM} {P : Option Value → MM → Prop} {a1 : Nat} {i2 : Int32} {i3 : Int32} {i4 : Int32} {i5 : Int32} {i6 : Int32} {s0 : Int32} {s1 : Int32} {M1 : MM} {la lb pa pb rl : Nat} (L : Lay M la lb pa pb rl) (C1 : Cty M a1)
    (qM1 : M1 = wi M 126 (i2 : Int32).toNatClampNeg i6)
    (h1 : vp_in i2 6)
    (k1 : K0 g YX6_search YX0_minutesOf d 120 [.ref a1, .int (s0 &&& (s1 ^^^ (-1)))] [(0, .ref 125), (1, .ref a1), (2, .int i2), (3, .int i3), (4, .int i4), (5, .int i5), (6, .int i6)] [.int i5, .int (s0 &&& (s1 ^^^ (-1))), .int (i3 &&& (((1 : Int32) <<< (i6 &&& 31)) ^^^ (-1))), .int (i2 + 1), .ref a1, .ref 125] M1 P) :
    E0 g YX6_search d 84 [(0, .ref 125), (1, .ref a1), (2, .int i2), (3, .int i3), (4, .int i4), (5, .int i5), (6, .int i6)] [.int s1, .int s0] M P := by
  have f1 : ob M 125 6 := L.s rfl (by decide)
  have f2 : mr M 125 0 = some 126 := L.r 124 rfl
  have f3 : ar M 126 1 6 := L.s rfl (by decide)
  have f4 : ob M a1 0 := C1.o
  subst qM1
  refine x_iconst (v := (-1)) dX6_search_84 (by decide) ?_
  refine x_ixor dX6_search_85 ?_
  refine x_iand dX6_search_86 ?_
  refine x_istore (lv1 := [(7, .int (s0 &&& (s1 ^^^ (-1)))), (0, .ref 125), (1, .ref a1), (2, .int i2), (3, .int i3), (4, .int i4), (5, .int i5), (6, .int i6)]) dX6_search_87 (by decide) rfl ?_
  refine x_aload_n dX6_search_89 1 rfl ?_
  refine x_getR fdX6_9 rfl dX6_search_90 f1.1 f1.2 f2 ?_
  refine x_iload_n dX6_search_93 3 rfl ?_
  refine x_iload dX6_search_94 7 rfl ?_
  refine x_iast dX6_search_96 f3.1 f3.2 (h1) ?_
  refine x_aload_n dX6_search_97 1 rfl ?_
  refine x_aload_n dX6_search_98 2 rfl ?_
  refine x_iload_n dX6_search_99 3 rfl ?_
  refine x_iconst (v := 1) dX6_search_100 (by decide) ?_
  refine x_iadd dX6_search_101 ?_
  refine x_iload_n dX6_search_102 4 rfl ?_
  refine x_iconst (v := 1) dX6_search_103 (by decide) ?_
  refine x_iload dX6_search_104 7 rfl ?_
  refine x_ishl dX6_search_106 ?_
  refine x_iconst (v := (-1)) dX6_search_107 (by decide) ?_
  refine x_ixor dX6_search_108 ?_
  refine x_iand dX6_search_109 ?_
  refine x_iload dX6_search_110 0 rfl ?_
  refine x_iload dX6_search_112 6 rfl ?_
  refine x_aload_n dX6_search_114 2 rfl ?_
  refine x_iload dX6_search_115 0 rfl ?_
  refine EX.sub [1, 2, 3, 4, 5, 6, 7] (K0.v (As := [.int (s0 &&& (s1 ^^^ (-1)))]) (st := [.int i5, .int (s0 &&& (s1 ^^^ (-1))), .int (i3 &&& (((1 : Int32) <<< (i6 &&& 31)) ^^^ (-1))), .int (i2 + 1), .ref a1, .ref 125]) cvX6_35 dX6_search_117 rfl rfl f4 rfl (Nat.le_of_ble_eq_true rfl) (k1)) rfl
set_option maxRecDepth 8000 in
theorem qX6_search_120 {g : GG} {d : Nat} {M : MM} {P : Option Value → MM → Prop} {a1 : Nat} {i2 : Int32} {i3 : Int32} {i4 : Int32} {i5 : Int32} {i6 : Int32} {s0 : Nat} {s1 : Nat} {s2 : Int32} {s3 : Int32} {s4 : Int32} {s5 : Int32} {s6 : Int32}
    (h1 : ob M s0 6)
    (k1 : K0 g YX6_search YX6_search d 124 [.ref s0, .ref s1, .int s2, .int s3, .int s4, .int (s5 + s6)] [(0, .ref 125), (1, .ref a1), (2, .int i2), (3, .int i3), (4, .int i4), (5, .int i5), (6, .int i6)] [] M P) :
    E0 g YX6_search d 120 [(0, .ref 125), (1, .ref a1), (2, .int i2), (3, .int i3), (4, .int i4), (5, .int i5), (6, .int i6)] [.int s6, .int s5, .int s4, .int s3, .int s2, .ref s1, .ref s0] M P := by
  refine x_iadd dX6_search_120 ?_
  refine EX.sub [0, 1, 2, 3, 4, 5, 6] (K0.v (As := [.ref s1, .int s2, .int s3, .int s4, .int (s5 + s6)]) (st := []) cvX6_22 dX6_search_121 rfl rfl h1 rfl (Nat.le_of_ble_eq_true rfl) (k1)) rfl
set_option maxRecDepth 8000 in
theorem qX6_search_124 {g : GG} {d : Nat} {M : MM} {P : Option Value → MM → Prop} {a1 : Nat} {i2 : Int32} {i3 : Int32} {i4 : Int32} {i5 : Int32} {i6 : Int32}
    (k1 : E0 g YX6_search d 55 [(0, .ref 125), (1, .ref a1), (2, .int i2), (3, .int i3), (4, .int i4), (5, .int i5), (6, .int (i6 + 1))] [] M P) :
    E0 g YX6_search d 124 [(0, .ref 125), (1, .ref a1), (2, .int i2), (3, .int i3), (4, .int i4), (5, .int i5), (6, .int i6)] [] M P := by
  refine x_iinc (v := (i6 + 1)) (lv1 := [(6, .int (i6 + 1)), (0, .ref 125), (1, .ref a1), (2, .int i2), (3, .int i3), (4, .int i4), (5, .int i5)]) dX6_search_124 6 rfl rfl (by decide) rfl ?_
  refine x_goto 55 dX6_search_127 (by decide) ?_
  exact EX.sub [1, 2, 3, 4, 5, 6, 0] k1 rfl
set_option maxRecDepth 8000 in
theorem qX6_keepPath_0 {g : GG} {d : Nat} {M : MM} {P : Option Value → MM → Prop} 
    (k1 : E0 g YX6_keepPath d 2 [(0, .ref 125), (1, .int 0)] [] M P) :
    E0 g YX6_keepPath d 0 [(0, .ref 125)] [] M P := by
  refine x_iconst (v := 0) dX6_keepPath_0 (by decide) ?_
  refine x_istore_n (lv1 := [(1, .int 0), (0, .ref 125)]) dX6_keepPath_1 (by decide) rfl ?_
  exact EX.sub [1, 0] k1 rfl
set_option maxRecDepth 8000 in
theorem qX6_keepPath_2 {g : GG} {d : Nat} {M : MM} {P : Option Value → MM → Prop} {i1 : Int32} {M1 : MM} {la lb pa pb rl : Nat} (L : Lay M la lb pa pb rl)
    (qM1 : M1 = wi M 127 (i1 : Int32).toNatClampNeg (mi M 126 (i1 : Int32).toNatClampNeg))
    (h1 : ¬ (6 ≤ i1) → vp_in i1 6)
    (h2 : ¬ (6 ≤ i1) → vp_in i1 6)
    (k1 : 6 ≤ i1 → P none M)
    (k2 : ¬ (6 ≤ i1) → E0 g YX6_keepPath d 2 [(0, .ref 125), (1, .int (i1 + 1))] [] M1 P) :
    E0 g YX6_keepPath d 2 [(0, .ref 125), (1, .int i1)] [] M P := by
  have f1 : ob M 125 6 := L.s rfl (by decide)
  have f2 : mr M 125 1 = some 127 := L.r 125 rfl
  have f3 : mr M 125 0 = some 126 := L.r 124 rfl
  have f4 : ar M 126 1 6 := L.s rfl (by decide)
  have f5 : ar M 127 1 6 := L.s rfl (by decide)
  subst qM1
  refine x_iload_n dX6_keepPath_2 1 rfl ?_
  refine x_bipush (v := 6) dX6_keepPath_3 (by decide) ?_
  refine x_ic_ge 26 dX6_keepPath_5 (by decide) (fun c1 => ?_) (fun c1 => ?_)
  · exact x_vret rfl dX6_keepPath_26 (Nat.le_refl _) (Nat.le_refl _) (k1 c1)
  · refine x_aload_n dX6_keepPath_8 0 rfl ?_
    refine x_getR fdX6_15 rfl dX6_keepPath_9 f1.1 f1.2 f2 ?_
    refine x_iload_n dX6_keepPath_12 1 rfl ?_
    refine x_aload_n dX6_keepPath_13 0 rfl ?_
    refine x_getR fdX6_9 rfl dX6_keepPath_14 f1.1 f1.2 f3 ?_
    refine x_iload_n dX6_keepPath_17 1 rfl ?_
    refine x_iald dX6_keepPath_18 f4.1 f4.2 (h1 c1) ?_
    refine x_iast dX6_keepPath_19 f5.1 f5.2 (h2 c1) ?_
    refine x_iinc (v := (i1 + 1)) (lv1 := [(1, .int (i1 + 1)), (0, .ref 125)]) dX6_keepPath_20 1 rfl rfl (by decide) rfl ?_
    refine x_goto 2 dX6_keepPath_23 (by decide) ?_
    exact EX.sub [1, 0] (k2 c1) rfl
