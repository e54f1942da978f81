set_option maxRecDepth 8000 in
theorem qX3_lay_0 {g : GG} {d : Nat} {M : MM} {P : Option Value → MM → Prop} {a0 : Nat} {a1 : Nat} {a2 : Nat} {a3 : Nat} (C0 : Mrk M a0)
    (k1 : K0 g YX3_lay YX10_copy d 8 [.ref (a0 + 1), .ref a1] [(0, .ref a0), (2, .ref a2), (3, .ref a3)] [] M P) :
    E0 g YX3_lay d 0 [(0, .ref a0), (1, .ref a1), (2, .ref a2), (3, .ref a3)] [] M P := by
  have f1 : ob M a0 3 := C0.o
  have f2 : mr M a0 1 = some (a0 + 1) := C0.r1
  have f3 : ob M (a0 + 1) 10 := C0.a1.o
  refine x_aload_n dX3_lay_0 0 rfl ?_
  refine x_getR fdX3_10 rfl dX3_lay_1 f1.1 f1.2 f2 ?_
  refine x_aload_n dX3_lay_4 1 rfl ?_
  refine EX.sub [0, 2, 3] (K0.v (As := [.ref a1]) (st := []) cvX3_30 dX3_lay_5 rfl rfl f3 rfl (Nat.le_of_ble_eq_true rfl) (k1)) rfl
set_option maxRecDepth 8000 in
theorem qX3_lay_8 {g : GG} {d : Nat} {M : MM} {P : Option Value → MM → Prop} {a0 : Nat} {a2 : Nat} {a3 : Nat} (C0 : Mrk M a0)
    (k1 : K0 g YX3_lay YX5_copy d 16 [.ref (a0 + 3), .ref a2] [(0, .ref a0), (3, .ref a3)] [] M P) :
    E0 g YX3_lay d 8 [(0, .ref a0), (2, .ref a2), (3, .ref a3)] [] M P := by
  have f1 : ob M a0 3 := C0.o
  have f2 : mr M a0 2 = some (a0 + 3) := C0.r2
  have f3 : ob M (a0 + 3) 5 := C0.a2.o
  refine x_aload_n dX3_lay_8 0 rfl ?_
  refine x_getR fdX3_19 rfl dX3_lay_9 f1.1 f1.2 f2 ?_
  refine x_aload_n dX3_lay_12 1 rfl ?_
  refine EX.sub [0, 2] (K0.v (As := [.ref a2]) (st := []) cvX3_34 dX3_lay_13 rfl rfl f3 rfl (Nat.le_of_ble_eq_true rfl) (k1)) rfl
set_option maxRecDepth 8000 in
theorem qX3_lay_16 {g : GG} {d : Nat} {M : MM} {P : Option Value → MM → Prop} {a0 : Nat} {a3 : Nat} (C0 : Mrk M a0)
    (k1 : K0 g YX3_lay YX8_copy d 24 [.ref (a0 + 8), .ref a3] [(0, .ref a0)] [] M P) :
    E0 g YX3_lay d 16 [(0, .ref a0), (3, .ref a3)] [] M P := by
  have f1 : ob M a0 3 := C0.o
  have f2 : mr M a0 3 = some (a0 + 8) := C0.r3
  have f3 : ob M (a0 + 8) 8 := C0.a3.o
  refine x_aload_n dX3_lay_16 0 rfl ?_
  refine x_getR fdX3_26 rfl dX3_lay_17 f1.1 f1.2 f2 ?_
  refine x_aload_n dX3_lay_20 1 rfl ?_
  refine EX.sub [0] (K0.v (As := [.ref a3]) (st := []) cvX3_37 dX3_lay_21 rfl rfl f3 rfl (Nat.le_of_ble_eq_true rfl) (k1)) rfl
set_option maxRecDepth 8000 in
theorem qX3_lay_24 {g : GG} {d : Nat} {M : MM} {P : Option Value → MM → Prop} {a0 : Nat} {M1 : MM} (C0 : Mrk M a0)
    (qM1 : M1 = wi M a0 0 1)
    (k1 : P none M1) :
    E0 g YX3_lay d 24 [(0, .ref a0)] [] M P := by
  have f1 : ob M a0 3 := C0.o
  subst qM1
  refine x_aload_n dX3_lay_24 0 rfl ?_
  refine x_iconst (v := 1) dX3_lay_25 (by decide) ?_
  refine x_putI fdX3_40 rfl (Or.inl rfl) dX3_lay_26 f1.1 f1.2 (by decide) (by decide) ?_
  exact x_vret rfl dX3_lay_29 (Nat.le_refl _) (Nat.le_refl _) (k1)
set_option maxRecDepth 8000 in
theorem qX3_goBack_0 {g : GG} {d : Nat} {M : MM} {P : Option Value → MM → Prop} {a0 : Nat} {a1 : Nat} {a2 : Nat} {a3 : Nat} (C0 : Mrk M a0) (C1 : Trv M a1)
    (k1 : K0 g YX3_goBack YX10_copy d 8 [.ref a1, .ref (a0 + 1)] [(0, .ref a0), (2, .ref a2), (3, .ref a3)] [] M P) :
    E0 g YX3_goBack d 0 [(0, .ref a0), (1, .ref a1), (2, .ref a2), (3, .ref a3)] [] M P := by
  have f1 : ob M a0 3 := C0.o
  have f2 : mr M a0 1 = some (a0 + 1) := C0.r1
  have f3 : ob M a1 10 := C1.o
  refine x_aload_n dX3_goBack_0 1 rfl ?_
  refine x_aload_n dX3_goBack_1 0 rfl ?_
  refine x_getR fdX3_10 rfl dX3_goBack_2 f1.1 f1.2 f2 ?_
  refine EX.sub [0, 2, 3] (K0.v (As := [.ref (a0 + 1)]) (st := []) cvX3_30 dX3_goBack_5 rfl rfl f3 rfl (Nat.le_of_ble_eq_true rfl) (k1)) rfl
set_option maxRecDepth 8000 in
theorem qX3_goBack_8 {g : GG} {d : Nat} {M : MM} {P : Option Value → MM → Prop} {a0 : Nat} {a2 : Nat} {a3 : Nat} (C0 : Mrk M a0) (C2 : Pln M a2)
    (k1 : K0 g YX3_goBack YX5_copy d 16 [.ref a2, .ref (a0 + 3)] [(0, .ref a0), (3, .ref a3)] [] M P) :
    E0 g YX3_goBack d 8 [(0, .ref a0), (2, .ref a2), (3, .ref a3)] [] M P := by
  have f1 : ob M a0 3 := C0.o
  have f2 : mr M a0 2 = some (a0 + 3) := C0.r2
  have f3 : ob M a2 5 := C2.o
  refine x_aload_n dX3_goBack_8 1 rfl ?_
  refine x_aload_n dX3_goBack_9 0 rfl ?_
  refine x_getR fdX3_19 rfl dX3_goBack_10 f1.1 f1.2 f2 ?_
  refine EX.sub [0, 2] (K0.v (As := [.ref (a0 + 3)]) (st := []) cvX3_34 dX3_goBack_13 rfl rfl f3 rfl (Nat.le_of_ble_eq_true rfl) (k1)) rfl
set_option maxRecDepth 8000 in
theorem qX3_goBack_16 {g : GG} {d : Nat} {M : MM} {P : Option Value → MM → Prop} {a0 : Nat} {a3 : Nat} (C0 : Mrk M a0) (C3 : Sgt M a3)
    (k1 : K0 g YX3_goBack YX8_copy d 24 [.ref a3, .ref (a0 + 8)] [] [] M P) :
    E0 g YX3_goBack d 16 [(0, .ref a0), (3, .ref a3)] [] M P := by
  have f1 : ob M a0 3 := C0.o
  have f2 : mr M a0 3 = some (a0 + 8) := C0.r3
  have f3 : ob M a3 8 := C3.o
  refine x_aload_n dX3_goBack_16 1 rfl ?_
  refine x_aload_n dX3_goBack_17 0 rfl ?_
  refine x_getR fdX3_26 rfl dX3_goBack_18 f1.1 f1.2 f2 ?_
  refine EX.sub [] (K0.v (As := [.ref (a0 + 8)]) (st := []) cvX3_37 dX3_goBack_21 rfl rfl f3 rfl (Nat.le_of_ble_eq_true rfl) (k1)) rfl
set_option maxRecDepth 8000 in
theorem qX3_goBack_24 {g : GG} {d : Nat} {M : MM} {P : Option Value → MM → Prop} 
    (k1 : P none M) :
    E0 g YX3_goBack d 24 [] [] M P := by
  exact x_vret rfl dX3_goBack_24 (Nat.le_refl _) (Nat.le_refl _) (k1)
