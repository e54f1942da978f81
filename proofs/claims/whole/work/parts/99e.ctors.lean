/-! ===== constructors of the parts: printed by wip/gen/ctors.py ===== -/
def iX1 (a : Nat) (M : MM) : MM := M
theorem gX1 : GrF iX1 := fun a M x s h => h
theorem kX1 : RkF iX1 := fun a M x j h1 h2 => by
  unfold iX1
  rfl
theorem zX1 : ZiF iX1 := fun a M h => h
theorem cX1 {g : GG} {d a : Nat} {M : MM} (hJ : gJ g = 0) (h : ob M a 1) (hd : 1 ≤ d) : RT g YX1_init d 0 0 [.ref a] M (fun rv M1 => rv = none ∧ M1 = iX1 a M) := by
  refine EX.entry (by decide +kernel) (Nat.le_of_ble_eq_true rfl) ?_
  show EX g YX1_init d 0 0 0 0 0 [(0, .ref a)] [] M _
  refine x_aload_n dX1_init_0 0 rfl ?_
  refine x_objInit dX1_init_1 oiX1_1 gk_oi1 gk_oi2 (by omega) (Nat.le_of_ble_eq_true rfl) ?_
  exact x_vret rfl dX1_init_4 (by omega) (by omega) ⟨rfl, rfl⟩
def iX2 (a : Nat) (M : MM) : MM := bd1 1 24 a 3 (bd1 1 6 a 2 (bd1 1 1000 a 0 (M)))
theorem gX2 : GrF iX2 := fun a M x s h => obd (obd (obd (h)))
theorem kX2 : RkF iX2 := fun a M x j h1 h2 => by
  unfold iX2
  rw [bd1_r (bd1_lt (bd1_lt (h1))) (fun z => h2 z.1), bd1_r (bd1_lt (h1)) (fun z => h2 z.1), bd1_r (h1) (fun z => h2 z.1)]
theorem zX2 : ZiF iX2 := fun a M h => bd1_z (bd1_z (bd1_z (h)))
theorem cX2 {g : GG} {d a : Nat} {M : MM} (hJ : gJ g = 0) (h : ob M a 2) (hd : 1 ≤ d) : RT g YX2_init d 3 1030 [.ref a] M (fun rv M1 => rv = none ∧ M1 = iX2 a M) := by
  refine EX.entry (by decide +kernel) (Nat.le_of_ble_eq_true rfl) ?_
  show EX g YX2_init d 3 1030 0 0 0 [(0, .ref a)] [] M _
  refine x_aload_n dX2_init_0 0 rfl ?_
  refine x_objInit dX2_init_1 oiX2_3 gk_oi1 gk_oi2 (by omega) (Nat.le_of_ble_eq_true rfl) ?_
  refine x_aload_n dX2_init_4 0 rfl ?_
  refine x_sipush (v := 1000) dX2_init_5 (by decide) ?_
  refine x_newarray hJ (t := 1) (N := 1000) (.inl ⟨rfl, rfl⟩) dX2_init_8 gk_ar_int (by decide) (by decide) (by decide) (by omega) (by omega) ?_
  refine x_putA fdX2_9 rfl (.inr ⟨rfl, rfl⟩) dX2_init_10 (h) ?_
  refine x_aload_n dX2_init_13 0 rfl ?_
  refine x_bipush (v := 6) dX2_init_14 (by decide) ?_
  refine x_newarray hJ (t := 1) (N := 6) (.inl ⟨rfl, rfl⟩) dX2_init_16 gk_ar_int (by decide) (by decide) (by decide) (by omega) (by omega) ?_
  refine x_putA fdX2_15 rfl (.inr ⟨rfl, rfl⟩) dX2_init_18 (obd (h)) ?_
  refine x_aload_n dX2_init_21 0 rfl ?_
  refine x_bipush (v := 24) dX2_init_22 (by decide) ?_
  refine x_newarray hJ (t := 1) (N := 24) (.inl ⟨rfl, rfl⟩) dX2_init_24 gk_ar_int (by decide) (by decide) (by decide) (by omega) (by omega) ?_
  refine x_putA fdX2_18 rfl (.inr ⟨rfl, rfl⟩) dX2_init_26 (obd (obd (h))) ?_
  exact x_vret rfl dX2_init_29 (by omega) (by omega) ⟨rfl, rfl⟩
def iX5 (a : Nat) (M : MM) : MM := bd1 1 40 a 4 (bd1 1 40 a 3 (bd1 1 40 a 2 (bd1 1 40 a 1 (M))))
theorem gX5 : GrF iX5 := fun a M x s h => obd (obd (obd (obd (h))))
theorem kX5 : RkF iX5 := fun a M x j h1 h2 => by
  unfold iX5
  rw [bd1_r (bd1_lt (bd1_lt (bd1_lt (h1)))) (fun z => h2 z.1), bd1_r (bd1_lt (bd1_lt (h1))) (fun z => h2 z.1), bd1_r (bd1_lt (h1)) (fun z => h2 z.1), bd1_r (h1) (fun z => h2 z.1)]
theorem zX5 : ZiF iX5 := fun a M h => bd1_z (bd1_z (bd1_z (bd1_z (h))))
theorem cX5 {g : GG} {d a : Nat} {M : MM} (hJ : gJ g = 0) (h : ob M a 5) (hd : 1 ≤ d) : RT g YX5_init d 4 160 [.ref a] M (fun rv M1 => rv = none ∧ M1 = iX5 a M) := by
  refine EX.entry (by decide +kernel) (Nat.le_of_ble_eq_true rfl) ?_
  show EX g YX5_init d 4 160 0 0 0 [(0, .ref a)] [] M _
  refine x_aload_n dX5_init_0 0 rfl ?_
  refine x_objInit dX5_init_1 oiX5_3 gk_oi1 gk_oi2 (by omega) (Nat.le_of_ble_eq_true rfl) ?_
  refine x_aload_n dX5_init_4 0 rfl ?_
  refine x_bipush (v := 40) dX5_init_5 (by decide) ?_
  refine x_newarray hJ (t := 1) (N := 40) (.inl ⟨rfl, rfl⟩) dX5_init_7 gk_ar_int (by decide) (by decide) (by decide) (by omega) (by omega) ?_
  refine x_putA fdX5_9 rfl (.inr ⟨rfl, rfl⟩) dX5_init_9 (h) ?_
  refine x_aload_n dX5_init_12 0 rfl ?_
  refine x_bipush (v := 40) dX5_init_13 (by decide) ?_
  refine x_newarray hJ (t := 1) (N := 40) (.inl ⟨rfl, rfl⟩) dX5_init_15 gk_ar_int (by decide) (by decide) (by decide) (by omega) (by omega) ?_
  refine x_putA fdX5_15 rfl (.inr ⟨rfl, rfl⟩) dX5_init_17 (obd (h)) ?_
  refine x_aload_n dX5_init_20 0 rfl ?_
  refine x_bipush (v := 40) dX5_init_21 (by decide) ?_
  refine x_newarray hJ (t := 1) (N := 40) (.inl ⟨rfl, rfl⟩) dX5_init_23 gk_ar_int (by decide) (by decide) (by decide) (by omega) (by omega) ?_
  refine x_putA fdX5_18 rfl (.inr ⟨rfl, rfl⟩) dX5_init_25 (obd (obd (h))) ?_
  refine x_aload_n dX5_init_28 0 rfl ?_
  refine x_bipush (v := 40) dX5_init_29 (by decide) ?_
  refine x_newarray hJ (t := 1) (N := 40) (.inl ⟨rfl, rfl⟩) dX5_init_31 gk_ar_int (by decide) (by decide) (by decide) (by omega) (by omega) ?_
  refine x_putA fdX5_21 rfl (.inr ⟨rfl, rfl⟩) dX5_init_33 (obd (obd (obd (h)))) ?_
  exact x_vret rfl dX5_init_36 (by omega) (by omega) ⟨rfl, rfl⟩
def iX6 (a : Nat) (M : MM) : MM := bd1 1 6 a 1 (bd1 1 6 a 0 (M))
theorem gX6 : GrF iX6 := fun a M x s h => obd (obd (h))
theorem kX6 : RkF iX6 := fun a M x j h1 h2 => by
  unfold iX6
  rw [bd1_r (bd1_lt (h1)) (fun z => h2 z.1), bd1_r (h1) (fun z => h2 z.1)]
theorem zX6 : ZiF iX6 := fun a M h => bd1_z (bd1_z (h))
theorem cX6 {g : GG} {d a : Nat} {M : MM} (hJ : gJ g = 0) (h : ob M a 6) (hd : 1 ≤ d) : RT g YX6_init d 2 12 [.ref a] M (fun rv M1 => rv = none ∧ M1 = iX6 a M) := by
  refine EX.entry (by decide +kernel) (Nat.le_of_ble_eq_true rfl) ?_
  show EX g YX6_init d 2 12 0 0 0 [(0, .ref a)] [] M _
  refine x_aload_n dX6_init_0 0 rfl ?_
  refine x_objInit dX6_init_1 oiX6_3 gk_oi1 gk_oi2 (by omega) (Nat.le_of_ble_eq_true rfl) ?_
  refine x_aload_n dX6_init_4 0 rfl ?_
  refine x_bipush (v := 6) dX6_init_5 (by decide) ?_
  refine x_newarray hJ (t := 1) (N := 6) (.inl ⟨rfl, rfl⟩) dX6_init_7 gk_ar_int (by decide) (by decide) (by decide) (by omega) (by omega) ?_
  refine x_putA fdX6_9 rfl (.inr ⟨rfl, rfl⟩) dX6_init_9 (h) ?_
  refine x_aload_n dX6_init_12 0 rfl ?_
  refine x_bipush (v := 6) dX6_init_13 (by decide) ?_
  refine x_newarray hJ (t := 1) (N := 6) (.inl ⟨rfl, rfl⟩) dX6_init_15 gk_ar_int (by decide) (by decide) (by decide) (by omega) (by omega) ?_
  refine x_putA fdX6_15 rfl (.inr ⟨rfl, rfl⟩) dX6_init_17 (obd (h)) ?_
  exact x_vret rfl dX6_init_20 (by omega) (by omega) ⟨rfl, rfl⟩
def iX8 (a : Nat) (M : MM) : MM := bd1 3 8 a 1 (bd1 1 8 a 0 (M))
theorem gX8 : GrF iX8 := fun a M x s h => obd (obd (h))
theorem kX8 : RkF iX8 := fun a M x j h1 h2 => by
  unfold iX8
  rw [bd1_r (bd1_lt (h1)) (fun z => h2 z.1), bd1_r (h1) (fun z => h2 z.1)]
theorem zX8 : ZiF iX8 := fun a M h => bd1_z (bd1_z (h))
theorem cX8 {g : GG} {d a : Nat} {M : MM} (hJ : gJ g = 0) (h : ob M a 8) (hd : 1 ≤ d) : RT g YX8_init d 2 16 [.ref a] M (fun rv M1 => rv = none ∧ M1 = iX8 a M) := by
  refine EX.entry (by decide +kernel) (Nat.le_of_ble_eq_true rfl) ?_
  show EX g YX8_init d 2 16 0 0 0 [(0, .ref a)] [] M _
  refine x_aload_n dX8_init_0 0 rfl ?_
  refine x_objInit dX8_init_1 oiX8_3 gk_oi1 gk_oi2 (by omega) (Nat.le_of_ble_eq_true rfl) ?_
  refine x_aload_n dX8_init_4 0 rfl ?_
  refine x_bipush (v := 8) dX8_init_5 (by decide) ?_
  refine x_newarray hJ (t := 1) (N := 8) (.inl ⟨rfl, rfl⟩) dX8_init_7 gk_ar_int (by decide) (by decide) (by decide) (by omega) (by omega) ?_
  refine x_putA fdX8_9 rfl (.inr ⟨rfl, rfl⟩) dX8_init_9 (h) ?_
  refine x_aload_n dX8_init_12 0 rfl ?_
  refine x_bipush (v := 8) dX8_init_13 (by decide) ?_
  refine x_newarray hJ (t := 3) (N := 8) (.inr (.inr (.inl ⟨rfl, rfl⟩))) dX8_init_15 gk_ar_boolean (by decide) (by decide) (by decide) (by omega) (by omega) ?_
  refine x_putA fdX8_15 rfl (.inr ⟨rfl, rfl⟩) dX8_init_17 (obd (h)) ?_
  exact x_vret rfl dX8_init_20 (by omega) (by omega) ⟨rfl, rfl⟩
def iX10 (a : Nat) (M : MM) : MM := bd1 1 6 a 1 (M)
theorem gX10 : GrF iX10 := fun a M x s h => obd (h)
theorem kX10 : RkF iX10 := fun a M x j h1 h2 => by
  unfold iX10
  rw [bd1_r (h1) (fun z => h2 z.1)]
theorem zX10 : ZiF iX10 := fun a M h => bd1_z (h)
theorem cX10 {g : GG} {d a : Nat} {M : MM} (hJ : gJ g = 0) (h : ob M a 10) (hd : 1 ≤ d) : RT g YX10_init d 1 6 [.ref a] M (fun rv M1 => rv = none ∧ M1 = iX10 a M) := by
  refine EX.entry (by decide +kernel) (Nat.le_of_ble_eq_true rfl) ?_
  show EX g YX10_init d 1 6 0 0 0 [(0, .ref a)] [] M _
  refine x_aload_n dX10_init_0 0 rfl ?_
  refine x_objInit dX10_init_1 oiX10_3 gk_oi1 gk_oi2 (by omega) (Nat.le_of_ble_eq_true rfl) ?_
  refine x_aload_n dX10_init_4 0 rfl ?_
  refine x_bipush (v := 6) dX10_init_5 (by decide) ?_
  refine x_newarray hJ (t := 1) (N := 6) (.inl ⟨rfl, rfl⟩) dX10_init_7 gk_ar_int (by decide) (by decide) (by decide) (by omega) (by omega) ?_
  refine x_putA fdX10_9 rfl (.inr ⟨rfl, rfl⟩) dX10_init_9 (h) ?_
  exact x_vret rfl dX10_init_12 (by omega) (by omega) ⟨rfl, rfl⟩
def iX0 (a : Nat) (M : MM) : MM := bd1 1 600 a 9 (bdo 2 a 8 iX2 (bd1 1 6 a 7 (bd1 2 6 a 6 (bd1 1 10 a 4 (bd1 1 10 a 3 (bd1 1 10 a 2 (bd1 2 10 a 1 (M))))))))
theorem gX0 : GrF iX0 := fun a M x s h => obd (obo gX2 (obd (obd (obd (obd (obd (obd (h))))))))
theorem kX0 : RkF iX0 := fun a M x j h1 h2 => by
  unfold iX0
  rw [bd1_r (bdo_lt gX2 (bd1_lt (bd1_lt (bd1_lt (bd1_lt (bd1_lt (bd1_lt (h1)))))))) (fun z => h2 z.1), bdo_r gX2 kX2 (bd1_lt (bd1_lt (bd1_lt (bd1_lt (bd1_lt (bd1_lt (h1))))))) (fun z => h2 z.1), bd1_r (bd1_lt (bd1_lt (bd1_lt (bd1_lt (bd1_lt (h1)))))) (fun z => h2 z.1), bd1_r (bd1_lt (bd1_lt (bd1_lt (bd1_lt (h1))))) (fun z => h2 z.1), bd1_r (bd1_lt (bd1_lt (bd1_lt (h1)))) (fun z => h2 z.1), bd1_r (bd1_lt (bd1_lt (h1))) (fun z => h2 z.1), bd1_r (bd1_lt (h1)) (fun z => h2 z.1), bd1_r (h1) (fun z => h2 z.1)]
theorem zX0 : ZiF iX0 := fun a M h => bd1_z (bdo_z zX2 (bd1_z (bd1_z (bd1_z (bd1_z (bd1_z (bd1_z (h))))))))
theorem cX0 {g : GG} {d a : Nat} {M : MM} (hJ : gJ g = 0) (h : ob M a 0) (hd : 2 ≤ d) : RT g YX0_init d 11 1686 [.ref a] M (fun rv M1 => rv = none ∧ M1 = iX0 a M) := by
  refine EX.entry (by decide +kernel) (Nat.le_of_ble_eq_true rfl) ?_
  show EX g YX0_init d 11 1686 0 0 0 [(0, .ref a)] [] M _
  refine x_aload_n dX0_init_0 0 rfl ?_
  refine x_objInit dX0_init_1 oiX0_3 gk_oi1 gk_oi2 (by omega) (Nat.le_of_ble_eq_true rfl) ?_
  refine x_aload_n dX0_init_4 0 rfl ?_
  refine x_bipush (v := 10) dX0_init_5 (by decide) ?_
  refine x_newarray hJ (t := 2) (N := 10) (.inr (.inl ⟨rfl, rfl⟩)) dX0_init_7 gk_ar_long (by decide) (by decide) (by decide) (by omega) (by omega) ?_
  refine x_putA fdX0_9 rfl (.inr ⟨rfl, rfl⟩) dX0_init_9 (h) ?_
  refine x_aload_n dX0_init_12 0 rfl ?_
  refine x_bipush (v := 10) dX0_init_13 (by decide) ?_
  refine x_newarray hJ (t := 1) (N := 10) (.inl ⟨rfl, rfl⟩) dX0_init_15 gk_ar_int (by decide) (by decide) (by decide) (by omega) (by omega) ?_
  refine x_putA fdX0_15 rfl (.inr ⟨rfl, rfl⟩) dX0_init_17 (obd (h)) ?_
  refine x_aload_n dX0_init_20 0 rfl ?_
  refine x_bipush (v := 10) dX0_init_21 (by decide) ?_
  refine x_newarray hJ (t := 1) (N := 10) (.inl ⟨rfl, rfl⟩) dX0_init_23 gk_ar_int (by decide) (by decide) (by decide) (by omega) (by omega) ?_
  refine x_putA fdX0_19 rfl (.inr ⟨rfl, rfl⟩) dX0_init_25 (obd (obd (h))) ?_
  refine x_aload_n dX0_init_28 0 rfl ?_
  refine x_bipush (v := 10) dX0_init_29 (by decide) ?_
  refine x_newarray hJ (t := 1) (N := 10) (.inl ⟨rfl, rfl⟩) dX0_init_31 gk_ar_int (by decide) (by decide) (by decide) (by omega) (by omega) ?_
  refine x_putA fdX0_22 rfl (.inr ⟨rfl, rfl⟩) dX0_init_33 (obd (obd (obd (h)))) ?_
  refine x_aload_n dX0_init_36 0 rfl ?_
  refine x_bipush (v := 6) dX0_init_37 (by decide) ?_
  refine x_newarray hJ (t := 2) (N := 6) (.inr (.inl ⟨rfl, rfl⟩)) dX0_init_39 gk_ar_long (by decide) (by decide) (by decide) (by omega) (by omega) ?_
  refine x_putA fdX0_25 rfl (.inr ⟨rfl, rfl⟩) dX0_init_41 (obd (obd (obd (obd (h))))) ?_
  refine x_aload_n dX0_init_44 0 rfl ?_
  refine x_bipush (v := 6) dX0_init_45 (by decide) ?_
  refine x_newarray hJ (t := 1) (N := 6) (.inl ⟨rfl, rfl⟩) dX0_init_47 gk_ar_int (by decide) (by decide) (by decide) (by omega) (by omega) ?_
  refine x_putA fdX0_28 rfl (.inr ⟨rfl, rfl⟩) dX0_init_49 (obd (obd (obd (obd (obd (h)))))) ?_
  refine x_aload_n dX0_init_52 0 rfl ?_
  refine x_new hJ (ci := 2) (N := 4) rfl cnX0_31 dX0_init_53 (by omega) (by omega) ?_
  refine x_dup dX0_init_56 rfl ?_
  refine x_callIN (As := []) (d1 := d - 1) (mc1 := 3) (ms1 := 1030) YX2_init cniX0_33 dX0_init_57 rfl rfl (by omega) (by omega) (by omega) (Nat.le_of_ble_eq_true rfl) (cX2 hJ obn (by omega)) ?_
  rintro rv M1 ⟨rfl, rfl⟩
  refine x_putO (f := iX2) gX2 fdX0_34 rfl (.inr ⟨rfl, rfl⟩) dX0_init_60 (obd (obd (obd (obd (obd (obd (h))))))) ?_
  refine x_aload_n dX0_init_63 0 rfl ?_
  refine x_sipush (v := 600) dX0_init_64 (by decide) ?_
  refine x_newarray hJ (t := 1) (N := 600) (.inl ⟨rfl, rfl⟩) dX0_init_67 gk_ar_int (by decide) (by decide) (by decide) (by omega) (by omega) ?_
  refine x_putA fdX0_38 rfl (.inr ⟨rfl, rfl⟩) dX0_init_69 (obo gX2 (obd (obd (obd (obd (obd (obd (h)))))))) ?_
  exact x_vret rfl dX0_init_72 (by omega) (by omega) ⟨rfl, rfl⟩
def iX3 (a : Nat) (M : MM) : MM := bdo 8 a 3 iX8 (bdo 5 a 2 iX5 (bdo 10 a 1 iX10 (M)))
theorem gX3 : GrF iX3 := fun a M x s h => obo gX8 (obo gX5 (obo gX10 (h)))
theorem kX3 : RkF iX3 := fun a M x j h1 h2 => by
  unfold iX3
  rw [bdo_r gX8 kX8 (bdo_lt gX5 (bdo_lt gX10 (h1))) (fun z => h2 z.1), bdo_r gX5 kX5 (bdo_lt gX10 (h1)) (fun z => h2 z.1), bdo_r gX10 kX10 (h1) (fun z => h2 z.1)]
theorem zX3 : ZiF iX3 := fun a M h => bdo_z zX8 (bdo_z zX5 (bdo_z zX10 (h)))
theorem cX3 {g : GG} {d a : Nat} {M : MM} (hJ : gJ g = 0) (h : ob M a 3) (hd : 2 ≤ d) : RT g YX3_init d 10 195 [.ref a] M (fun rv M1 => rv = none ∧ M1 = iX3 a M) := by
  refine EX.entry (by decide +kernel) (Nat.le_of_ble_eq_true rfl) ?_
  show EX g YX3_init d 10 195 0 0 0 [(0, .ref a)] [] M _
  refine x_aload_n dX3_init_0 0 rfl ?_
  refine x_objInit dX3_init_1 oiX3_1 gk_oi1 gk_oi2 (by omega) (Nat.le_of_ble_eq_true rfl) ?_
  refine x_aload_n dX3_init_4 0 rfl ?_
  refine x_new hJ (ci := 10) (N := 5) rfl cnX3_7 dX3_init_5 (by omega) (by omega) ?_
  refine x_dup dX3_init_8 rfl ?_
  refine x_callIN (As := []) (d1 := d - 1) (mc1 := 1) (ms1 := 6) YX10_init cniX3_9 dX3_init_9 rfl rfl (by omega) (by omega) (by omega) (Nat.le_of_ble_eq_true rfl) (cX10 hJ obn (by omega)) ?_
  rintro rv M1 ⟨rfl, rfl⟩
  refine x_putO (f := iX10) gX10 fdX3_10 rfl (.inr ⟨rfl, rfl⟩) dX3_init_12 (h) ?_
  refine x_aload_n dX3_init_15 0 rfl ?_
  refine x_new hJ (ci := 5) (N := 5) rfl cnX3_16 dX3_init_16 (by omega) (by omega) ?_
  refine x_dup dX3_init_19 rfl ?_
  refine x_callIN (As := []) (d1 := d - 1) (mc1 := 4) (ms1 := 160) YX5_init cniX3_18 dX3_init_20 rfl rfl (by omega) (by omega) (by omega) (Nat.le_of_ble_eq_true rfl) (cX5 hJ obn (by omega)) ?_
  rintro rv M1 ⟨rfl, rfl⟩
  refine x_putO (f := iX5) gX5 fdX3_19 rfl (.inr ⟨rfl, rfl⟩) dX3_init_23 (obo gX10 (h)) ?_
  refine x_aload_n dX3_init_26 0 rfl ?_
  refine x_new hJ (ci := 8) (N := 3) rfl cnX3_23 dX3_init_27 (by omega) (by omega) ?_
  refine x_dup dX3_init_30 rfl ?_
  refine x_callIN (As := []) (d1 := d - 1) (mc1 := 2) (ms1 := 16) YX8_init cniX3_25 dX3_init_31 rfl rfl (by omega) (by omega) (by omega) (Nat.le_of_ble_eq_true rfl) (cX8 hJ obn (by omega)) ?_
  rintro rv M1 ⟨rfl, rfl⟩
  refine x_putO (f := iX8) gX8 fdX3_26 rfl (.inr ⟨rfl, rfl⟩) dX3_init_34 (obo gX5 (obo gX10 (h))) ?_
  exact x_vret rfl dX3_init_37 (by omega) (by omega) ⟨rfl, rfl⟩
