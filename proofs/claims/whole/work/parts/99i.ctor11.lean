/-! ===== the class's constructor: printed by wip/gen/ctors.py ===== -/
def iX11 (a : Nat) (M : MM) : MM := bd1 1 6 a 13 (bdo 1 a 12 iX1 (bdo 6 a 11 iX6 (bda 3 (mn (bdo 8 a 9 iX8 (bdo 4 a 8 iX4 (bdo 10 a 7 iX10 (bdo 10 a 6 iX10 (bdo 5 a 5 iX5 (bdo 5 a 4 iX5 (bdo 7 a 1 (iX7 (mn (bdo 0 a 3 iX0 (bdo 0 a 2 iX0 M))) (mn M)) (bdo 9 a 0 iX9 (bdo 0 a 3 iX0 (bdo 0 a 2 iX0 M))))))))))) iX3 4 (bd1 5 4 a 10 (bdo 8 a 9 iX8 (bdo 4 a 8 iX4 (bdo 10 a 7 iX10 (bdo 10 a 6 iX10 (bdo 5 a 5 iX5 (bdo 5 a 4 iX5 (bdo 7 a 1 (iX7 (mn (bdo 0 a 3 iX0 (bdo 0 a 2 iX0 M))) (mn M)) (bdo 9 a 0 iX9 (bdo 0 a 3 iX0 (bdo 0 a 2 iX0 M))))))))))))))
set_option maxHeartbeats 4000000 in
set_option maxRecDepth 20000 in
theorem cX11 {g : GG} {d a : Nat} {M : MM} (hJ : gJ g = 0) (h : ob M a 11) (hd : 5 ≤ d) : RT g YX11_init d 129 5814 [.ref a] M (fun rv M1 => rv = none ∧ M1 = iX11 a M) := by
  refine EX.entry (by decide +kernel) (Nat.le_of_ble_eq_true rfl) ?_
  show EX g YX11_init d 129 5814 0 0 0 [(0, .ref a)] [] M _
  refine x_aload_n dX11_init_0 0 rfl ?_
  refine x_objInit dX11_init_1 oiX11_1 gk_oi1 gk_oi2 (by omega) (Nat.le_of_ble_eq_true rfl) ?_
  refine x_aload_n dX11_init_4 0 rfl ?_
  refine x_new hJ (ci := 0) (N := 10) rfl cnX11_7 dX11_init_5 (by omega) (by omega) ?_
  refine x_dup dX11_init_8 rfl ?_
  refine x_callIN (As := []) (d1 := d - 1) (mc1 := 11) (ms1 := 1686) YX0_init cniX11_9 dX11_init_9 rfl rfl (by omega) (by omega) (by omega) (Nat.le_of_ble_eq_true rfl) (cX0 hJ obn (by omega)) ?_
  rintro rv M1 ⟨rfl, rfl⟩
  refine x_putO (f := iX0) gX0 fdX11_10 rfl (.inl rfl) dX11_init_12 (h) ?_
  refine x_aload_n dX11_init_15 0 rfl ?_
  refine x_new hJ (ci := 0) (N := 10) rfl cnX11_7 dX11_init_16 (by omega) (by omega) ?_
  refine x_dup dX11_init_19 rfl ?_
  refine x_callIN (As := []) (d1 := d - 1) (mc1 := 11) (ms1 := 1686) YX0_init cniX11_9 dX11_init_20 rfl rfl (by omega) (by omega) (by omega) (Nat.le_of_ble_eq_true rfl) (cX0 hJ obn (by omega)) ?_
  rintro rv M1 ⟨rfl, rfl⟩
  refine x_putO (f := iX0) gX0 fdX11_16 rfl (.inl rfl) dX11_init_23 (obo gX0 (h)) ?_
  refine x_aload_n dX11_init_26 0 rfl ?_
  refine x_new hJ (ci := 9) (N := 10) rfl cnX11_19 dX11_init_27 (by omega) (by omega) ?_
  refine x_dup dX11_init_30 rfl ?_
  refine x_callI (As := []) (d1 := d - 1) (mc1 := 2) (ms1 := 1021) YX9_init ciiX11_21 dX11_init_31 rfl rfl (by omega) (by omega) (by omega) (Nat.le_of_ble_eq_true rfl) (cX9 hJ obn (by omega)) ?_
  rintro rv M1 ⟨rfl, rfl⟩
  refine x_putO (f := iX9) gX9 fdX11_22 rfl (.inr ⟨rfl, rfl⟩) dX11_init_34 (obo gX0 (obo gX0 (h))) ?_
  have hT : mr (bdo 9 a 0 iX9 (bdo 0 a 3 iX0 (bdo 0 a 2 iX0 M))) a 0 = some (mn (bdo 0 a 3 iX0 (bdo 0 a 2 iX0 M))) := bdo_s
  have hL : mr (bdo 9 a 0 iX9 (bdo 0 a 3 iX0 (bdo 0 a 2 iX0 M))) a 2 = some (mn M) := by rw [bdo_r gX9 kX9 (bdo_lt gX0 (bdo_lt gX0 h.1)) (fun z => absurd z.2 (by decide)), bdo_r gX0 kX0 (bdo_lt gX0 h.1) (fun z => absurd z.2 (by decide)), bdo_s]
  have h3 : ob (bdo 9 a 0 iX9 (bdo 0 a 3 iX0 (bdo 0 a 2 iX0 M))) a 11 := obo gX9 (obo gX0 (obo gX0 (h)))
  have h3r : ∀ j b, mr (bdo 9 a 0 iX9 (bdo 0 a 3 iX0 (bdo 0 a 2 iX0 M))) a j = some b → mr (mw (bdo 9 a 0 iX9 (bdo 0 a 3 iX0 (bdo 0 a 2 iX0 M))) (0, 7)) a j = some b := fun j b e => (if_neg (Nat.ne_of_lt h3.1)).trans e
  refine x_aload_n dX11_init_37 0 rfl ?_
  refine x_new hJ (ci := 7) (N := 3) rfl cnX11_26 dX11_init_38 (by omega) (by omega) ?_
  refine x_dup dX11_init_41 rfl ?_
  refine x_aload_n dX11_init_42 0 rfl ?_
  refine x_getR fdX11_22 rfl dX11_init_43 (obw h3).1 (obw h3).2 (h3r 0 _ hT) ?_
  refine x_aload_n dX11_init_46 0 rfl ?_
  refine x_getR fdX11_10 rfl dX11_init_47 (obw h3).1 (obw h3).2 (h3r 2 _ hL) ?_
  refine x_callI (As := [.ref (mn (bdo 0 a 3 iX0 (bdo 0 a 2 iX0 M))), .ref (mn M)]) (d1 := d - 1) (mc1 := 0) (ms1 := 0) YX7_init ciiX11_28 dX11_init_50 rfl rfl (by omega) (by omega) (by omega) (Nat.le_of_ble_eq_true rfl) (cX7 obn (by omega)) ?_
  rintro rv M1 ⟨rfl, rfl⟩
  refine x_putO (f := iX7 (mn (bdo 0 a 3 iX0 (bdo 0 a 2 iX0 M))) (mn M)) gX7 fdX11_31 rfl (.inr ⟨rfl, rfl⟩) dX11_init_53 h3 ?_
  have h4 : ob (bdo 7 a 1 (iX7 (mn (bdo 0 a 3 iX0 (bdo 0 a 2 iX0 M))) (mn M)) (bdo 9 a 0 iX9 (bdo 0 a 3 iX0 (bdo 0 a 2 iX0 M)))) a 11 := obo gX7 h3
  generalize hm4 : bdo 7 a 1 (iX7 (mn (bdo 0 a 3 iX0 (bdo 0 a 2 iX0 M))) (mn M)) (bdo 9 a 0 iX9 (bdo 0 a 3 iX0 (bdo 0 a 2 iX0 M))) = m4 at h4 ⊢
  refine x_aload_n dX11_init_56 0 rfl ?_
  refine x_new hJ (ci := 5) (N := 5) rfl cnX11_35 dX11_init_57 (by omega) (by omega) ?_
  refine x_dup dX11_init_60 rfl ?_
  refine x_callIN (As := []) (d1 := d - 1) (mc1 := 4) (ms1 := 160) YX5_init cniX11_37 dX11_init_61 rfl rfl (by omega) (by omega) (by omega) (Nat.le_of_ble_eq_true rfl) (cX5 hJ obn (by omega)) ?_
  rintro rv M1 ⟨rfl, rfl⟩
  refine x_putO (f := iX5) gX5 fdX11_38 rfl (.inl rfl) dX11_init_64 (h4) ?_
  refine x_aload_n dX11_init_67 0 rfl ?_
  refine x_new hJ (ci := 5) (N := 5) rfl cnX11_35 dX11_init_68 (by omega) (by omega) ?_
  refine x_dup dX11_init_71 rfl ?_
  refine x_callIN (As := []) (d1 := d - 1) (mc1 := 4) (ms1 := 160) YX5_init cniX11_37 dX11_init_72 rfl rfl (by omega) (by omega) (by omega) (Nat.le_of_ble_eq_true rfl) (cX5 hJ obn (by omega)) ?_
  rintro rv M1 ⟨rfl, rfl⟩
  refine x_putO (f := iX5) gX5 fdX11_42 rfl (.inl rfl) dX11_init_75 (obo gX5 (h4)) ?_
  refine x_aload_n dX11_init_78 0 rfl ?_
  refine x_new hJ (ci := 10) (N := 5) rfl cnX11_45 dX11_init_79 (by omega) (by omega) ?_
  refine x_dup dX11_init_82 rfl ?_
  refine x_callIN (As := []) (d1 := d - 1) (mc1 := 1) (ms1 := 6) YX10_init cniX11_47 dX11_init_83 rfl rfl (by omega) (by omega) (by omega) (Nat.le_of_ble_eq_true rfl) (cX10 hJ obn (by omega)) ?_
  rintro rv M1 ⟨rfl, rfl⟩
  refine x_putO (f := iX10) gX10 fdX11_48 rfl (.inr ⟨rfl, rfl⟩) dX11_init_86 (obo gX5 (obo gX5 (h4))) ?_
  refine x_aload_n dX11_init_89 0 rfl ?_
  refine x_new hJ (ci := 10) (N := 5) rfl cnX11_45 dX11_init_90 (by omega) (by omega) ?_
  refine x_dup dX11_init_93 rfl ?_
  refine x_callIN (As := []) (d1 := d - 1) (mc1 := 1) (ms1 := 6) YX10_init cniX11_47 dX11_init_94 rfl rfl (by omega) (by omega) (by omega) (Nat.le_of_ble_eq_true rfl) (cX10 hJ obn (by omega)) ?_
  rintro rv M1 ⟨rfl, rfl⟩
  refine x_putO (f := iX10) gX10 fdX11_52 rfl (.inr ⟨rfl, rfl⟩) dX11_init_97 (obo gX10 (obo gX5 (obo gX5 (h4)))) ?_
  refine x_aload_n dX11_init_100 0 rfl ?_
  refine x_new hJ (ci := 4) (N := 3) rfl cnX11_55 dX11_init_101 (by omega) (by omega) ?_
  refine x_dup dX11_init_104 rfl ?_
  refine x_callI (As := []) (d1 := d - 1) (mc1 := 33) (ms1 := 192) YX4_init ciiX11_57 dX11_init_105 rfl rfl (by omega) (by omega) (by omega) (Nat.le_of_ble_eq_true rfl) (cX4 hJ obn (by omega)) ?_
  rintro rv M1 ⟨rfl, rfl⟩
  refine x_putO (f := iX4) gX4 fdX11_58 rfl (.inr ⟨rfl, rfl⟩) dX11_init_108 (obo gX10 (obo gX10 (obo gX5 (obo gX5 (h4))))) ?_
  refine x_aload_n dX11_init_111 0 rfl ?_
  refine x_new hJ (ci := 8) (N := 3) rfl cnX11_62 dX11_init_112 (by omega) (by omega) ?_
  refine x_dup dX11_init_115 rfl ?_
  refine x_callIN (As := []) (d1 := d - 1) (mc1 := 2) (ms1 := 16) YX8_init cniX11_64 dX11_init_116 rfl rfl (by omega) (by omega) (by omega) (Nat.le_of_ble_eq_true rfl) (cX8 hJ obn (by omega)) ?_
  rintro rv M1 ⟨rfl, rfl⟩
  refine x_putO (f := iX8) gX8 fdX11_65 rfl (.inr ⟨rfl, rfl⟩) dX11_init_119 (obo gX4 (obo gX10 (obo gX10 (obo gX5 (obo gX5 (h4)))))) ?_
  have h10 : ob (bdo 8 a 9 iX8 (bdo 4 a 8 iX4 (bdo 10 a 7 iX10 (bdo 10 a 6 iX10 (bdo 5 a 5 iX5 (bdo 5 a 4 iX5 m4)))))) a 11 := obo gX8 (obo gX4 (obo gX10 (obo gX10 (obo gX5 (obo gX5 (h4))))))
  generalize hm10 : bdo 8 a 9 iX8 (bdo 4 a 8 iX4 (bdo 10 a 7 iX10 (bdo 10 a 6 iX10 (bdo 5 a 5 iX5 (bdo 5 a 4 iX5 m4))))) = m10 at h10 ⊢
  refine x_aload_n dX11_init_122 0 rfl ?_
  refine x_iconst (v := 4) dX11_init_123 (by decide) ?_
  refine x_anew hJ (t := 5) (N := 4) (.inl ⟨rfl, rfl⟩) dX11_init_124 klX11_69 (by decide) (by decide) (by decide) (by omega) (by omega) ?_
  refine x_putA fdX11_71 rfl (.inr ⟨rfl, rfl⟩) dX11_init_127 h10 ?_
  refine x_iconst (v := 0) dX11_init_130 (by decide) ?_
  refine x_istore_n (lv1 := [(1, .int 0), (0, .ref a)]) dX11_init_131 (by decide) rfl ?_
  have key := up0 (p := fun i => EX g YX11_init d 129 5814 (80 + 11 * i) (4996 + 199 * i) 132 [(1, .int (nI i)), (0, .ref a)] [] (bda 3 (mn m10) iX3 i (bd1 5 4 a 10 m10)) (fun rv M1 => rv = none ∧ M1 = iX11 a M)) 4 ?_ (fun i hi ih => ?_)
  · exact x_wid (by omega) (by omega) key
  · have h12 := bda_g (ci := 3) (w := mn m10) gX3 4 (obd (t := 5) (n := 4) (a := a) (k := 10) h10)
    refine x_iload_n dX11_init_132 0 rfl ?_
    refine x_iconst (v := 4) dX11_init_133 (by decide) ?_
    refine x_ic_ge 156 dX11_init_134 (by decide) (fun _ => ?_) (fun z => absurd (by decide) z)
    refine x_aload_n dX11_init_156 1 rfl ?_
    refine x_new hJ (ci := 6) (N := 3) rfl cnX11_76 dX11_init_157 (by omega) (by omega) ?_
    refine x_dup dX11_init_160 rfl ?_
    refine x_callIN (As := []) (d1 := d - 1) (mc1 := 2) (ms1 := 12) YX6_init cniX11_78 dX11_init_161 rfl rfl (by omega) (by omega) (by omega) (Nat.le_of_ble_eq_true rfl) (cX6 hJ obn (by omega)) ?_
    rintro rv M1 ⟨rfl, rfl⟩
    refine x_putO (f := iX6) gX6 fdX11_79 rfl (.inr ⟨rfl, rfl⟩) dX11_init_164 (h12) ?_
    refine x_aload_n dX11_init_167 1 rfl ?_
    refine x_new hJ (ci := 1) (N := 1) rfl cnX11_83 dX11_init_168 (by omega) (by omega) ?_
    refine x_dup dX11_init_171 rfl ?_
    refine x_callIN (As := []) (d1 := d - 1) (mc1 := 0) (ms1 := 0) YX1_init cniX11_85 dX11_init_172 rfl rfl (by omega) (by omega) (by omega) (Nat.le_of_ble_eq_true rfl) (cX1 hJ obn (by omega)) ?_
    rintro rv M1 ⟨rfl, rfl⟩
    refine x_putO (f := iX1) gX1 fdX11_86 rfl (.inr ⟨rfl, rfl⟩) dX11_init_175 (obo gX6 (h12)) ?_
    refine x_aload_n dX11_init_178 1 rfl ?_
    refine x_bipush (v := 6) dX11_init_179 (by decide) ?_
    refine x_newarray hJ (t := 1) (N := 6) (.inl ⟨rfl, rfl⟩) dX11_init_181 gk_ar_int (by decide) (by decide) (by decide) (by omega) (by omega) ?_
    refine x_putA fdX11_90 rfl (.inr ⟨rfl, rfl⟩) dX11_init_183 (obo gX1 (obo gX6 (h12))) ?_
    refine x_vret rfl dX11_init_186 (by omega) (by omega) ⟨rfl, ?_⟩
    rw [← hm10, ← hm4]
    rfl
  · have hb := bda_g (ci := 3) (w := mn m10) gX3 i (obd (t := 5) (n := 4) (a := a) (k := 10) h10)
    have hw := bda_g (ci := 3) (w := mn m10) gX3 i (x := mn m10) (s := (5, 4)) (M := bd1 5 4 a 10 m10) (obn (M := m10) (sh := (5, 4)))
    have hr : mr (bda 3 (mn m10) iX3 i (bd1 5 4 a 10 m10)) a 10 = some (mn m10) := by rw [bda_r gX3 kX3 i (bd1_lt h10.1) (Nat.ne_of_lt h10.1), bd1_s]
    have ih : EX g YX11_init d 129 5814 (80 + 11 * (i + 1)) (4996 + 199 * (i + 1)) 132 [(1, .int (nI (i + 1))), (0, .ref a)] [] (bdo 3 (mn m10) i iX3 (bda 3 (mn m10) iX3 i (bd1 5 4 a 10 m10))) (fun rv M1 => rv = none ∧ M1 = iX11 a M) := ih
    generalize bda 3 (mn m10) iX3 i (bd1 5 4 a 10 m10) = Mi at hb hw hr ih ⊢
    refine x_iload_n dX11_init_132 0 rfl ?_
    refine x_iconst (v := 4) dX11_init_133 (by decide) ?_
    refine x_ic_ge 156 dX11_init_134 (by decide) (fun z => absurd z (ngl 4 rfl (by decide) hi)) (fun _ => ?_)
    refine x_aload_n dX11_init_137 1 rfl ?_
    refine x_getR fdX11_71 rfl dX11_init_138 hb.1 hb.2 hr ?_
    refine x_iload_n dX11_init_141 0 rfl ?_
    refine x_new hJ (ci := 3) (N := 4) rfl cnX11_69 dX11_init_142 (by omega) (by omega) ?_
    refine x_dup dX11_init_145 rfl ?_
    refine x_callIN (As := []) (d1 := d - 1) (mc1 := 10) (ms1 := 195) YX3_init cniX11_75 dX11_init_146 rfl rfl (by omega) (by omega) (by omega) (Nat.le_of_ble_eq_true rfl) (cX3 hJ obn (by omega)) ?_
    rintro rv M1 ⟨rfl, rfl⟩
    refine x_aast (a := mn m10) (n := 4) (t := 5) (v := mn Mi) (ci := 3) dX11_init_149 (gX3 _ _ _ _ (obw hw)).1 (gX3 _ _ _ _ (obw hw)).2 (.inl ⟨rfl, rfl⟩) (vi hi (by decide)) (gX3 _ _ _ _ obn).1 (gX3 _ _ _ _ obn).2 ?_
    rw [nI_clamp (by omega)]
    refine x_iinc (v := nI (i + 1)) (lv1 := [(1, .int (nI (i + 1))), (0, .ref a)]) dX11_init_150 0 rfl (nI_1 i) (by decide) rfl ?_
    refine x_goto 132 dX11_init_153 (by decide) ?_
    exact x_wid (by omega) (by omega) ih
