/-! ===== the law's own walk: rows ===== -/
def YLaw : YY := (yL_law, cL_law, 7, (some .boolean), 1)
def XL (g : GG) (p : Program) (s : State) (m : MethodId) (meth : Method) (c : Code) (b L : Nat) (xs : Nat → Int32) : Prop := xC g YLaw p s m #[Value.ref b] meth c ∧ va_X b L xs s s.heap ∧ b < s.heap.size ∧ gB g = s.heap.size ∧ g.1.stackTraces = false ∧ L ≤ 3584
abbrev EL (g : GG) (p : Program) (e : Env) (s : State) (m : MethodId) (below : List Frame) (meth : Method) (c : Code) (b : Nat) (Q : State → Prop) (ce sl pc : Nat) (lv : List (Nat × Value)) (st : List Value) (M : MM) : Prop := EQ g YLaw p e s m #[Value.ref b] below meth c room_1 Q [(0, Value.ref b)] ce sl pc lv st M
abbrev LV (i : Nat) : List (Nat × Value) := [(1, .ref 0), (2, .ref 130), (3, .ref 172), (4, .int (nI i))]
theorem Inv.o0 {M : MM} (I : Inv M) : ob M 0 11 := by
  obtain ⟨la, lb, pa, pb0, rl, n, t, D, c, T, U, p, w, mk, I, -⟩ := I
  exact I.1.s rfl (by decide)
theorem Inv.o130 {M : MM} (I : Inv M) : ob M 130 12 := by
  obtain ⟨la, lb, pa, pb0, rl, n, t, D, c, T, U, p, w, mk, I, -⟩ := I
  exact I.1.s rfl (by decide)
theorem Inv.o172 {M : MM} (I : Inv M) : ar M 172 2 1 := by
  obtain ⟨la, lb, pa, pb0, rl, n, t, D, c, T, U, p, w, mk, I, -⟩ := I
  exact I.1.s rfl (by decide)
theorem Inv.thrown {g : GG} {M : MM} (I : Inv M) : R0 g YX12_thrown 60 [.ref 130] M (Ans (mi M 130 0) M) := by
  obtain ⟨la, lb, pa, pb0, rl, n, t, D, c, T, U, p, w, mk, I, -⟩ := I
  exact tX12_thrown I.1
section LR
variable {g : GG} {p : Program} {e : Env} {s : State} {m : MethodId} {below : List Frame} {meth : Method} {c : Code} {b L : Nat} {xs : Nat → Int32} {Q : State → Prop} {ce sl pc : Nat} {lv : List (Nat × Value)} {st : List Value} {M : MM}
theorem XL.j (X : XL g p s m meth c b L xs) (j : Nat) : XL (gj g j) p s m meth c b L xs := ⟨xC_j X.1, X.2⟩
theorem XL.no (X : XL g p s m meth c b L xs) : ¬ gA g b := by
  have h1 := X.2.2.1
  have h2 := X.2.2.2.1
  show ¬ gB g ≤ b
  omega
/-- the script's entry i -/
theorem s_ld0 {i : Nat} (X : XL g p s m meth c b L xs) (d0 : decode cL_law pc = .ok (.aload_n 0, 1)) (d1 : decode cL_law (pc + 1) = .ok (.iload 4, 2)) (d2 : decode cL_law (pc + 3) = .ok (.iaload, 1)) (q : Nat) (hq : lv[q]? = some (4, .int (nI i))) (hi : i < L) (kk : EL g p e s m below meth c b Q ce sl (pc + 4) lv (.int (xs i) :: st) M) : EL g p e s m below meth c b Q ce sl pc lv st M := by
  intro H locs ls hP hS hz hl
  have hL := X.2.2.2.2.2
  refine lv_aload_n X.1.1 X.1.2.1 d0 rfl (lv_at hl 0 rfl) ?_
  refine lv_iload X.1.1 X.1.2.1 d1 (lv_at hl ([(0, Value.ref b)].length + q) (rl_at hq)) ?_
  refine va_sld X.1.1 X.1.2.1 X.2.1 X.2.2.1 X.no hS (vi hi (by omega)) d2 ?_
  rw [nI_clamp (by omega)]
  exact kk H locs ls hP hS hz hl
theorem s_ldc {i : Nat} {n : Int} (k : Nat) (X : XL g p s m meth c b L xs) (d0 : decode cL_law pc = .ok (.aload_n 0, 1)) (d1 : decode cL_law (pc + 1) = .ok (.iload 4, 2)) (d2 : decode cL_law (pc + 3) = .ok (.iconst n, 1)) (d3 : decode cL_law (pc + 4) = .ok (.iadd, 1)) (d4 : decode cL_law (pc + 5) = .ok (.iaload, 1)) (hk : Int32.ofInt n = nI k) (q : Nat) (hq : lv[q]? = some (4, .int (nI i))) (hi : i + k < L) (kk : EL g p e s m below meth c b Q ce sl (pc + 6) lv (.int (xs (i + k)) :: st) M) : EL g p e s m below meth c b Q ce sl pc lv st M := by
  intro H locs ls hP hS hz hl
  have hL := X.2.2.2.2.2
  refine lv_aload_n X.1.1 X.1.2.1 d0 rfl (lv_at hl 0 rfl) ?_
  refine lv_iload X.1.1 X.1.2.1 d1 (lv_at hl ([(0, Value.ref b)].length + q) (rl_at hq)) ?_
  refine lv_iconst X.1.1 X.1.2.1 d2 hk ?_
  refine lv_iadd X.1.1 X.1.2.1 d3 ?_
  rw [nI_add]
  refine va_sld X.1.1 X.1.2.1 X.2.1 X.2.2.1 X.no hS (vi hi (by omega)) d4 ?_
  rw [nI_clamp (by omega)]
  exact kk H locs ls hP hS hz hl
theorem s_ldb {i : Nat} {n : Int} (k : Nat) (X : XL g p s m meth c b L xs) (d0 : decode cL_law pc = .ok (.aload_n 0, 1)) (d1 : decode cL_law (pc + 1) = .ok (.iload 4, 2)) (d2 : decode cL_law (pc + 3) = .ok (.bipush n, 2)) (d3 : decode cL_law (pc + 5) = .ok (.iadd, 1)) (d4 : decode cL_law (pc + 6) = .ok (.iaload, 1)) (hk : (Int8.ofInt n).toInt32 = nI k) (q : Nat) (hq : lv[q]? = some (4, .int (nI i))) (hi : i + k < L) (kk : EL g p e s m below meth c b Q ce sl (pc + 7) lv (.int (xs (i + k)) :: st) M) : EL g p e s m below meth c b Q ce sl pc lv st M := by
  intro H locs ls hP hS hz hl
  have hL := X.2.2.2.2.2
  refine lv_aload_n X.1.1 X.1.2.1 d0 rfl (lv_at hl 0 rfl) ?_
  refine lv_iload X.1.1 X.1.2.1 d1 (lv_at hl ([(0, Value.ref b)].length + q) (rl_at hq)) ?_
  refine lv_bipush X.1.1 X.1.2.1 d2 hk ?_
  refine lv_iadd X.1.1 X.1.2.1 d3 ?_
  rw [nI_add]
  refine va_sld X.1.1 X.1.2.1 X.2.1 X.2.2.1 X.no hS (vi hi (by omega)) d4 ?_
  rw [nI_clamp (by omega)]
  exact kk H locs ls hP hS hz hl
/-- true or false out of an int -/
theorem s_b01 {v : Int32} (X : XL g p s m meth c b L xs) (d0 : decode cL_law pc = .ok (.ifCond .eq 7, 3)) (d1 : decode cL_law (pc + 3) = .ok (.iconst 1, 1)) (d2 : decode cL_law (pc + 4) = .ok (.goto 4, 3)) (d3 : decode cL_law (pc + 7) = .ok (.iconst 0, 1)) (kk : EL g p e s m below meth c b Q ce sl (pc + 8) lv (.int (b2i (decide (v ≠ 0))) :: st) M) : EL g p e s m below meth c b Q ce sl pc lv (.int v :: st) M := by
  refine y_if_eq X.1 (pc + 7) d0 (by omega) (fun z => ?_) (fun z => ?_)
  · refine y_iconst (v := 0) X.1 d3 (by decide) ?_
    rw [decide_eq_false (fun q => q z)] at kk
    exact kk
  · refine y_iconst (v := 1) X.1 d1 (by decide) ?_
    refine y_goto X.1 (pc + 8) d2 (by omega) ?_
    rw [decide_eq_true z] at kk
    exact kk
/-- a long out of two ints of the script -/
theorem s_long {x : Int32} (X : XL g p s m meth c b L xs) (d0 : decode cL_law pc = .ok (.i2l, 1)) (d1 : decode cL_law (pc + 1) = .ok (.ldc2_w 23, 3)) (d2 : decode cL_law (pc + 4) = .ok (.land, 1)) (d3 : decode cL_law (pc + 5) = .ok (.lor, 1)) {z : Int64} (kk : EL g p e s m below meth c b Q ce sl (pc + 6) lv (.long (z ||| (x.toInt64 &&& 4294967295)) :: st) M) : EL g p e s m below meth c b Q ce sl pc lv (.int x :: .long z :: st) M := by
  refine y_i2l X.1 d0 ?_
  refine y_ldc2 X.1 d1 kcL_23 ?_
  refine y_land X.1 d2 ?_
  refine y_lor X.1 d3 ?_
  exact kk
theorem s_high {x : Int32} (X : XL g p s m meth c b L xs) (d0 : decode cL_law pc = .ok (.i2l, 1)) (d1 : decode cL_law (pc + 1) = .ok (.bipush 32, 2)) (d2 : decode cL_law (pc + 3) = .ok (.lshl, 1)) (kk : EL g p e s m below meth c b Q ce sl (pc + 4) lv (.long (x.toInt64 <<< ((32 : Int32).toInt64 &&& 63)) :: st) M) : EL g p e s m below meth c b Q ce sl pc lv (.int x :: st) M := by
  refine y_i2l X.1 d0 ?_
  refine y_bipush (v := 32) X.1 d1 (by decide) ?_
  refine y_lshl X.1 d2 ?_
  exact kk
/-- a call that makes no cell -/
theorem l_call {idx b0 ci : Nat} {As st0 : List Value} {P1 : Option Value → MM → Prop} (X : XL g p s m meth c b L xs) (Z : YY) (F : CV RL idx Z) (hd : decode cL_law pc = .ok (.invokevirtual idx, 3)) (hst : st0 = As.reverse ++ .ref b0 :: st) (hn : As.length = yA Z) (o : ob M b0 ci) (hci : vwCl[ci]?.map (fun r => r.1) = some (yN Z).cls) (hf : ce ≤ room_1.cells ∧ sl ≤ room_1.slots) (hw : (st.map fun v => v.category).sum ≤ 8) (hM : R0 g Z 60 (.ref b0 :: As) M P1) (k : ∀ rv M1, P1 rv M1 → mn M1 = mn M → EL g p e s m below meth c b Q ce sl (pc + 3) lv (rv.toList ++ st) M1) : EL g p e s m below meth c b Q ce sl pc lv st0 M :=
  y_callV (d1 := 60) (mc1 := 0) (ms1 := 0) X.1 Z F hd hst hn o.1 o.2 hci ⟨hf.1, hf.2⟩ ⟨by decide, by decide⟩ hw hM.n (fun rv M1 q => k rv M1 q.1 q.2)
end LR
