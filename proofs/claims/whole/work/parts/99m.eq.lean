/-! ===== EQ: the machine, from this point of this method on, in any room, with any end: printed by wip/gen/mkeq.py ===== -/
def EQ (g : GG) (Y : YY) (p : Program) (e : Env) (s : State) (m : MethodId) (args : Array Value) (below : List Frame) (meth : Method) (c : Code) (R : Room) (Q : State → Prop) (rl : List (Nat × Value)) (ce sl pc : Nat) (lv : List (Nat × Value)) (st : List Value) (M : MM) : Prop :=
  ∀ (H : Heap) (locs : List Loc) (ls : Array Slot), gV g M H → va_S (gA g) s.heap H locs → H.size = gZ g + mn M → lv_has ls (yL Y) (rl ++ xlv g lv) → W p g.1 e R s m args below meth c H locs ce sl Q (F0 m pc ls (xst g st))
theorem rl_at {g : GG} {rl lv : List (Nat × Value)} {q i : Nat} {v : Value} (h : lv[q]? = some (i, v)) : (rl ++ xlv g lv)[rl.length + q]? = some (i, xv (gB g) v) := by
  rw [List.getElem?_append_right (Nat.le_add_right _ _), Nat.add_sub_cancel_left]
  exact xlv_at h
/-- behind a store -/
theorem rl_st {g : GG} {rl lv : List (Nat × Value)} {ls : Array Slot} {nL i : Nat} {v : Value} (hr : rl.all (fun q => !(q.1 == i) && !(q.1 + 1 == i && q.2.category == 2)) = true) (h : lv_has ls nL ((i, xv (gB g) v) :: (rl ++ xlv g lv).filter (fun q => !(q.1 == i) && !(q.1 + 1 == i && q.2.category == 2)))) : lv_has ls nL (rl ++ xlv g (xs1 lv i v)) := by
  refine ⟨h.1, h.2.1, fun q hq => h.2.2 q ?_⟩
  rw [List.filter_append]
  rcases List.mem_append.mp hq with z | z
  · exact List.mem_cons_of_mem _ (List.mem_append_left _ (List.mem_filter.mpr ⟨z, List.all_eq_true.mp hr q z⟩))
  · rw [← xs1_m] at z
    rcases List.mem_cons.mp z with y | y
    · rw [y]; exact List.mem_cons_self
    · exact List.mem_cons_of_mem _ (List.mem_append_right _ y)
section EQR
variable {g : GG} {Y : YY} {p : Program} {e : Env} {s : State} {m : MethodId} {args : Array Value} {below : List Frame} {meth : Method} {c : Code} {R : Room} {Q : State → Prop} {rl : List (Nat × Value)} {ce sl pc : Nat} {lv : List (Nat × Value)} {st : List Value} {M : MM}
theorem EQ.sub {lv' : List (Nat × Value)} (ks : List Nat) (h : EQ g Y p e s m args below meth c R Q rl ce sl pc lv' st M) (hk : lv_pick lv ks = lv') : EQ g Y p e s m args below meth c R Q rl ce sl pc lv st M := by
  intro H locs ls hP hS hz hl
  refine h H locs ls hP hS hz ⟨hl.1, hl.2.1, fun q hq => hl.2.2 q ?_⟩
  rcases List.mem_append.mp hq with z | z
  · exact List.mem_append_left _ z
  · refine List.mem_append_right _ ?_
    obtain ⟨y, hy, rfl⟩ := List.mem_map.mp z
    rw [← hk] at hy
    obtain ⟨k, -, hk2⟩ := List.mem_filterMap.mp hy
    exact List.mem_map.mpr ⟨y, List.mem_of_getElem? hk2, rfl⟩
theorem EQ.wid {ce2 sl2 : Nat} (h1 : ce ≤ ce2) (h2 : sl ≤ sl2) (k : EQ g Y p e s m args below meth c R Q rl ce2 sl2 pc lv st M) : EQ g Y p e s m args below meth c R Q rl ce sl pc lv st M := fun H locs ls hP hS hz hl => W.widen h1 h2 (k H locs ls hP hS hz hl)
/-- a call of a method with a contract over the same cells -/
theorem y_callV {idx b ci d1 mc1 ms1 : Nat} {As st0 : List Value} {P1 : Option Value → MM → Prop} (C : xC g Y p s m args meth c) (Z : YY) (F : CV (yN Y).cls idx Z) (hd : decode (yC Y) pc = .ok (.invokevirtual idx, 3)) (hst : st0 = As.reverse ++ .ref b :: st) (hn : As.length = yA Z) (hb : b < mn M) (hs : mh M b = (0, ci)) (hci : vwCl[ci]?.map (fun r => r.1) = some (yN Z).cls) (hf : ce + mc1 ≤ R.cells ∧ sl + ms1 ≤ R.slots) (hR : d1 + 1 ≤ R.frames ∧ 40 * (d1 + 1) ≤ R.locals) (hw : (st.map fun v => v.category).sum ≤ 8)
    (hM : RT g Z d1 mc1 ms1 (.ref b :: As) M P1) (k : ∀ rv M1, P1 rv M1 → EQ g Y p e s m args below meth c R Q rl (ce + mc1) (sl + ms1) (pc + 3) lv (rv.toList ++ st) M1) : EQ g Y p e s m args below meth c R Q rl ce sl pc lv st0 M := by
  intro H locs ls hP hS hz hl
  subst hst
  have hK := C.2.2.2.2.2.2.2.2.1.1
  have hpre := x_pre (av := .ref b :: As) C.2.2.2.2.2.2.2.2.1 C.2.2.2.2.2.2.2.2.2 hS hP hz
  have he := mW_at g M hb
  rw [mE_ob hs] at he
  obtain ⟨r, hr⟩ : ∃ r, vwCl[ci]? = some r := by
    cases h : vwCl[ci]? with
    | none => rw [h] at hci; cases hci
    | some r => exact ⟨r, rfl⟩
  rw [hr] at hci
  have hrn : r.1 = (yN Z).cls := Option.some.inj hci
  have hrecv := va_recv hK hP hr he
  rw [hrn] at hrecv
  refine w_callV (As := xst g As) (b := gB g + b) (rest := xst g st) Z F C.1 C.2.1 C.2.2.1 C.2.2.2.1 C.2.2.2.2.1 hM ⟨hpre.1, hrecv, hpre.2⟩ hl.1 (by rw [List.length_map]; exact hn) (by simp [xst, xv]) (by rw [x_sum]; exact hw) hd hf hR hS ?_
  intro rv M1 H1 locs1 hp hP1 hS1 hz1
  have e3 : xst g (rv.toList ++ st) = (rv.map (xv (gB g))).toList ++ xst g st := by cases rv <;> simp
  rw [← e3]
  exact k rv M1 hp H1 locs1 ls hP1 hS1 hz1 hl
theorem y_callS {idx d1 mc1 ms1 : Nat} {As st0 : List Value} {P1 : Option Value → MM → Prop} (C : xC g Y p s m args meth c) (Z : YY) (F : CS (yN Y).cls idx Z) (hd : decode (yC Y) pc = .ok (.invokestatic idx, 3)) (hst : st0 = As.reverse ++ st) (hn : As.length = yA Z) (hf : ce + mc1 ≤ R.cells ∧ sl + ms1 ≤ R.slots) (hR : d1 + 1 ≤ R.frames ∧ 40 * (d1 + 1) ≤ R.locals) (hw : (st.map fun v => v.category).sum ≤ 8)
    (hM : RT g Z d1 mc1 ms1 As M P1) (k : ∀ rv M1, P1 rv M1 → EQ g Y p e s m args below meth c R Q rl (ce + mc1) (sl + ms1) (pc + 3) lv (rv.toList ++ st) M1) : EQ g Y p e s m args below meth c R Q rl ce sl pc lv st0 M := by
  intro H locs ls hP hS hz hl
  subst hst
  have hpre := x_pre (av := As) C.2.2.2.2.2.2.2.2.1 C.2.2.2.2.2.2.2.2.2 hS hP hz
  refine w_callS (As := xst g As) (rest := xst g st) Z F C.1 C.2.1 C.2.2.1 C.2.2.2.1 C.2.2.2.2.1 hM hpre hl.1 (by rw [List.length_map]; exact hn) (by simp [xst]) (by rw [x_sum]; exact hw) hd hf hR hS ?_
  intro rv M1 H1 locs1 hp hP1 hS1 hz1
  have e3 : xst g (rv.toList ++ st) = (rv.map (xv (gB g))).toList ++ xst g st := by cases rv <;> simp
  rw [← e3]
  exact k rv M1 hp H1 locs1 ls hP1 hS1 hz1 hl
theorem y_iconst {n : Int} {v : Int32} (C : xC g Y p s m args meth c) (hd : decode (yC Y) pc = .ok (.iconst n, 1)) (hv : Int32.ofInt n = v) (k : EQ g Y p e s m args below meth c R Q rl ce sl (pc + 1) lv (.int v :: st) M) : EQ g Y p e s m args below meth c R Q rl ce sl pc lv (st) M := by
  intro H locs ls hP hS hz hl
  exact lv_iconst C.1 C.2.1 hd hv (k H locs ls hP hS hz hl)
theorem y_bipush {n : Int} {v : Int32} (C : xC g Y p s m args meth c) (hd : decode (yC Y) pc = .ok (.bipush n, 2)) (hv : (Int8.ofInt n).toInt32 = v) (k : EQ g Y p e s m args below meth c R Q rl ce sl (pc + 2) lv (.int v :: st) M) : EQ g Y p e s m args below meth c R Q rl ce sl pc lv (st) M := by
  intro H locs ls hP hS hz hl
  exact lv_bipush C.1 C.2.1 hd hv (k H locs ls hP hS hz hl)
theorem y_sipush {n : Int} {v : Int32} (C : xC g Y p s m args meth c) (hd : decode (yC Y) pc = .ok (.sipush n, 3)) (hv : (Int16.ofInt n).toInt32 = v) (k : EQ g Y p e s m args below meth c R Q rl ce sl (pc + 3) lv (.int v :: st) M) : EQ g Y p e s m args below meth c R Q rl ce sl pc lv (st) M := by
  intro H locs ls hP hS hz hl
  exact lv_sipush C.1 C.2.1 hd hv (k H locs ls hP hS hz hl)
theorem y_iadd {x y : Int32} (C : xC g Y p s m args meth c) (hd : decode (yC Y) pc = .ok (.iadd, 1))  (k : EQ g Y p e s m args below meth c R Q rl ce sl (pc + 1) lv (.int (x + y) :: st) M) : EQ g Y p e s m args below meth c R Q rl ce sl pc lv (.int y :: .int x :: st) M := by
  intro H locs ls hP hS hz hl
  exact lv_iadd C.1 C.2.1 hd  (k H locs ls hP hS hz hl)
theorem y_isub {x y : Int32} (C : xC g Y p s m args meth c) (hd : decode (yC Y) pc = .ok (.isub, 1))  (k : EQ g Y p e s m args below meth c R Q rl ce sl (pc + 1) lv (.int (x - y) :: st) M) : EQ g Y p e s m args below meth c R Q rl ce sl pc lv (.int y :: .int x :: st) M := by
  intro H locs ls hP hS hz hl
  exact lv_isub C.1 C.2.1 hd  (k H locs ls hP hS hz hl)
theorem y_iand {x y : Int32} (C : xC g Y p s m args meth c) (hd : decode (yC Y) pc = .ok (.iand, 1))  (k : EQ g Y p e s m args below meth c R Q rl ce sl (pc + 1) lv (.int (x &&& y) :: st) M) : EQ g Y p e s m args below meth c R Q rl ce sl pc lv (.int y :: .int x :: st) M := by
  intro H locs ls hP hS hz hl
  exact lv_iand C.1 C.2.1 hd  (k H locs ls hP hS hz hl)
theorem y_land {x y : Int64} (C : xC g Y p s m args meth c) (hd : decode (yC Y) pc = .ok (.land, 1))  (k : EQ g Y p e s m args below meth c R Q rl ce sl (pc + 1) lv (.long (x &&& y) :: st) M) : EQ g Y p e s m args below meth c R Q rl ce sl pc lv (.long y :: .long x :: st) M := by
  intro H locs ls hP hS hz hl
  exact lv_land C.1 C.2.1 hd  (k H locs ls hP hS hz hl)
theorem y_lor {x y : Int64} (C : xC g Y p s m args meth c) (hd : decode (yC Y) pc = .ok (.lor, 1))  (k : EQ g Y p e s m args below meth c R Q rl ce sl (pc + 1) lv (.long (x ||| y) :: st) M) : EQ g Y p e s m args below meth c R Q rl ce sl pc lv (.long y :: .long x :: st) M := by
  intro H locs ls hP hS hz hl
  exact lv_lor C.1 C.2.1 hd  (k H locs ls hP hS hz hl)
theorem y_lshl {x : Int64} {y : Int32} (C : xC g Y p s m args meth c) (hd : decode (yC Y) pc = .ok (.lshl, 1))  (k : EQ g Y p e s m args below meth c R Q rl ce sl (pc + 1) lv (.long (x <<< (y.toInt64 &&& 63)) :: st) M) : EQ g Y p e s m args below meth c R Q rl ce sl pc lv (.int y :: .long x :: st) M := by
  intro H locs ls hP hS hz hl
  exact lv_lshl C.1 C.2.1 hd rfl (k H locs ls hP hS hz hl)
theorem y_lcmp {x y : Int64} (C : xC g Y p s m args meth c) (hd : decode (yC Y) pc = .ok (.lcmp, 1))  (k : EQ g Y p e s m args below meth c R Q rl ce sl (pc + 1) lv (.int (lg_cmp x y) :: st) M) : EQ g Y p e s m args below meth c R Q rl ce sl pc lv (.long y :: .long x :: st) M := by
  intro H locs ls hP hS hz hl
  exact W.lcmp C.1 C.2.1 hd  (k H locs ls hP hS hz hl)
theorem y_i2l {x : Int32} (C : xC g Y p s m args meth c) (hd : decode (yC Y) pc = .ok (.i2l, 1))  (k : EQ g Y p e s m args below meth c R Q rl ce sl (pc + 1) lv (.long x.toInt64 :: st) M) : EQ g Y p e s m args below meth c R Q rl ce sl pc lv (.int x :: st) M := by
  intro H locs ls hP hS hz hl
  exact lv_i2l C.1 C.2.1 hd rfl (k H locs ls hP hS hz hl)
theorem y_dup {v : Value} (C : xC g Y p s m args meth c) (hd : decode (yC Y) pc = .ok (.dup, 1)) (hc : v.category = 1) (k : EQ g Y p e s m args below meth c R Q rl ce sl (pc + 1) lv (v :: v :: st) M) : EQ g Y p e s m args below meth c R Q rl ce sl pc lv (v :: st) M := by
  intro H locs ls hP hS hz hl
  exact lv_dup C.1 C.2.1 hd (by rw [xv_cat]; exact hc) (k H locs ls hP hS hz hl)
theorem y_iload {i : Nat} {x : Int32} (C : xC g Y p s m args meth c) (hd : decode (yC Y) pc = .ok (.iload i, 2)) (q : Nat) (h : lv[q]? = some (i, .int x)) (k : EQ g Y p e s m args below meth c R Q rl ce sl (pc + 2) lv (.int x :: st) M) : EQ g Y p e s m args below meth c R Q rl ce sl pc lv st M := by
  intro H locs ls hP hS hz hl
  exact lv_iload C.1 C.2.1 hd (lv_at hl (rl.length + q) (rl_at h)) (k H locs ls hP hS hz hl)
theorem y_iload_n {i : Fin 4} {x : Int32} (C : xC g Y p s m args meth c) (hd : decode (yC Y) pc = .ok (.iload_n i, 1)) (q : Nat) (h : lv[q]? = some ((i : Nat), .int x)) (k : EQ g Y p e s m args below meth c R Q rl ce sl (pc + 1) lv (.int x :: st) M) : EQ g Y p e s m args below meth c R Q rl ce sl pc lv st M := by
  intro H locs ls hP hS hz hl
  exact lv_iload_n C.1 C.2.1 hd rfl (lv_at hl (rl.length + q) (rl_at h)) (k H locs ls hP hS hz hl)
theorem y_istore {i : Nat} {x : Int32} {lv1 : List (Nat × Value)} (C : xC g Y p s m args meth c) (hd : decode (yC Y) pc = .ok (.istore i, 2)) (hn : i < yL Y) (hrl : rl.all (fun q => !(q.1 == (i : Nat)) && !(q.1 + 1 == (i : Nat) && q.2.category == 2)) = true) (h : xs1 lv i (.int x) = lv1) (k : EQ g Y p e s m args below meth c R Q rl ce sl (pc + 2) lv1 st M) : EQ g Y p e s m args below meth c R Q rl ce sl pc lv (.int x :: st) M := by
  intro H locs ls hP hS hz hl
  subst h
  exact lv_istore C.1 C.2.1 hd hl hn rfl (fun ls1 hl1 => k H locs ls1 hP hS hz (rl_st (v := .int x) hrl hl1))
theorem y_istore_n {i : Fin 4} {x : Int32} {lv1 : List (Nat × Value)} (C : xC g Y p s m args meth c) (hd : decode (yC Y) pc = .ok (.istore_n i, 1)) (hn : (i : Nat) < yL Y) (hrl : rl.all (fun q => !(q.1 == (i : Nat)) && !(q.1 + 1 == (i : Nat) && q.2.category == 2)) = true) (h : xs1 lv (i : Nat) (.int x) = lv1) (k : EQ g Y p e s m args below meth c R Q rl ce sl (pc + 1) lv1 st M) : EQ g Y p e s m args below meth c R Q rl ce sl pc lv (.int x :: st) M := by
  intro H locs ls hP hS hz hl
  subst h
  exact lv_istore_n C.1 C.2.1 hd rfl hl hn rfl (fun ls1 hl1 => k H locs ls1 hP hS hz (rl_st (v := .int x) hrl hl1))
theorem y_aload {i : Nat} {x : Nat} (C : xC g Y p s m args meth c) (hd : decode (yC Y) pc = .ok (.aload i, 2)) (q : Nat) (h : lv[q]? = some (i, .ref x)) (k : EQ g Y p e s m args below meth c R Q rl ce sl (pc + 2) lv (.ref x :: st) M) : EQ g Y p e s m args below meth c R Q rl ce sl pc lv st M := by
  intro H locs ls hP hS hz hl
  exact lv_aload C.1 C.2.1 hd (lv_at hl (rl.length + q) (rl_at h)) (k H locs ls hP hS hz hl)
theorem y_aload_n {i : Fin 4} {x : Nat} (C : xC g Y p s m args meth c) (hd : decode (yC Y) pc = .ok (.aload_n i, 1)) (q : Nat) (h : lv[q]? = some ((i : Nat), .ref x)) (k : EQ g Y p e s m args below meth c R Q rl ce sl (pc + 1) lv (.ref x :: st) M) : EQ g Y p e s m args below meth c R Q rl ce sl pc lv st M := by
  intro H locs ls hP hS hz hl
  exact lv_aload_n C.1 C.2.1 hd rfl (lv_at hl (rl.length + q) (rl_at h)) (k H locs ls hP hS hz hl)
theorem y_astore {i : Nat} {x : Nat} {lv1 : List (Nat × Value)} (C : xC g Y p s m args meth c) (hd : decode (yC Y) pc = .ok (.astore i, 2)) (hn : i < yL Y) (hrl : rl.all (fun q => !(q.1 == (i : Nat)) && !(q.1 + 1 == (i : Nat) && q.2.category == 2)) = true) (h : xs1 lv i (.ref x) = lv1) (k : EQ g Y p e s m args below meth c R Q rl ce sl (pc + 2) lv1 st M) : EQ g Y p e s m args below meth c R Q rl ce sl pc lv (.ref x :: st) M := by
  intro H locs ls hP hS hz hl
  subst h
  exact lv_astore C.1 C.2.1 hd hl hn rfl (fun ls1 hl1 => k H locs ls1 hP hS hz (rl_st (v := .ref x) hrl hl1))
theorem y_astore_n {i : Fin 4} {x : Nat} {lv1 : List (Nat × Value)} (C : xC g Y p s m args meth c) (hd : decode (yC Y) pc = .ok (.astore_n i, 1)) (hn : (i : Nat) < yL Y) (hrl : rl.all (fun q => !(q.1 == (i : Nat)) && !(q.1 + 1 == (i : Nat) && q.2.category == 2)) = true) (h : xs1 lv (i : Nat) (.ref x) = lv1) (k : EQ g Y p e s m args below meth c R Q rl ce sl (pc + 1) lv1 st M) : EQ g Y p e s m args below meth c R Q rl ce sl pc lv (.ref x :: st) M := by
  intro H locs ls hP hS hz hl
  subst h
  exact lv_astore_n C.1 C.2.1 hd rfl hl hn rfl (fun ls1 hl1 => k H locs ls1 hP hS hz (rl_st (v := .ref x) hrl hl1))
theorem y_iinc {i : Nat} {n : Int} {x v : Int32} {lv1 : List (Nat × Value)} (C : xC g Y p s m args meth c) (hd : decode (yC Y) pc = .ok (.iinc i n, 3)) (q : Nat) (h0 : lv[q]? = some (i, .int x)) (hv : x + Int32.ofInt n = v) (hn : i < yL Y) (hrl : rl.all (fun q => !(q.1 == (i : Nat)) && !(q.1 + 1 == (i : Nat) && q.2.category == 2)) = true) (h : xs1 lv i (.int v) = lv1) (k : EQ g Y p e s m args below meth c R Q rl ce sl (pc + 3) lv1 st M) : EQ g Y p e s m args below meth c R Q rl ce sl pc lv st M := by
  intro H locs ls hP hS hz hl
  subst h
  exact lv_iinc (k := rl.length + q) C.1 C.2.1 hd hl (rl_at h0) hv hn rfl (fun ls1 hl1 => k H locs ls1 hP hS hz (rl_st (v := .int v) hrl hl1))
theorem y_if_eq {x : Int32} {off : Int} (C : xC g Y p s m args meth c) (tgt : Nat) (hd : decode (yC Y) pc = .ok (.ifCond .eq off, 3)) (ht : (pc : Int) + off = (tgt : Int)) (kt : x = 0 → EQ g Y p e s m args below meth c R Q rl ce sl tgt lv st M) (kf : ¬ (x = 0) → EQ g Y p e s m args below meth c R Q rl ce sl (pc + 3) lv st M) : EQ g Y p e s m args below meth c R Q rl ce sl pc lv (.int x :: st) M := by
  intro H locs ls hP hS hz hl
  exact lv_if_eq C.1 C.2.1 hd ht (fun q => kt q H locs ls hP hS hz hl) (fun q => kf q H locs ls hP hS hz hl)
theorem y_ic_eq {x y : Int32} {off : Int} (C : xC g Y p s m args meth c) (tgt : Nat) (hd : decode (yC Y) pc = .ok (.if_icmp .eq off, 3)) (ht : (pc : Int) + off = (tgt : Int)) (kt : x = y → EQ g Y p e s m args below meth c R Q rl ce sl tgt lv st M) (kf : ¬ (x = y) → EQ g Y p e s m args below meth c R Q rl ce sl (pc + 3) lv st M) : EQ g Y p e s m args below meth c R Q rl ce sl pc lv (.int y :: .int x :: st) M := by
  intro H locs ls hP hS hz hl
  exact lv_icmp_eq C.1 C.2.1 hd ht (fun q => kt q H locs ls hP hS hz hl) (fun q => kf q H locs ls hP hS hz hl)
theorem y_if_ne {x : Int32} {off : Int} (C : xC g Y p s m args meth c) (tgt : Nat) (hd : decode (yC Y) pc = .ok (.ifCond .ne off, 3)) (ht : (pc : Int) + off = (tgt : Int)) (kt : ¬ x = 0 → EQ g Y p e s m args below meth c R Q rl ce sl tgt lv st M) (kf : x = 0 → EQ g Y p e s m args below meth c R Q rl ce sl (pc + 3) lv st M) : EQ g Y p e s m args below meth c R Q rl ce sl pc lv (.int x :: st) M := by
  intro H locs ls hP hS hz hl
  exact lv_if_ne C.1 C.2.1 hd ht (fun q => kt q H locs ls hP hS hz hl) (fun q => kf q H locs ls hP hS hz hl)
theorem y_ic_ne {x y : Int32} {off : Int} (C : xC g Y p s m args meth c) (tgt : Nat) (hd : decode (yC Y) pc = .ok (.if_icmp .ne off, 3)) (ht : (pc : Int) + off = (tgt : Int)) (kt : ¬ x = y → EQ g Y p e s m args below meth c R Q rl ce sl tgt lv st M) (kf : x = y → EQ g Y p e s m args below meth c R Q rl ce sl (pc + 3) lv st M) : EQ g Y p e s m args below meth c R Q rl ce sl pc lv (.int y :: .int x :: st) M := by
  intro H locs ls hP hS hz hl
  exact lv_icmp_ne C.1 C.2.1 hd ht (fun q => kt q H locs ls hP hS hz hl) (fun q => kf q H locs ls hP hS hz hl)
theorem y_ic_lt {x y : Int32} {off : Int} (C : xC g Y p s m args meth c) (tgt : Nat) (hd : decode (yC Y) pc = .ok (.if_icmp .lt off, 3)) (ht : (pc : Int) + off = (tgt : Int)) (kt : x < y → EQ g Y p e s m args below meth c R Q rl ce sl tgt lv st M) (kf : ¬ (x < y) → EQ g Y p e s m args below meth c R Q rl ce sl (pc + 3) lv st M) : EQ g Y p e s m args below meth c R Q rl ce sl pc lv (.int y :: .int x :: st) M := by
  intro H locs ls hP hS hz hl
  exact lv_icmp_lt C.1 C.2.1 hd ht (fun q => kt q H locs ls hP hS hz hl) (fun q => kf q H locs ls hP hS hz hl)
theorem y_ic_ge {x y : Int32} {off : Int} (C : xC g Y p s m args meth c) (tgt : Nat) (hd : decode (yC Y) pc = .ok (.if_icmp .ge off, 3)) (ht : (pc : Int) + off = (tgt : Int)) (kt : y ≤ x → EQ g Y p e s m args below meth c R Q rl ce sl tgt lv st M) (kf : ¬ (y ≤ x) → EQ g Y p e s m args below meth c R Q rl ce sl (pc + 3) lv st M) : EQ g Y p e s m args below meth c R Q rl ce sl pc lv (.int y :: .int x :: st) M := by
  intro H locs ls hP hS hz hl
  exact lv_icmp_ge C.1 C.2.1 hd ht (fun q => kt q H locs ls hP hS hz hl) (fun q => kf q H locs ls hP hS hz hl)
theorem y_ic_gt {x y : Int32} {off : Int} (C : xC g Y p s m args meth c) (tgt : Nat) (hd : decode (yC Y) pc = .ok (.if_icmp .gt off, 3)) (ht : (pc : Int) + off = (tgt : Int)) (kt : y < x → EQ g Y p e s m args below meth c R Q rl ce sl tgt lv st M) (kf : ¬ (y < x) → EQ g Y p e s m args below meth c R Q rl ce sl (pc + 3) lv st M) : EQ g Y p e s m args below meth c R Q rl ce sl pc lv (.int y :: .int x :: st) M := by
  intro H locs ls hP hS hz hl
  exact lv_icmp_gt C.1 C.2.1 hd ht (fun q => kt q H locs ls hP hS hz hl) (fun q => kf q H locs ls hP hS hz hl)
theorem y_ic_le {x y : Int32} {off : Int} (C : xC g Y p s m args meth c) (tgt : Nat) (hd : decode (yC Y) pc = .ok (.if_icmp .le off, 3)) (ht : (pc : Int) + off = (tgt : Int)) (kt : x ≤ y → EQ g Y p e s m args below meth c R Q rl ce sl tgt lv st M) (kf : ¬ (x ≤ y) → EQ g Y p e s m args below meth c R Q rl ce sl (pc + 3) lv st M) : EQ g Y p e s m args below meth c R Q rl ce sl pc lv (.int y :: .int x :: st) M := by
  intro H locs ls hP hS hz hl
  exact lv_icmp_le C.1 C.2.1 hd ht (fun q => kt q H locs ls hP hS hz hl) (fun q => kf q H locs ls hP hS hz hl)
theorem y_goto {off : Int} (C : xC g Y p s m args meth c) (tgt : Nat) (hd : decode (yC Y) pc = .ok (.goto off, 3)) (ht : (pc : Int) + off = (tgt : Int)) (k : EQ g Y p e s m args below meth c R Q rl ce sl tgt lv st M) : EQ g Y p e s m args below meth c R Q rl ce sl pc lv st M := by
  intro H locs ls hP hS hz hl
  exact lv_goto C.1 C.2.1 hd ht (k H locs ls hP hS hz hl)
theorem y_tabOut {dflt lo hi : Int} {offs : Array Int} {len : Nat} {x : Int32} (C : xC g Y p s m args meth c) (tgt : Nat) (hd : decode (yC Y) pc = .ok (.tableswitch dflt lo hi offs, len)) (h : x.toInt < lo ∨ hi < x.toInt) (ht : (pc : Int) + dflt = (tgt : Int)) (k : EQ g Y p e s m args below meth c R Q rl ce sl tgt lv st M) : EQ g Y p e s m args below meth c R Q rl ce sl pc lv (.int x :: st) M := by
  intro H locs ls hP hS hz hl
  exact lv_tableOut C.1 C.2.1 hd h ht (k H locs ls hP hS hz hl)
theorem y_tabIn {dflt lo hi off : Int} {offs : Array Int} {len : Nat} {x : Int32} (C : xC g Y p s m args meth c) (tgt : Nat) (hd : decode (yC Y) pc = .ok (.tableswitch dflt lo hi offs, len)) (h1 : ¬ x.toInt < lo) (h2 : ¬ hi < x.toInt) (ho : offs[(x.toInt - lo).toNat]? = some off) (ht : (pc : Int) + off = (tgt : Int)) (k : EQ g Y p e s m args below meth c R Q rl ce sl tgt lv st M) : EQ g Y p e s m args below meth c R Q rl ce sl pc lv (.int x :: st) M := by
  intro H locs ls hP hS hz hl
  exact lv_tableIn C.1 C.2.1 hd h1 h2 ho ht (k H locs ls hP hS hz hl)
theorem y_ldc2 {idx : Nat} {v : Int64} (C : xC g Y p s m args meth c) (hd : decode (yC Y) pc = .ok (.ldc2_w idx, 3)) (hc : Cond.constantLong (yN Y).cls idx v ∈ gw) (k : EQ g Y p e s m args below meth c R Q rl ce sl (pc + 3) lv (.long v :: st) M) : EQ g Y p e s m args below meth c R Q rl ce sl pc lv st M := by
  intro H locs ls hP hS hz hl
  exact lv_ldc2 C.1 C.2.1 C.2.2.2.1 (C.2.2.2.2.1 _ hc) hd (k H locs ls hP hS hz hl)
theorem y_lald {a n : Nat} {i : Int32} (C : xC g Y p s m args meth c) (hd : decode (yC Y) pc = .ok (.laload, 1)) (ha : a < mn M) (hs : mh M a = (2, n)) (hi : vp_in i n) (k : EQ g Y p e s m args below meth c R Q rl ce sl (pc + 1) lv (.long (mj M a i.toNatClampNeg) :: st) M) : EQ g Y p e s m args below meth c R Q rl ce sl pc lv (.int i :: .ref a :: st) M := by
  intro H locs ls hP hS hz hl
  have h1 := mW_at g M ha
  rw [mE_j hs] at h1
  exact va_lald C.1 C.2.1 C.2.2.2.2.2.2.2.2.1.1 hP a 1 h1 rfl hi hd (k H locs ls hP hS hz hl)
theorem y_last {a n : Nat} {i : Int32} {x : Int64} (C : xC g Y p s m args meth c) (hd : decode (yC Y) pc = .ok (.lastore, 1)) (ha : a < mn M) (hs : mh M a = (2, n)) (hi : vp_in i n) (k : EQ g Y p e s m args below meth c R Q rl ce sl (pc + 1) lv st (wj M a i.toNatClampNeg x)) : EQ g Y p e s m args below meth c R Q rl ce sl pc lv (.long x :: .int i :: .ref a :: st) M := by
  intro H locs ls hP hS hz hl
  have h1 := mW_at g M ha
  rw [mE_j hs] at h1
  have h2 : mE (gB g) g.2.2.2 (wj M a i.toNatClampNeg x) a = .inl (g.2.2.2 2, n, .inr (.inl (vp_updL (mj M a) i.toNatClampNeg x))) := by
    rw [mE_j (M := (wj M a i.toNatClampNeg x)) hs]
    exact congrArg (fun f => Sum.inl (g.2.2.2 2, n, Sum.inr (Sum.inl f))) (mu_updL _ _ _ _)
  have h3 := mW_set (g := g) (M := M) (M' := (wj M a i.toNatClampNeg x)) ha rfl h2 (fun b hb => mE_wj hb)
  refine W.last C.1 C.2.1 (hP a _ h1) ((C.2.2.2.2.2.2.2.2.1.1.2 1 _ rfl).1 n (fun j => .long (mj M a j))) (fun q => by cases q) (by show ¬ (i < 0 ∨ (arrV _ _ _).slots.size ≤ _); rw [arrV_size]; exact hi) rfl rfl hd fun H1 e1 z oq => ?_
  have hP1 := va_P.set hP (mD g M) h1 (e := .inl (g.2.2.2 2, n, .inr (.inl (vp_updL (mj M a) i.toNatClampNeg x)))) (by
    show H1[gB g + a]? = some (vp_cell _ _)
    rw [e1]
    rw [vp_cell_l, vp_cell_l, arrV_store]
    congr 2
    funext q
    by_cases hq : q = i.toNatClampNeg
    · subst hq
      simp [updV, vp_updL]
    · simp [updV, vp_updL, hq]) oq
  rw [h3] at hP1
  exact k H1 _ ls hP1 (hS.put z oq (Nat.le_add_right _ _)) (z.trans hz) hl
end EQR
