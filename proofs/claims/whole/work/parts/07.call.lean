/-! ===== new objects, calls, returns over EX ===== -/
/-- a class that can be made here -/
def CN (own : String) (idx ci : Nat) : Prop :=
  ∃ (C : String) (T : u_T), vwCl[ci]? = some (C, T, mN ci) ∧ (∀ w ∈ u_ws C T (mN ci), w ∈ gw) ∧ (∀ j, j < mN ci → parseFieldDescriptor (T j).2.2.1 = some (mty ci j)) ∧ (∀ j, j < mN ci → mk ci j < 3) ∧ Cond.classLink own idx C ∈ gw ∧ Cond.instantiable C (mN ci) ∈ gw ∧ Cond.initialized C ∈ gw
/-- what each call of a method needs -/
def CB (Y : YY) : Prop := Cond.initialized (yN Y).cls ∈ gw ∧ yK Y ∈ gw ∧ ((yN Y).cls ≠ "java/lang/invoke/MethodHandle" ∧ (yN Y).cls ≠ "java/lang/invoke/VarHandle" ∧ (parseMethodDescriptor (yN Y).desc).map (fun d => d.parameters.length) = some (yA Y)) ∧ yL Y ≤ 21
def CV (own : String) (idx : Nat) (Y : YY) : Prop := CB Y ∧ Cond.methodLink own idx (yN Y) ∈ gw ∧ Cond.instanceMethod (yN Y) ∈ gw ∧ Cond.selects (yN Y).cls (yN Y) (yN Y) ∈ gw
def CS (own : String) (idx : Nat) (Y : YY) : Prop := CB Y ∧ Cond.methodLink own idx (yN Y) ∈ gw ∧ Cond.static (yN Y) ∈ gw
def CI (own : String) (idx : Nat) (Y : YY) : Prop := CB Y ∧ Cond.methodLink own idx (yN Y) ∈ gw ∧ Cond.instanceMethod (yN Y) ∈ gw ∧ (yN Y).name = "<init>" ∧ yR Y = none
def CIN (own : String) (idx : Nat) (Y : YY) : Prop := CB Y ∧ Cond.methodLinkNest own idx (yN Y) RX11 ∈ lw_tbl ∧ Cond.instanceMethod (yN Y) ∈ gw ∧ (yN Y).name = "<init>" ∧ yR Y = none
section EXC
variable {g : GG} {Y Z : YY} {d mc ms ce sl pc : Nat} {lv : List (Nat × Value)} {st : List Value} {M : MM} {P P1 : Option Value → MM → Prop}
theorem x_new (hJ : gJ g = 0) {idx ci N : Nat} (hN : N = mN ci) (F : CN (yN Y).cls idx ci) (hd : decode (yC Y) pc = .ok (.new idx, 3)) (hc : ce + 1 ≤ mc) (hsl : sl + N ≤ ms) (k : EX g Y d mc ms (ce + 1) (sl + N) (pc + 3) lv (.ref (mn M) :: st) (mw M (0, ci)) P) : EX g Y d mc ms ce sl pc lv st M P := by
  intro p e s m args below meth c H locs ls C hP hS hz0 hl
  have hz : H.size = gB g + mn M := by rw [hz0]; show gJ g + gB g + mn M = _; rw [hJ]; omega
  have hK := C.2.2.2.2.2.2.2.2.1.1
  have hts := C.2.2.2.2.1
  subst hN
  obtain ⟨CNm, T, hcl, hin, hty, hkd, w1, w2, w3⟩ := F
  have hKn := hK.1 ci _ hcl
  refine W.newcK C.1 C.2.1 C.2.2.2.1 (hts _ w1) (hts _ w2) (hts _ w3) rfl hd hc hsl hKn.2.1 hz fun H1 kC hkC e1 z1 o1 => ?_
  have o1' : ∀ q, q < H.size → H1[q]? = H[q]? := fun q h => o1 q (by rw [← hz]; exact h)
  have hh : mh (mw M (0, ci)) (mn M) = (0, ci) := if_pos rfl
  have hP1 : gV g (mw M (0, ci)) H1 := by
    refine mW_new hP hz (mE_ob hh) ⟨_, hcl, (u_born (mty ci) hts hin hKn hkC e1 hty).to (fun j hj => ?_)⟩ o1'
    unfold vp_V
    rw [List.getD_eq_getElem?_getD, mF_at hj]
    have h3 := hkd j hj
    have ei : mi (mw M (0, ci)) (mn M) j = 0 := if_pos rfl
    have ej : mj (mw M (0, ci)) (mn M) j = 0 := if_pos rfl
    have er : mr (mw M (0, ci)) (mn M) j = none := if_pos rfl
    unfold mfv
    rw [ei, ej, er]
    unfold mk at h3 ⊢
    generalize mty ci j = t at h3 ⊢
    cases t <;> first | rfl | (exfalso; revert h3; decide)
  exact k p e s m args below meth c H1 locs ls C hP1 (mw_S hS (by rw [z1, hz]) o1') (by rw [z1]; show gB g + mn M + 1 = gJ g + gB g + (mn M + 1); omega) hl
theorem x_objInit {idx a : Nat} (hd : decode (yC Y) pc = .ok (.invokespecial idx, 3)) (w1 : Cond.methodLink (yN Y).cls idx objectInit ∈ gw) (w2 : Cond.instanceMethod objectInit ∈ gw) (w3 : Cond.code objectInit ⟨#[0xb1]⟩ 1 none ∈ gw) (hdd : 1 ≤ d) (hw : (st.map fun v => v.category).sum ≤ 8) (k : EX g Y d mc ms ce sl (pc + 3) lv st M P) : EX g Y d mc ms ce sl pc lv (.ref a :: st) M P := by
  intro p e s m args below meth c H locs ls C hP hS hz hl
  have hts := C.2.2.2.2.1
  have hsum : ((xst g st).map fun v => v.category).sum = (st.map fun v => v.category).sum := by
    rw [List.map_map]; congr 1; exact List.map_congr_left (fun v _ => xv_cat _ v)
  refine W.objInit C.1 C.2.1 C.2.2.2.1 (hts _ w1) (hts _ w2) (hts _ w3) rfl (hl.1.trans C.2.2.1.symm) rfl hd hdd ?_ (k p e s m args below meth c H locs ls C hP hS hz hl)
  show 2 * 0 + ((xst g st).map fun v => v.category).sum + 12 ≤ 40 * d
  rw [hsum]; omega
/-- behind a call -/
theorem x_after {mc1 ms1 : Nat} {st0 : List Value} {a : Array Value} (k : ∀ rv M1, P1 rv M1 → EX g Y d mc ms (ce + mc1) (sl + ms1) (pc + 3) lv (rv.toList ++ st) M1 P) {p : Program} {e : Env} {s : State} {m : MethodId} {args : Array Value} {below : List Frame} {meth : Method} {c : Code} {H : Heap} {locs : List Loc} {ls : Array Slot}
    (C : xC g Y p s m args meth c) (hS : va_S (gA g) s.heap H locs) (hl : lv_has ls (yL Y) (xlv g lv)) (hr : va_Run p g.1 e (xR d mc ms) s m args below meth c H locs ce sl mc1 ms1 (F0 m pc ls st0) (xst g st) (xQ g P1 a) (gA g)) :
    W p g.1 e (xR d mc ms) s m args below meth c H locs ce sl (MQ below (xQ g P) args s mc ms (gA g)) (F0 m pc ls st0) := by
  intro T hT X
  obtain ⟨v, st₀, t, T', L, h0, X', hL, e1, e2, ⟨⟨rv, M1, hv, hp, hV, hsz⟩, hz2, hk⟩, stp⟩ := hr T hT X
  have hv : v = rv.map (xv (gB g)) := by
    have := hv
    simpa using this
  rw [h0] at hz2 hk
  have hA : ∀ q : Nat, q < s.heap.size → ¬ gA g q → T'.heap[q]? = s.heap[q]? := fun q h1 h2 => by
    rw [e1, hk q (Nat.lt_of_lt_of_le h1 hS.1) h2]; exact hS.2.1 q h1 h2
  have kk := k rv M1 hp p e s m args below meth c T'.heap (locs ++ L) ls C (by rw [e1]; exact hV) ⟨Nat.le_trans hS.1 (by rw [e1]; exact hz2), hA, fun q hq => by
      rcases List.mem_append.mp hq with h | h
      · exact hS.2.2 q h
      · exact hL q h⟩ (by rw [e1]; exact hsz) hl T' rfl X'
  obtain ⟨t2, a1, b1⟩ := kk
  refine ⟨t2, stp t2 ?_, b1⟩
  have e3 : xst g (rv.toList ++ st) = v.toList ++ xst g st := by
    rw [hv]
    cases rv <;> simp
  rw [← e3]
  exact a1
theorem x_pre {av : List Value} {s : State} {H : Heap} {locs : List Loc} (hK : gK g s) (hb : gB g ≤ s.heap.size) (hS : va_S (gA g) s.heap H locs) (hP : gV g M H) (hz : H.size = gZ g + mn M) : PreS s H (va_Pc (xst g av) (fun U => U.heap.size = gZ g + mn M ∧ gV g M U.heap ∧ gK g U)) (xst g av) := by
  refine ⟨fun a U f mk q => ?_, fun U hU hW => ⟨rfl, by rw [hU]; exact hz, by rw [hU]; exact hP, va_K.moved hW.alike hK.1, hK.2.1.warm hW, hK.2.2.go hb hS hU hW⟩⟩
  obtain ⟨q0, q1, q2, q3⟩ := q
  exact ⟨q0, q1, q2, va_K.moved (u := U) (U := U.calling f mk a) (Vm.Alike.refl U.vm) q3.1, gN.same (s := U) (U := U.calling f mk a) rfl q3.2.1, q3.2.2⟩
theorem x_room {d1 d L : Nat} (hdd : d1 + 1 ≤ d) (hL : L ≤ 21) : 8 + (L + 11) + 40 * d1 ≤ 40 * d := by omega
theorem x_cb {own : String} {idx d1 mc1 ms1 : Nat} {s : State} {args : Array Value} (hb : CB Z) (hts : ∀ w ∈ gw, w.before args s = true) (hl : Cond.methodLink own idx (yN Z) ∈ gw) (hdd : d1 + 1 ≤ d) : CallB (xR d mc ms) s args own idx (yN Z) (yC Z) (yL Z) (yR Z) (yK Z :: gw) (xR d1 mc1 ms1) mc1 ms1 (yA Z) :=
  callB_of (Ts := gw) (ws' := gw) (yA Z) hts (gw_GoodIn hb.2.1) rfl rfl rfl (hts _ hb.1) (hts _ hl) hb.2.2.1 ⟨hdd, x_room hdd hb.2.2.2⟩
theorem x_sum (g : GG) (st : List Value) : ((xst g st).map fun v => v.category).sum = (st.map fun v => v.category).sum := by
  rw [List.map_map]; congr 1; exact List.map_congr_left (fun v _ => xv_cat _ v)
theorem x_callV {idx b ci d1 mc1 ms1 : Nat} {As st0 : List Value} (Z : YY) (F : CV (yN Y).cls idx Z) (hd : decode (yC Y) pc = .ok (.invokevirtual idx, 3)) (hst : st0 = As.reverse ++ .ref b :: st) (hn : As.length = yA Z) (hb : b < mn M) (hs : mh M b = (0, ci)) (hci : vwCl[ci]?.map (fun r => r.1) = some (yN Z).cls) (hdd : d1 + 1 ≤ d) (hce : ce + mc1 ≤ mc) (hsl : sl + ms1 ≤ ms) (hw : (st.map fun v => v.category).sum ≤ 8)
    (hR : RT g Z d1 mc1 ms1 (.ref b :: As) M P1) (k : ∀ rv M1, P1 rv M1 → EX g Y d mc ms (ce + mc1) (sl + ms1) (pc + 3) lv (rv.toList ++ st) M1 P) : EX g Y d mc ms ce sl pc lv st0 M P := by
  intro p e s m args below meth c H locs ls C hP hS hz hl
  have hK := C.2.2.2.2.2.2.2.2.1.1
  have hts := C.2.2.2.2.1
  obtain ⟨hb1, w1, w2, w3⟩ := F
  subst hst
  have hpre := x_pre (av := .ref b :: As) C.2.2.2.2.2.2.2.2.1 C.2.2.2.2.2.2.2.2.2 hS hP hz
  have he := mW_at g M hb
  rw [mE_ob hs] at he
  obtain ⟨r, hr⟩ : ∃ r, vwCl[ci]? = some r := by
    cases h : vwCl[ci]? with
    | none => rw [h] at hci; cases hci
    | some r => exact ⟨r, rfl⟩
  rw [hr] at hci
  have hrn : r.1 = (yN Z).cls := Option.some.inj hci
  have hrecv := va_recv hK hP hr he
  rw [hrn] at hrecv
  refine x_after k C hS hl (va_runV (As := xst g As) (b := gB g + b) (nL := yL Y) (Ts := gw) ⟨C.1, C.2.1, C.2.2.1, C.2.2.2.1, hts⟩ hR ⟨x_cb hb1 hts w1 hdd, hts _ w2, hts _ w3⟩ ⟨hpre.1, hrecv, hpre.2⟩ rfl (by rw [List.length_map]; exact hn) hl.1 ?_ ?_ hd ⟨hce, hsl⟩)
  · show xst g (As.reverse ++ .ref b :: st) = _
    simp [xst, xv]
  · show 2 * 0 + _ ≤ 8
    rw [x_sum]; omega
theorem x_callS {idx d1 mc1 ms1 : Nat} {As st0 : List Value} (Z : YY) (F : CS (yN Y).cls idx Z) (hd : decode (yC Y) pc = .ok (.invokestatic idx, 3)) (hst : st0 = As.reverse ++ st) (hn : As.length = yA Z) (hdd : d1 + 1 ≤ d) (hce : ce + mc1 ≤ mc) (hsl : sl + ms1 ≤ ms) (hw : (st.map fun v => v.category).sum ≤ 8)
    (hR : RT g Z d1 mc1 ms1 As M P1) (k : ∀ rv M1, P1 rv M1 → EX g Y d mc ms (ce + mc1) (sl + ms1) (pc + 3) lv (rv.toList ++ st) M1 P) : EX g Y d mc ms ce sl pc lv st0 M P := by
  intro p e s m args below meth c H locs ls C hP hS hz hl
  have hK := C.2.2.2.2.2.2.2.2.1.1
  have hts := C.2.2.2.2.1
  obtain ⟨hb1, w1, w2⟩ := F
  subst hst
  have hpre := x_pre (av := As) C.2.2.2.2.2.2.2.2.1 C.2.2.2.2.2.2.2.2.2 hS hP hz
  refine x_after k C hS hl (va_runS (As := xst g As) (nL := yL Y) (Ts := gw) ⟨C.1, C.2.1, C.2.2.1, C.2.2.2.1, hts⟩ hR ⟨x_cb hb1 hts w1 hdd, hts _ w2⟩ hpre rfl (by rw [List.length_map]; exact hn) hl.1 ?_ ?_ hd ⟨hce, hsl⟩)
  · show xst g (As.reverse ++ st) = _
    simp [xst]
  · show 2 * 0 + _ ≤ 8
    rw [x_sum]; omega
theorem x_callI {idx b d1 mc1 ms1 : Nat} {As st0 : List Value} (Z : YY) (F : CI (yN Y).cls idx Z) (hd : decode (yC Y) pc = .ok (.invokespecial idx, 3)) (hst : st0 = As.reverse ++ .ref b :: st) (hn : As.length = yA Z) (hdd : d1 + 1 ≤ d) (hce : ce + mc1 ≤ mc) (hsl : sl + ms1 ≤ ms) (hw : (st.map fun v => v.category).sum ≤ 8)
    (hR : RT g Z d1 mc1 ms1 (.ref b :: As) M P1) (k : ∀ rv M1, P1 rv M1 → EX g Y d mc ms (ce + mc1) (sl + ms1) (pc + 3) lv (rv.toList ++ st) M1 P) : EX g Y d mc ms ce sl pc lv st0 M P := by
  intro p e s m args below meth c H locs ls C hP hS hz hl
  have hK := C.2.2.2.2.2.2.2.2.1.1
  have hts := C.2.2.2.2.1
  obtain ⟨hb1, w1, w2, hnm, hret⟩ := F
  subst hst
  have hpre := x_pre (av := .ref b :: As) C.2.2.2.2.2.2.2.2.1 C.2.2.2.2.2.2.2.2.2 hS hP hz
  have hcb := x_cb (d := d) (mc := mc) (ms := ms) (d1 := d1) (mc1 := mc1) (ms1 := ms1) hb1 hts w1 hdd
  rw [hret] at hcb
  refine x_after k C hS hl (va_runI (As := xst g As) (b := gB g + b) (nL := yL Y) (Ts := gw) ⟨C.1, C.2.1, C.2.2.1, C.2.2.2.1, hts⟩ hR ⟨hcb, hnm, hts _ w2⟩ hpre rfl (by rw [List.length_map]; exact hn) hl.1 ?_ ?_ hd ⟨hce, hsl⟩)
  · show xst g (As.reverse ++ .ref b :: st) = _
    simp [xst, xv]
  · show 2 * 0 + _ ≤ 8
    rw [x_sum]; omega
theorem x_callIN {idx b d1 mc1 ms1 : Nat} {As st0 : List Value} (Z : YY) (F : CIN (yN Y).cls idx Z) (hd : decode (yC Y) pc = .ok (.invokespecial idx, 3)) (hst : st0 = As.reverse ++ .ref b :: st) (hn : As.length = yA Z) (hdd : d1 + 1 ≤ d) (hce : ce + mc1 ≤ mc) (hsl : sl + ms1 ≤ ms) (hw : (st.map fun v => v.category).sum ≤ 8)
    (hR : RT g Z d1 mc1 ms1 (.ref b :: As) M P1) (k : ∀ rv M1, P1 rv M1 → EX g Y d mc ms (ce + mc1) (sl + ms1) (pc + 3) lv (rv.toList ++ st) M1 P) : EX g Y d mc ms ce sl pc lv st0 M P := by
  intro p e s m args below meth c H locs ls C hP hS hz hl
  have hK := C.2.2.2.2.2.2.2.2.1.1
  have hts := C.2.2.2.2.1
  obtain ⟨hb1, w1, w2, hnm, hret⟩ := F
  subst hst
  have hpre := x_pre (av := .ref b :: As) C.2.2.2.2.2.2.2.2.1 C.2.2.2.2.2.2.2.2.2 hS hP hz
  have hcn := va_cnB (R := xR d mc ms) (args := args) (own := (yN Y).cls) (host := RX11) (index := idx) (bytes := yC Z) (maxL := yL Z) (ret := yR Z) (Ts := gw) (ws' := gw) (rm := xR d1 mc1 ms1) (mc := mc1) (ms := ms1) (yA Z) hts (gw_GoodIn hb1.2.1) rfl rfl rfl (C.2.2.2.2.2.2.2.2.1.2.1.1 _ w1 rfl) (hts _ hb1.1) hb1.2.2.1 ⟨hdd, x_room hdd hb1.2.2.2⟩
  rw [hret] at hcn
  refine x_after k C hS hl (va_runIN (As := xst g As) (b := gB g + b) (nL := yL Y) (Ts := gw) ⟨C.1, C.2.1, C.2.2.1, C.2.2.2.1, hts⟩ hR ⟨hcn, hnm, hts _ w2⟩ hpre rfl (by rw [List.length_map]; exact hn) hl.1 ?_ ?_ hd ⟨hce, hsl⟩)
  · show xst g (As.reverse ++ .ref b :: st) = _
    simp [xst, xv]
  · show 2 * 0 + _ ≤ 8
    rw [x_sum]; omega
/-- returns -/
theorem x_iret {v : Int32} (hr : yR Y = some .int) (hd : decode (yC Y) pc = .ok (.ireturn, 1)) (hc : ce ≤ mc) (hsl : sl ≤ ms) (hp : P (some (.int v)) M) : EX g Y d mc ms ce sl pc lv [.int v] M P := by
  intro p e s m args below meth c H locs ls C hP hS hz hl
  refine W.widen hc hsl (W.iret C.1 C.2.1 (C.2.2.2.2.2.1.trans hr) (fun t ht hW => ?_) hS.2.2 hd C.2.2.2.2.2.2.1)
  exact ⟨⟨some (.int v), M, rfl, hp, by rw [ht]; exact hP, by rw [ht]; exact hz⟩, hS.F ht⟩
theorem x_zret {v : Int32} (hr : yR Y = some .boolean) (hd : decode (yC Y) pc = .ok (.ireturn, 1)) (hn : v &&& 1 = v) (hc : ce ≤ mc) (hsl : sl ≤ ms) (hp : P (some (.int v)) M) : EX g Y d mc ms ce sl pc lv [.int v] M P := by
  intro p e s m args below meth c H locs ls C hP hS hz hl
  refine W.widen hc hsl (W.zret C.1 C.2.1 (C.2.2.2.2.2.1.trans hr) (congrArg Value.int hn) (fun t ht hW => ?_) hS.2.2 hd C.2.2.2.2.2.2.1)
  exact ⟨⟨some (.int v), M, rfl, hp, by rw [ht]; exact hP, by rw [ht]; exact hz⟩, hS.F ht⟩
theorem x_vret (hr : yR Y = none) (hd : decode (yC Y) pc = .ok (.return_, 1)) (hc : ce ≤ mc) (hsl : sl ≤ ms) (hp : P none M) : EX g Y d mc ms ce sl pc lv [] M P := by
  intro p e s m args below meth c H locs ls C hP hS hz hl
  refine W.widen hc hsl (W.vret C.1 C.2.1 (C.2.2.2.2.2.1.trans hr) (fun t ht hW => ?_) hS.2.2 hd C.2.2.2.2.2.2.1)
  exact ⟨⟨none, M, rfl, hp, by rw [ht]; exact hP, by rw [ht]; exact hz⟩, hS.F ht⟩
/-- Math.max, Math.min -/
theorem x_max {idx : Nat} {x y : Int32} (hd : decode (yC Y) pc = .ok (.invokestatic idx, 3)) (w1 : Cond.methodLink (yN Y).cls idx Lib.Math.max.name ∈ gw) (w2 : Cond.static Lib.Math.max.name ∈ gw) (w3 : Cond.initialized "java/lang/Math" ∈ gw) (w4 : Cond.code Lib.Math.max.name Lib.Math.max.code 2 (some .int) ∈ gw) (hdd : 1 ≤ d) (hc : ce ≤ mc) (hsl : sl ≤ ms) (hw : (st.map fun v => v.category).sum ≤ 8) (k : EX g Y d mc ms ce sl (pc + 3) lv (.int (if x < y then y else x) :: st) M P) : EX g Y d mc ms ce sl pc lv (.int y :: .int x :: st) M P := by
  intro p e s m args below meth c H locs ls C hP hS hz hl
  have hts := C.2.2.2.2.1
  refine va_mmax C.1 C.2.1 (C.2.2.1.trans hl.1.symm) C.2.2.2.1 (hts _ w1) (hts _ w2) (hts _ w3) (hts _ w4) hdd ?_ hc hsl hd (k p e s m args below meth c H locs ls C hP hS hz hl)
  rw [x_sum]; show _ ≤ 40 * d; omega
theorem x_min {idx : Nat} {x y : Int32} (hd : decode (yC Y) pc = .ok (.invokestatic idx, 3)) (w1 : Cond.methodLink (yN Y).cls idx Lib.Math.min.name ∈ gw) (w2 : Cond.static Lib.Math.min.name ∈ gw) (w3 : Cond.initialized "java/lang/Math" ∈ gw) (w4 : Cond.code Lib.Math.min.name Lib.Math.min.code 2 (some .int) ∈ gw) (hdd : 1 ≤ d) (hc : ce ≤ mc) (hsl : sl ≤ ms) (hw : (st.map fun v => v.category).sum ≤ 8) (k : EX g Y d mc ms ce sl (pc + 3) lv (.int (if y < x then y else x) :: st) M P) : EX g Y d mc ms ce sl pc lv (.int y :: .int x :: st) M P := by
  intro p e s m args below meth c H locs ls C hP hS hz hl
  have hts := C.2.2.2.2.1
  refine va_mmin C.1 C.2.1 (C.2.2.1.trans hl.1.symm) C.2.2.2.1 (hts _ w1) (hts _ w2) (hts _ w3) (hts _ w4) hdd ?_ hc hsl hd (k p e s m args below meth c H locs ls C hP hS hz hl)
  rw [x_sum]; show _ ≤ 40 * d; omega
theorem RT.to {d mc ms : Nat} {av : List Value} (h : RT g Y d mc ms av M P1) (hp : ∀ rv M', P1 rv M' → P rv M') : RT g Y d mc ms av M P := by
  intro p e ha hc hk s m args below h1 h2 h3 h4
  obtain ⟨k, o, a1, a2, a3, ⟨⟨rv, M', e1, e2, e3⟩, e4⟩, a5⟩ := h p e ha hc hk s m args below h1 h2 h3 h4
  exact ⟨k, o, a1, a2, a3, ⟨⟨rv, M', e1, hp _ _ e2, e3⟩, e4⟩, a5⟩
end EXC
