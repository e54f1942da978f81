/-! ===== the law's beginning, its loop, its end ===== -/
def R_law : String := "CountyPrintLaw"
def lw_P (b : Addr) (xs : List Int32) (args : Array Value) (s : State) : Prop := args = #[.ref b] ∧ s.IntsAt b xs ∧ xs.length ≤ 3584 ∧ (Jvm.Cond.and given_1 narrow_1).before args s = true
def lw_Q (_ : Array Value) (s : State) (o : Outcome) (t : State) : Prop := o = .returned (some (.int 1)) ∧ Framed s o t [] 601024 7293034
def lw_Z (below : List Frame) (a : Array Value) (s : State) : State → Prop := fun t => ∃ o, t.status = .running ∧ Ended t below o ∧ lw_Q a s o t
/-- the law's own end, with 1 on the stack, nothing written that was there before, its room as the claim has it -/
theorem lw_ret {p : Program} {l : Launch} {e : Env} {s : State} {m : MethodId} {below : List Frame} {meth : Method} {c : Code} {b : Nat} (hx : p.tables.exec = Jvm.exec) (hb : c.code = code) (hr : meth.sig.returnType = ret) (hlocks : meth.locks = false) {pc : Nat} {H : Heap} {ls : Array Slot} (hdg : decode code pc = .ok (.ireturn, 1)) : W p l e room_1 s m #[Value.ref b] below meth c H [] 601024 7293034 (lw_Z below #[Value.ref b] s) (F0 m pc ls [.int 1]) := by
  intro T hT X
  obtain ⟨fs, hret, hrun, hended, hW, hframe⟩ := X.leave (v := some (.int 1)) (hlocks := hlocks) (fun h => by rw [hr] at h; cases h)
  have hmeth' : T.vm.method? m = some meth := X.method'
  refine ⟨T.setFrames fs, ?_, .returned (some (.int 1)), hrun, hended, rfl, ⟨_, rfl⟩, hW, hframe⟩
  jvm_step X.here [X.here.top, hx, hb, hdg, hmeth', hr, ret, narrow_b1]
  (try refine ⟨rfl, ?_⟩); (try refine ⟨rfl, ?_⟩)
  first | (intro acts; rw [hret _ acts rfl rfl rfl]) | rw [hret _ _ rfl rfl rfl]
  exact Steps.refl _
section LN
variable {g : GG} {Y : YY} {p : Program} {e : Env} {s : State} {m : MethodId} {args : Array Value} {below : List Frame} {meth : Method} {c : Code} {R : Room} {Q : State → Prop} {rl : List (Nat × Value)} {ce sl pc : Nat} {lv : List (Nat × Value)} {st : List Value} {M : MM}
theorem y_new (hJ : gJ g = 0) {idx ci N : Nat} (b : Nat) (hb : mn M = b) (C : xC g Y p s m args meth c) (hN : N = mN ci) (F : CN (yN Y).cls idx ci) (hd : decode (yC Y) pc = .ok (.new idx, 3)) (hc : ce + 1 ≤ R.cells) (hsl : sl + N ≤ R.slots) (k : EQ g Y p e s m args below meth c R Q rl (ce + 1) (sl + N) (pc + 3) lv (.ref b :: st) (mw M (0, ci))) : EQ g Y p e s m args below meth c R Q rl ce sl pc lv st M := by
  intro H locs ls hP hS hz0 hl
  subst hb
  have hz : H.size = gB g + mn M := by rw [hz0]; show gJ g + gB g + mn M = _; rw [hJ]; omega
  have hK := C.2.2.2.2.2.2.2.2.1.1
  have hts := C.2.2.2.2.1
  subst hN
  obtain ⟨CNm, T, hcl, hin, hty, hkd, w1, w2, w3⟩ := F
  have hKn := hK.1 ci _ hcl
  refine W.newcK C.1 C.2.1 C.2.2.2.1 (hts _ w1) (hts _ w2) (hts _ w3) rfl hd hc hsl hKn.2.1 hz fun H1 kC hkC e1 z1 o1 => ?_
  have o1' : ∀ q, q < H.size → H1[q]? = H[q]? := fun q h => o1 q (by rw [← hz]; exact h)
  have hh : mh (mw M (0, ci)) (mn M) = (0, ci) := if_pos rfl
  have hP1 : gV g (mw M (0, ci)) H1 := by
    refine mW_new hP hz (mE_ob hh) ⟨_, hcl, (u_born (mty ci) hts hin hKn hkC e1 hty).to (fun j hj => ?_)⟩ o1'
    unfold vp_V
    rw [List.getD_eq_getElem?_getD, mF_at hj]
    have h3 := hkd j hj
    have ei : mi (mw M (0, ci)) (mn M) j = 0 := if_pos rfl
    have ej : mj (mw M (0, ci)) (mn M) j = 0 := if_pos rfl
    have er : mr (mw M (0, ci)) (mn M) j = none := if_pos rfl
    unfold mfv
    rw [ei, ej, er]
    unfold mk at h3 ⊢
    generalize mty ci j = t at h3 ⊢
    cases t <;> first | rfl | (exfalso; revert h3; decide)
  exact k H1 locs ls hP1 (mw_S hS (by rw [z1, hz]) o1') (by rw [z1]; show gB g + mn M + 1 = gJ g + gB g + (mn M + 1); omega) hl
theorem y_newl (hJ : gJ g = 0) {n : Int32} {N : Nat} (b : Nat) (hb : mn M = b) (C : xC g Y p s m args meth c) (hd : decode (yC Y) pc = .ok (.newarray .long, 2)) (hn : ¬ n < 0) (hN : n.toNatClampNeg = N) (hN2 : N ≤ 4000) (hc : ce + 1 ≤ R.cells) (hsl : sl + N ≤ R.slots) (k : EQ g Y p e s m args below meth c R Q rl (ce + 1) (sl + N) (pc + 2) lv (.ref b :: st) (mw M (2, N))) : EQ g Y p e s m args below meth c R Q rl ce sl pc lv (.int n :: st) M := by
  intro H locs ls hP hS hz0 hl
  subst hb
  have hz : H.size = gB g + mn M := by rw [hz0]; show gJ g + gB g + mn M = _; rw [hJ]; omega
  have hK := C.2.2.2.2.2.2.2.2.1.1
  have hby : N * componentBytes (newarray.typeOf .long) ≤ 536870912 := by
    show N * 8 ≤ 536870912
    omega
  refine va_newaK (atype := .long) C.1 C.2.1 (C.2.2.2.2.1 _ gk_ar_long) rfl hd rfl hn hN hby hc hsl hz fun H1 cA e1 z1 o1 hAr hNm => ?_
  have o1' : ∀ q, q < H.size → H1[q]? = H[q]? := fun q h => o1 q (by rw [← hz]; exact h)
  have hcA : cA = g.2.2.2 2 := Option.some.inj (hNm.symm.trans (hK.2 1 _ rfl).2)
  subst hcA
  have hh : mh (mw M (2, N)) (mn M) = (2, N) := if_pos rfl
  have ej : mj (mw M (2, N)) (mn M) = fun _ => 0 := funext fun _ => if_pos rfl
  have hP1 : gV g (mw M (2, N)) H1 := by
    refine mW_new hP hz rfl ?_ o1'
    rw [mE_j hh, ej]
    exact e1
  exact k H1 locs ls hP1 (mw_S hS (by rw [z1, hz]) o1') (by rw [z1]; show gB g + mn M + 1 = gJ g + gB g + (mn M + 1); omega) hl
theorem y_callI {idx b d1 mc1 ms1 : Nat} {As st0 : List Value} {P1 : Option Value → MM → Prop} (C : xC g Y p s m args meth c) (Z : YY) (F : CI (yN Y).cls idx Z) (hd : decode (yC Y) pc = .ok (.invokespecial idx, 3)) (hst : st0 = As.reverse ++ .ref b :: st) (hn : As.length = yA Z) (hf : ce + mc1 ≤ R.cells ∧ sl + ms1 ≤ R.slots) (hR : d1 + 1 ≤ R.frames ∧ 40 * (d1 + 1) ≤ R.locals) (hw : (st.map fun v => v.category).sum ≤ 8)
    (hM : RT g Z d1 mc1 ms1 (.ref b :: As) M P1) (k : ∀ rv M1, P1 rv M1 → EQ g Y p e s m args below meth c R Q rl (ce + mc1) (sl + ms1) (pc + 3) lv (rv.toList ++ st) M1) : EQ g Y p e s m args below meth c R Q rl ce sl pc lv st0 M := by
  intro H locs ls hP hS hz hl
  subst hst
  have hts := C.2.2.2.2.1
  obtain ⟨hb1, w1, w2, hnm, hret⟩ := F
  have hpre := x_pre (av := .ref b :: As) C.2.2.2.2.2.2.2.2.1 C.2.2.2.2.2.2.2.2.2 hS hP hz
  have hcb := w_cb (R := R) (mc1 := mc1) (ms1 := ms1) (d1 := d1) hb1 hts w1 hR
  rw [hret] at hcb
  have k9 : ∀ rv M1 H1 locs1, P1 rv M1 → gV g M1 H1 → va_S (gA g) s.heap H1 locs1 → H1.size = gZ g + mn M1 → W p g.1 e R s m args below meth c H1 locs1 (ce + mc1) (sl + ms1) Q (F0 m (pc + 3) ls ((rv.map (xv (gB g))).toList ++ xst g st)) := by
    intro rv M1 H1 locs1 hp hP1 hS1 hz1
    have e3 : xst g (rv.toList ++ st) = (rv.map (xv (gB g))).toList ++ xst g st := by cases rv <;> simp
    rw [← e3]
    exact k rv M1 hp H1 locs1 ls hP1 hS1 hz1 hl
  refine w_after k9 hS (va_runI (As := xst g As) (b := gB g + b) (nL := yL Y) (Ts := gw) ⟨C.1, C.2.1, C.2.2.1, C.2.2.2.1, hts⟩ hM ⟨hcb, hnm, hts _ w2⟩ hpre rfl (by rw [List.length_map]; exact hn) hl.1 ?_ ?_ hd hf)
  · show xst g (As.reverse ++ .ref b :: st) = _
    simp [xst, xv]
  · show 2 * 0 + _ ≤ 8
    rw [x_sum]; omega
end LN
theorem sub7 {L : Nat} (h : L ≤ 3584) : (nI L - 7).toInt = (L : Int) - 7 := by
  by_cases h7 : 7 ≤ L
  · rw [show nI L - 7 = nI (L - 7) from nI_sb (b := 7) h7, nI_toInt (by omega)]
    omega
  · have hs : ∀ k, k < 7 → (nI k - 7).toInt = (k : Int) - 7 := by decide +kernel
    exact hs L (by omega)
theorem ms2_c : RCo MS2 (0, 0, mi MS2 3, mi MS2 4, mi MS2 5, mi MS2 7, mi MS2 12) (lwF dEmp) := ⟨by rw [ms2_z]; rfl, by rw [ms2_z]; rfl, fun k hk => absurd hk (Nat.not_lt_zero k), fun k hk => absurd hk (Nat.not_lt_zero k), fun k hk => absurd hk (Nat.not_lt_zero k)⟩
theorem ms1_o : ob (mw MS1 (0, 12)) 130 12 := by decide +kernel
section LW
variable {g : GG} {p : Program} {e : Env} {s : State} {m : MethodId} {below : List Frame} {meth : Method} {c : Code} {b L : Nat} {xs : Nat → Int32} {Q : State → Prop} {ce sl i : Nat} {lv : List (Nat × Value)} {M : MM}
theorem l_test (X : XL g p s m meth c b L xs) (hi : i ≤ L) (kt : L < i + 7 → EL g p e s m below meth c b Q ce sl 1322 (LV i) [] M) (kf : i + 7 ≤ L → EL g p e s m below meth c b Q ce sl 33 (LV i) [] M) : EL g p e s m below meth c b Q ce sl 23 (LV i) [] M := by
  intro H locs ls hP hS hz hl
  have hL := X.2.2.2.2.2
  refine lv_iload X.1.1 X.1.2.1 dL_law_23 (lv_at hl 4 rfl) ?_
  refine lv_aload_n X.1.1 X.1.2.1 dL_law_25 rfl (lv_at hl 0 rfl) ?_
  refine va_slen X.1.1 X.1.2.1 X.2.1 X.2.2.1 X.no hS dL_law_26 ?_
  refine lv_bipush (v := 7) X.1.1 X.1.2.1 dL_law_27 (by decide) ?_
  refine lv_isub X.1.1 X.1.2.1 dL_law_29 ?_
  have e1 : (nI L - 7).toInt = (L : Int) - 7 := sub7 hL
  have e2 : (nI i).toInt = (i : Int) := nI_toInt (by omega)
  refine lv_icmp_gt (tgt := 1322) X.1.1 X.1.2.1 dL_law_30 (by decide) (fun q => ?_) (fun q => ?_)
  · have q : nI L - 7 < nI i := q
    rw [Int32.lt_iff_toInt_lt, e1, e2] at q
    exact kt (by omega) H locs ls hP hS hz hl
  · have q : ¬ nI L - 7 < nI i := q
    rw [Int32.lt_iff_toInt_lt, e1, e2] at q
    exact kf (by omega) H locs ls hP hS hz hl
theorem l_end (X : XL g p s m meth c b L xs) (hce : ce ≤ 601024) (hsl : sl ≤ 7293034) : EL g p e s m below meth c b (lw_Z below #[Value.ref b] s) ce sl 1322 lv [] M := by
  refine y_iconst (v := 1) X.1 dL_law_1322 (by decide) ?_
  intro H locs ls hP hS hz hl
  refine va_forget (fun q hq => ?_) (W.widen hce hsl (lw_ret X.1.1 X.1.2.1 X.1.2.2.2.2.2.1 X.1.2.2.2.2.2.2.1 dL_law_1323))
  have h := hS.2.2 q hq
  rw [← X.2.2.2.1]
  exact h
theorem l_loop (n : Nat) : ∀ (i ce sl : Nat) (g : GG) (M : MM), L ≤ i + n → i ≤ L → ce ≤ 200 + i → sl ≤ 20000 + 6 * i → XL g p s m meth c b L xs → Inv M → mn M = 173 → EL g p e s m below meth c b (lw_Z below #[Value.ref b] s) ce sl 23 (LV i) [] M := by
  induction n with
  | zero =>
    intro i ce sl g M h1 h2 h3 h4 X I hn
    have hL := X.2.2.2.2.2
    exact l_test X h2 (fun _ => l_end X (by omega) (by omega)) (fun h => by omega)
  | succ n ih =>
    intro i ce sl g M h1 h2 h3 h4 X I hn
    have hL := X.2.2.2.2.2
    refine l_test X h2 (fun _ => l_end X (by omega) (by omega)) (fun h => ?_)
    refine l_switch X I hn h ⟨by show ce + 1 ≤ 601024; omega, by show sl + 6 ≤ 7293034; omega⟩ (fun g2 M2 X2 I2 n2 => ?_)
    refine y_iinc (v := nI (i + 7)) (lv1 := [(4, .int (nI (i + 7))), (1, .ref 0), (2, .ref 130), (3, .ref 172)]) X2.1 dL_law_1316 3 rfl (nI_add i 7) (by decide) rfl rfl ?_
    exact y_goto X2.1 23 dL_law_1319 (by decide) (EQ.sub [1, 2, 3, 0] (ih (i + 7) (ce + 1) (sl + 6) g2 M2 (by omega) h (by omega) (by omega) X2 I2 n2) rfl)
theorem l_start (X : XL g p s m meth c b L xs) (hJ : gJ g = 0) : EL g p e s m below meth c b (lw_Z below #[Value.ref b] s) 0 0 0 [] [] MS0 := by
  refine y_new hJ 0 rfl X.1 rfl cnL_8 dL_law_0 (by decide) (by decide) ?_
  refine y_dup X.1 dL_law_3 rfl ?_
  refine y_callI (As := []) (st := [.ref 0]) (d1 := 60) (mc1 := 129) (ms1 := 5814) X.1 YX11_init ciiL_19 dL_law_4 rfl rfl ⟨by decide, by decide⟩ ⟨by decide, by decide⟩ (Nat.le_of_ble_eq_true rfl) (cX11 hJ ⟨Nat.zero_lt_one, rfl⟩ (by decide)) ?_
  rintro rv M1 ⟨rfl, rfl⟩
  refine y_astore_n (lv1 := [(1, .ref 0)]) X.1 dL_law_7 (by decide) rfl rfl ?_
  refine y_new (M := MS1) hJ 130 ms1_n X.1 rfl cnL_20 dL_law_8 (by decide) (by decide) ?_
  refine y_dup X.1 dL_law_11 rfl ?_
  refine y_callI (As := []) (st := [.ref 130]) (d1 := 60) (mc1 := 41) (ms1 := 4749) X.1 YX12_init ciiL_22 dL_law_12 rfl rfl ⟨by decide, by decide⟩ ⟨by decide, by decide⟩ (Nat.le_of_ble_eq_true rfl) (cX12 hJ ms1_o (by decide) ms2_o (tF_fresh ms2_f ms2_c (Nat.zero_le _) (by decide))) ?_
  rintro rv M1 ⟨rfl, S1, F1⟩
  have n1 : mn M1 = 172 := F1.1.trans ms2_n
  refine y_astore_n (lv1 := [(2, .ref 130), (1, .ref 0)]) X.1 dL_law_15 (by decide) rfl rfl ?_
  refine y_iconst (v := 1) X.1 dL_law_16 (by decide) ?_
  refine y_newl (N := 1) hJ 172 n1 X.1 dL_law_17 (by decide) (by decide) (by decide) (by decide) (by decide) ?_
  refine y_astore_n (lv1 := [(3, .ref 172), (2, .ref 130), (1, .ref 0)]) X.1 dL_law_19 (by decide) rfl rfl ?_
  refine y_iconst (v := nI 0) X.1 dL_law_20 (by decide) ?_
  refine y_istore (lv1 := [(4, .int (nI 0)), (3, .ref 172), (2, .ref 130), (1, .ref 0)]) X.1 dL_law_21 (by decide) rfl rfl ?_
  exact EQ.sub [3, 2, 1, 0] (l_loop L 0 _ _ g _ (by omega) (Nat.zero_le _) (by decide) (by decide) X (inv_start F1 S1) (by show mn M1 + 1 = 173; rw [n1])) rfl
end LW
