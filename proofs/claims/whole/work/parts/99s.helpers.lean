/-! ===== the law's two helpers, and what the reference answers behind them ===== -/
def YL_saves : YY := (yL_saves, cL_saves, 4, (some .int), 3)
def YL_rests : YY := (yL_rests, cL_rests, 7, (some .int), 6)
def hSv : List (Nat × Nat × Nat × Nat) := [(0, 9, 12, 13)]
def hRs : List (Nat × Nat × Nat × Nat) := [(0, 14, 17, 13)]
def CH (own : String) (idx : Nat) (Z : YY) (hh : List (Nat × Nat × Nat × Nat)) : Prop := Cond.initialized (yN Z).cls ∈ gw ∧ Cond.codeWith (yN Z) (yC Z) (yL Z) (yR Z) hh ∈ gw ∧ ((yN Z).cls ≠ "java/lang/invoke/MethodHandle" ∧ (yN Z).cls ≠ "java/lang/invoke/VarHandle" ∧ (parseMethodDescriptor (yN Z).desc).map (fun d => d.parameters.length) = some (yA Z)) ∧ yL Z ≤ 21 ∧ Cond.methodLink own idx (yN Z) ∈ gw ∧ Cond.static (yN Z) ∈ gw
theorem chL_98 : CH RL 98 YL_saves hSv := ⟨gw_of1 0 rfl rfl, gw_of5 13 rfl rfl, by decide +kernel, by decide, gw_of5 11 rfl rfl, gw_of5 12 rfl rfl⟩
theorem chL_160 : CH RL 160 YL_rests hRs := ⟨gw_of1 0 rfl rfl, gw_of5 90 rfl rfl, by decide +kernel, by decide, gw_of5 88 rfl rfl, gw_of5 89 rfl rfl⟩
theorem ckL_13 : Cond.classLink RL 13 NSE ∈ gw := gw_of5 14 rfl rfl
theorem SH_tag : ∀ a, a < 173 → (SHa a).1 ≠ 99 := by decide +kernel
theorem Lay.tg {M : MM} {la lb pa pb rl : Nat} (L : Lay M la lb pa pb rl) (hn : mn M = 173) : Tg M := fun a ha => by
  rw [L.2.1 a (by omega)]
  exact SH_tag a (by omega)
section HC
variable {g : GG} {Y : YY} {p : Program} {e : Env} {s : State} {m : MethodId} {args : Array Value} {below : List Frame} {meth : Method} {c : Code} {R : Room} {Q : State → Prop} {rl : List (Nat × Value)} {ce sl pc : Nat} {lv : List (Nat × Value)} {st : List Value} {M : MM}
theorem h_ret {v : Int32} {P : Option Value → MM → Prop} {H : Heap} {locs : List Loc} {ls : Array Slot} (C : xC g Y p s m args meth c) (hr : yR Y = some .int) (hd : decode (yC Y) pc = .ok (.ireturn, 1)) (hT : Tg M) (h1 : ce ≤ 1) (h2 : sl ≤ 6) (hp : P (some (.int v)) M) (hP : gV g M H) (hS : va_S (gA g) s.heap H locs) (hz : gZ g + mn M ≤ H.size) : W p g.1 e R s m args below meth c H locs ce sl (MQ below (fun a st o t => ∃ j, xQ (gj g j) P a st o t) args s 1 6 (gA g)) (F0 m pc ls [.int v]) := by
  refine W.widen h1 h2 (W.iret C.1 C.2.1 (C.2.2.2.2.2.1.trans hr) (fun t ht9 hW => ?_) hS.2.2 hd C.2.2.2.2.2.2.1)
  refine ⟨H.size - (gB g + mn M), ⟨some (.int v), M, rfl, hp, by rw [ht9]; exact gV_j hT hP, ?_⟩, hS.F ht9⟩
  rw [ht9, gj_Z]
  have : gZ g = gJ g + gB g := rfl
  omega
theorem y_callH {idx d1 : Nat} {As st0 : List Value} {P1 : Option Value → MM → Prop} {hh : List (Nat × Nat × Nat × Nat)} (C : xC g Y p s m args meth c) (Z : YY) (F : CH (yN Y).cls idx Z hh) (hd : decode (yC Y) pc = .ok (.invokestatic idx, 3)) (hst : st0 = As.reverse ++ st) (hn : As.length = yA Z) (hf : ce + 1 ≤ R.cells ∧ sl + 6 ≤ R.slots) (hR : d1 + 1 ≤ R.frames ∧ 40 * (d1 + 1) ≤ R.locals) (hw : (st.map fun v => v.category).sum ≤ 8)
    (hM : RTH g Z hh d1 As M P1) (k : ∀ j rv M1, P1 rv M1 → EQ (gj g j) Y p e s m args below meth c R Q rl (ce + 1) (sl + 6) (pc + 3) lv (rv.toList ++ st) M1) : EQ g Y p e s m args below meth c R Q rl ce sl pc lv st0 M := by
  intro H locs ls hP hS hz hl
  subst hst
  have hts := C.2.2.2.2.1
  have hpre := x_pre (av := As) C.2.2.2.2.2.2.2.2.1 C.2.2.2.2.2.2.2.2.2 hS hP hz
  obtain ⟨f1, f2, f3, f4, f5, f6⟩ := F
  have cw : vx_CSW R s args (yN Y).cls idx (yN Z) (yC Z) (yL Z) (yR Z) hh (Cond.codeWith (yN Z) (yC Z) (yL Z) (yR Z) hh :: gw) (xR d1 1 6) 1 6 (yA Z) := by
    refine ⟨⟨rfl, rfl, hR.1, ?_, pay_in hts (gw_GoodIn f2), List.mem_cons_self⟩, hts _ f2, hts _ f1, ⟨f3.1, f3.2.1⟩, fun sig h => ?_, hts _ f5, hts _ f6⟩
    · show 8 + (yL Z + 11) + 40 * d1 ≤ R.locals
      have h2 := hR.2
      omega
    · have h2 := f3.2.2
      rw [h] at h2
      exact (Option.some.inj h2).symm
  have hr := vx_runSW (As := xst g As) (rest := xst g st) (nL := yL Y) (Ts := gw) (g := F0 m pc ls (xst g (As.reverse ++ st))) (locs := locs) (cells := ce) (slots := sl) (e := e) (below := below) (meth := meth) ⟨C.1, C.2.1, C.2.2.1, C.2.2.2.1, hts⟩ hM cw hpre rfl (by rw [List.length_map]; exact hn) hl.1 (by simp [xst, F0]) (by show 2 * 0 + _ ≤ 8; rw [x_sum]; omega) hd hf
  intro T hT X
  obtain ⟨v, st₀, t, T', L, h0, X', hL, e1, e2, ⟨j, ⟨rv, M1, hv, hp, hV, hsz⟩, hz2, hk⟩, stp⟩ := hr T hT X
  have hv : v = rv.map (xv (gB g)) := Outcome.returned.inj hv
  rw [h0] at hz2 hk
  have hA : ∀ q : Nat, q < s.heap.size → ¬ gA g q → T'.heap[q]? = s.heap[q]? := fun q h1 h2 => by
    rw [e1, hk q (Nat.lt_of_lt_of_le h1 hS.1) h2]; exact hS.2.1 q h1 h2
  have kk := k j rv M1 hp T'.heap (locs ++ L) ls (by rw [e1]; exact hV) ⟨Nat.le_trans hS.1 (by rw [e1]; exact hz2), hA, fun q hq => by
      rcases List.mem_append.mp hq with h | h
      · exact hS.2.2 q h
      · exact hL q h⟩ (by rw [e1]; exact hsz) hl T' rfl X'
  obtain ⟨t2, a1, b1⟩ := kk
  refine ⟨t2, stp t2 ?_, b1⟩
  rw [hv]
  have e3 : xst g (rv.toList ++ st) = (rv.map (xv (gB g))).toList ++ xst g st := by cases rv <;> simp
  rw [← e3]
  exact a1
end HC
section HS
variable {g : GG} {d : Nat} {M : MM}
theorem tL_savesA {i v : Int32} (o0 : ob M 0 11) (h7 : ar M 172 2 1) (hT : Tg M) (h : R0 g YX11_saves d [.ref 0, .int i] M (Ans v M)) : RTH g YL_saves hSv (d + 1) [.ref 0, .int i, .ref 172] M (fun rv M1 => rv = some (.int 0) ∧ M1 = wj M 172 0 v.toInt64) := by
  refine RTH.of (by decide +kernel) (Nat.le_of_ble_eq_true rfl) (fun p e s m args below meth c C ht => ?_)
  show EQ g YL_saves p e s m args below meth c (xR (d + 1) 1 6) _ [] 0 0 0 [(0, .ref 0), (1, .int i), (2, .ref 172)] [] M
  refine y_aload_n C dL_saves_0 2 rfl ?_
  refine y_iconst (v := 0) C dL_saves_1 (by decide) ?_
  refine y_aload_n C dL_saves_2 0 rfl ?_
  refine y_iload_n C dL_saves_3 1 rfl ?_
  refine y_callV (As := [.int i]) (st := [.int 0, .ref 172]) (d1 := d) (mc1 := 0) (ms1 := 0) C YX11_saves cvL_7 dL_saves_4 rfl rfl o0.1 o0.2 rfl ⟨Nat.zero_le _, Nat.zero_le _⟩ ⟨Nat.le_refl _, Nat.le_refl _⟩ (Nat.le_of_ble_eq_true rfl) h ?_
  rintro rv M1 ⟨rfl, rfl⟩
  refine y_i2l C dL_saves_7 ?_
  refine y_last C dL_saves_8 h7.1 h7.2 (by unfold vp_in; decide) ?_
  refine y_goto C 15 dL_saves_9 (by decide) ?_
  refine y_iconst (v := 0) C dL_saves_15 (by decide) ?_
  intro H locs ls hP hS hz hl
  exact h_ret C rfl dL_saves_16 (M := wj M1 172 0 v.toInt64) (fun a ha => hT a ha) (Nat.zero_le _) (Nat.zero_le _) ⟨rfl, rfl⟩ hP hS (Nat.le_of_eq hz.symm)
theorem tL_savesB {i : Int32} (o0 : ob M 0 11) (hT : Tg M) (h : RTX g YX11_saves d [.ref 0, .int i] M) : RTH g YL_saves hSv (d + 1) [.ref 0, .int i, .ref 172] M (fun rv M1 => rv = some (.int 1) ∧ M1 = M) := by
  refine RTH.of (by decide +kernel) (Nat.le_of_ble_eq_true rfl) (fun p e s m args below meth c C ht => ?_)
  show EQ g YL_saves p e s m args below meth c (xR (d + 1) 1 6) _ [] 0 0 0 [(0, .ref 0), (1, .int i), (2, .ref 172)] [] M
  refine y_aload_n C dL_saves_0 2 rfl ?_
  refine y_iconst (v := 0) C dL_saves_1 (by decide) ?_
  refine y_aload_n C dL_saves_2 0 rfl ?_
  refine y_iload_n C dL_saves_3 1 rfl ?_
  refine y_catchV (As := [.int i]) (st := [.int 0, .ref 172]) (d1 := d) (x := ⟨0, 9, 12, 13⟩) C YX11_saves cvL_7 dL_saves_4 rfl rfl o0.1 o0.2 rfl ⟨Nat.le_refl _, Nat.le_refl _⟩ ⟨Nat.le_refl _, Nat.le_refl _⟩ (Nat.le_of_ble_eq_true rfl) h (ht.trans rfl) (by decide) (by decide) ckL_13 ?_
  intro q9 H1 locs1 ls hP hS hz hl
  refine lv_astore_n (i := 3) C.1 C.2.1 dL_saves_12 rfl hl (by decide) rfl (fun ls1 _ => ?_)
  refine lv_iconst (v := 1) C.1 C.2.1 dL_saves_13 (by decide) ?_
  exact h_ret C rfl dL_saves_14 hT (Nat.le_refl _) (Nat.le_refl _) ⟨rfl, rfl⟩ hP hS hz
theorem tL_restsA {x1 x2 x3 x4 v : Int32} (o0 : ob M 0 11) (h7 : ar M 172 2 1) (hT : Tg M) (h : R0 g YX11_rests d [.ref 0, .int x1, .int x2, .int x3, .int x4] M (Ans v M)) : RTH g YL_rests hRs (d + 1) [.ref 0, .int x1, .int x2, .int x3, .int x4, .ref 172] M (fun rv M1 => rv = some (.int 0) ∧ M1 = wj M 172 0 v.toInt64) := by
  refine RTH.of (by decide +kernel) (Nat.le_of_ble_eq_true rfl) (fun p e s m args below meth c C ht => ?_)
  show EQ g YL_rests p e s m args below meth c (xR (d + 1) 1 6) _ [] 0 0 0 [(0, .ref 0), (1, .int x1), (2, .int x2), (3, .int x3), (4, .int x4), (5, .ref 172)] [] M
  refine y_aload C dL_rests_0 5 rfl ?_
  refine y_iconst (v := 0) C dL_rests_2 (by decide) ?_
  refine y_aload_n C dL_rests_3 0 rfl ?_
  refine y_iload_n C dL_rests_4 1 rfl ?_
  refine y_iload_n C dL_rests_5 2 rfl ?_
  refine y_iload_n C dL_rests_6 3 rfl ?_
  refine y_iload C dL_rests_7 4 rfl ?_
  refine y_callV (As := [.int x1, .int x2, .int x3, .int x4]) (st := [.int 0, .ref 172]) (d1 := d) (mc1 := 0) (ms1 := 0) C YX11_rests cvL_15 dL_rests_9 rfl rfl o0.1 o0.2 rfl ⟨Nat.zero_le _, Nat.zero_le _⟩ ⟨Nat.le_refl _, Nat.le_refl _⟩ (Nat.le_of_ble_eq_true rfl) h ?_
  rintro rv M1 ⟨rfl, rfl⟩
  refine y_i2l C dL_rests_12 ?_
  refine y_last C dL_rests_13 h7.1 h7.2 (by unfold vp_in; decide) ?_
  refine y_goto C 21 dL_rests_14 (by decide) ?_
  refine y_iconst (v := 0) C dL_rests_21 (by decide) ?_
  intro H locs ls hP hS hz hl
  exact h_ret C rfl dL_rests_22 (M := wj M1 172 0 v.toInt64) (fun a ha => hT a ha) (Nat.zero_le _) (Nat.zero_le _) ⟨rfl, rfl⟩ hP hS (Nat.le_of_eq hz.symm)
theorem tL_restsB {x1 x2 x3 x4 : Int32} (o0 : ob M 0 11) (hT : Tg M) (h : RTX g YX11_rests d [.ref 0, .int x1, .int x2, .int x3, .int x4] M) : RTH g YL_rests hRs (d + 1) [.ref 0, .int x1, .int x2, .int x3, .int x4, .ref 172] M (fun rv M1 => rv = some (.int 1) ∧ M1 = M) := by
  refine RTH.of (by decide +kernel) (Nat.le_of_ble_eq_true rfl) (fun p e s m args below meth c C ht => ?_)
  show EQ g YL_rests p e s m args below meth c (xR (d + 1) 1 6) _ [] 0 0 0 [(0, .ref 0), (1, .int x1), (2, .int x2), (3, .int x3), (4, .int x4), (5, .ref 172)] [] M
  refine y_aload C dL_rests_0 5 rfl ?_
  refine y_iconst (v := 0) C dL_rests_2 (by decide) ?_
  refine y_aload_n C dL_rests_3 0 rfl ?_
  refine y_iload_n C dL_rests_4 1 rfl ?_
  refine y_iload_n C dL_rests_5 2 rfl ?_
  refine y_iload_n C dL_rests_6 3 rfl ?_
  refine y_iload C dL_rests_7 4 rfl ?_
  refine y_catchV (As := [.int x1, .int x2, .int x3, .int x4]) (st := [.int 0, .ref 172]) (d1 := d) (x := ⟨0, 14, 17, 13⟩) C YX11_rests cvL_15 dL_rests_9 rfl rfl o0.1 o0.2 rfl ⟨Nat.le_refl _, Nat.le_refl _⟩ ⟨Nat.le_refl _, Nat.le_refl _⟩ (Nat.le_of_ble_eq_true rfl) h (ht.trans rfl) (by decide) (by decide) ckL_13 ?_
  intro q9 H1 locs1 ls hP hS hz hl
  refine lv_astore C.1 C.2.1 dL_rests_17 hl (by decide) rfl (fun ls1 _ => ?_)
  refine lv_iconst (v := 1) C.1 C.2.1 dL_rests_19 (by decide) ?_
  exact h_ret C rfl dL_rests_20 hT (Nat.le_refl _) (Nat.le_refl _) ⟨rfl, rfl⟩ hP hS hz
theorem tX12_thrown {la lb pa pb rl : Nat} (L : Lay M la lb pa pb rl) : R0 g YX12_thrown d [.ref 130] M (Ans (mi M 130 0) M) := R0.of (by decide +kernel) (Nat.le_of_ble_eq_true rfl) rfl (qX12_thrown_0 L ⟨rfl, rfl⟩)
end HS
section HP
variable {g : GG} {S : Nat → Prop} {M M1 : MM} {n : Nat} {t : Nat → Nat} {D : DTs} {c : CD} {T : TT} {U : UU} {p : PP} {w : SV} {mk : Nat → KK}
theorem RAll.fr9 (A : RAll M c (lwF D) T U p w mk) (F : Fr S M M1) (hS : ∀ b, 130 ≤ b → b ≤ 171 → ¬ S b) : RAll M1 c (lwF D) T U p w mk := by
  obtain ⟨a1, a2, a3, a4, a5, a6⟩ := A
  exact ⟨a1.fr F (fun b hb => hS b (by omega) (by omega)), by rw [F.i (hS _ (by omega) (by omega))]; exact a2, a3.fr F (by rw [F.i (hS _ (by omega) (by omega))]) (hS _ (by omega) (by omega)), a4.fr F (fun b h1 h2 => hS b (by omega) (by omega)), a5.fr F (fun b h1 h2 => hS b (by omega) (by omega)), fun i hi => (a6 i hi).fr F (fun b hb => hS b (by omega) (by omega))⟩
theorem RI.fr9 (J : RI M n t D c T U p w mk) (F : Fr S M M1) (hS : ∀ b, 130 ≤ b → b ≤ 171 → ¬ S b) : RI M1 n t D c T U p w mk :=
  ⟨J.1.fr F (by rw [F.i (hS _ (by omega) (by omega))]) (hS _ (by omega) (by omega)), J.2.1.fr F (hS _ (by omega) (by omega)) (hS _ (by omega) (by omega)) (hS _ (by omega) (by omega)), J.2.2.fr9 F hS⟩
/-- a helper's call and the reference's: both throw, or both answer alike -/
def PrH (g : GG) (Yh Yr : YY) (hh : List (Nat × Nat × Nat × Nat)) (As : List Value) (M : MM) : Prop := ∃ b : Bool, RTH g Yh hh 61 (.ref 0 :: (As ++ [.ref 172])) M (fun rv M1 => rv = some (.int (b2i b)) ∧ mn M1 = 173 ∧ ob M1 130 12 ∧ ∀ j, R0 (gj g j) Yr 60 (.ref 130 :: As) M1 (fun rv2 M2 => ∃ v2, rv2 = some (.int v2) ∧ mi M2 130 0 = b2i b ∧ (b = false → mj M2 172 0 = v2.toInt64) ∧ Inv M2))
theorem p_saves {i : Int32} (hT : g.1.stackTraces = false) (hn : mn M = 173) (h : Inv M) : PrH g YL_saves YX12_saves hSv [.int i] M := by
  obtain ⟨la, lb, pa, pb0, rl, n, t, D, c, T, U, p, w, mk, I, J, P⟩ := h
  obtain ⟨L, W, Tp, H, hm, K, V, Q, Sg, Ps, Mk⟩ := id I
  have O : COk c (lwF D) := P.2.2.1
  have TO : TOk c T := P.2.2.2.1
  have o0 : ob M 0 11 := L.s rfl (by decide)
  have h7 : ar M 172 2 1 := L.s rfl (by decide)
  have o130 : ob M 130 12 := L.s rfl (by decide)
  have Tg0 := L.tg hn
  have hb : isAhd c (tvOf (cn c) T) i = true ∨ isAhd c (tvOf (cn c) T) i = false := by cases isAhd c (tvOf (cn c) T) i <;> simp
  rcases hb with hb | hb
  · refine ⟨false, RTH.to (tL_savesA o0 h7 Tg0 (tX11_savesA L K V TO.ok hb (by omega))) (fun rv M1 q => ?_)⟩
    obtain ⟨rfl, rfl⟩ := q
    refine ⟨rfl, hn, o130, fun j => ?_⟩
    have F : Fr (fun b => b = 172) M (wj M 172 0 (togF c (tvOf (cn c) T) i (ch c - nPl c (tvOf (cn c) T)) (nPl c (tvOf (cn c) T)) (tp (tvOf (cn c) T)) 0 - togF c (tvOf (cn c) T) (-1) (ch c - nPl c (tvOf (cn c) T)) (nPl c (tvOf (cn c) T)) (tp (tvOf (cn c) T)) 0).toInt64) := Fr.rf.wj rfl
    have I1 := I.fr F (fun b hb _ z => by omega)
    have J1 := J.fr9 F (fun b h1 h2 z => by omega)
    refine RT.to (tX12_saves (i := i) I1.1 J1.2.2.1 O J1.2.2.2.1 TO (by omega)) (fun rv2 M2 q => ?_)
    obtain ⟨q, s⟩ := q
    have e7 := congrFun (s.1.j (b := 172) (by omega)) 0
    rcases q with ⟨z, -⟩ | ⟨-, q1, q2⟩
    · rw [hb] at z; cases z
    · refine ⟨_, q1, q2, fun _ => ?_, la, lb, pa, pb0, rl, n, t, D, c, T, U, p, w, mk, I1.fr s.1 (fun b hb h z => by omega), J1.sc P.2.2.1.1 s, P⟩
      rw [e7, wj_at, if_pos ⟨rfl, rfl⟩]
  · refine ⟨true, RTH.to (tL_savesB o0 Tg0 (tX11_savesB hT L K V TO.ok hb (by omega))) (fun rv M1 q => ?_)⟩
    obtain ⟨rfl, rfl⟩ := q
    refine ⟨rfl, hn, o130, fun j => ?_⟩
    refine RT.to (tX12_saves (i := i) L J.2.2.1 O J.2.2.2.1 TO (by omega)) (fun rv2 M2 q => ?_)
    obtain ⟨q, s⟩ := q
    rcases q with ⟨-, q1, q2⟩ | ⟨z, -⟩
    · exact ⟨_, q1, q2, (fun z => by cases z), la, lb, pa, pb0, rl, n, t, D, c, T, U, p, w, mk, I.fr s.1 (fun b hb h z => by omega), J.sc P.2.2.1.1 s, P⟩
    · rw [hb] at z; cases z
theorem p_rests {x1 x2 x3 x4 : Int32} (hT : g.1.stackTraces = false) (hn : mn M = 173) (h : Inv M) : PrH g YL_rests YX12_rests hRs [.int x1, .int x2, .int x3, .int x4] M := by
  obtain ⟨la, lb, pa, pb0, rl, n, t, D, c, T, U, p, w, mk, I, J, P⟩ := h
  obtain ⟨L, W, Tp, H, hm, K, V, Q, Sg, Ps, Mk⟩ := id I
  have o0 : ob M 0 11 := L.s rfl (by decide)
  have h7 : ar M 172 2 1 := L.s rfl (by decide)
  have o130 : ob M 130 12 := L.s rfl (by decide)
  have Tg0 := L.tg hn
  cases hb : restA x1 x2 x3 x4 with
  | some r =>
    refine ⟨false, RTH.to (tL_restsA o0 h7 Tg0 (tX11_restsA hb (by omega))) (fun rv M1 q => ?_)⟩
    obtain ⟨rfl, rfl⟩ := q
    refine ⟨rfl, hn, o130, fun j => ?_⟩
    have F : Fr (fun b => b = 172) M (wj M 172 0 r.toInt64) := Fr.rf.wj rfl
    have I1 := I.fr F (fun b hb _ z => by omega)
    have J1 := J.fr9 F (fun b h1 h2 z => by omega)
    refine RT.to (tX12_rests I1.1 (by omega)) (fun rv2 M2 q => ?_)
    obtain ⟨q, -, s⟩ := q
    have e7 := congrFun (s.1.j (b := 172) (by omega)) 0
    rcases q with ⟨z, -⟩ | ⟨v, q0, q1, q2⟩
    · rw [hb] at z; cases z
    · rw [hb] at q0
      cases q0
      refine ⟨_, q1, q2, fun _ => ?_, la, lb, pa, pb0, rl, n, t, D, c, T, U, p, w, mk, I1.fr s.1 (fun b hb h z => by omega), J1.sc P.2.2.1.1 s, P⟩
      rw [e7, wj_at, if_pos ⟨rfl, rfl⟩]
  | none =>
    refine ⟨true, RTH.to (tL_restsB o0 Tg0 (tX11_restsB hT hb (by omega))) (fun rv M1 q => ?_)⟩
    obtain ⟨rfl, rfl⟩ := q
    refine ⟨rfl, hn, o130, fun j => ?_⟩
    refine RT.to (tX12_rests L (by omega)) (fun rv2 M2 q => ?_)
    obtain ⟨q, ⟨v2, q1⟩, s⟩ := q
    rcases q with ⟨-, q2⟩ | ⟨v, z, -⟩
    · exact ⟨v2, q1, q2, (fun z => by cases z), la, lb, pa, pb0, rl, n, t, D, c, T, U, p, w, mk, I.fr s.1 (fun b hb h z => by omega), J.sc P.2.2.1.1 s, P⟩
    · rw [hb] at z; cases z
end HP
