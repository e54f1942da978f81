/-! ===== the law's helpers: a call that may throw, caught ===== -/
def gj (g : GG) (j : Nat) : GG := (g.1, g.2.1, g.2.2.1, fun k => if k = 99 then j else g.2.2.2 k)
theorem gj_J (g : GG) (j : Nat) : gJ (gj g j) = j := by
  show (if (99 : Nat) = 99 then j else g.2.2.2 99) = j
  exact if_pos rfl
theorem gj_Z (g : GG) (j : Nat) : gZ (gj g j) = j + gB g := congrArg (fun n => n + gB g) (gj_J g j)
/-- no cell bears the number that counts the others -/
def Tg (M : MM) : Prop := ∀ a, a < mn M → (mh M a).1 ≠ 99
section GJ
variable {g : GG} {j : Nat} {M : MM}
theorem mE_j9 {a : Nat} (h : (mh M a).1 ≠ 99) : mE (gB g) (gj g j).2.2.2 M a = mE (gB g) g.2.2.2 M a := by
  have e : (gj g j).2.2.2 (mh M a).1 = g.2.2.2 (mh M a).1 := if_neg h
  have e2 : (gj g j).2.2.2 2 = g.2.2.2 2 := by
    show (if (2 : Nat) = 99 then j else g.2.2.2 2) = _
    exact if_neg (by decide)
  unfold mE
  rw [e, e2]
theorem mW_j9 (h : Tg M) : mW (gj g j) M = mW g M := by
  unfold mW
  refine List.map_congr_left (fun a ha => ?_)
  have := mE_j9 (g := g) (j := j) (h a (List.mem_range.mp ha))
  exact congrArg (fun e => (gB g + a, e)) this
theorem gV_j {H : Heap} (h : Tg M) (hP : gV g M H) : gV (gj g j) M H := by
  show va_P g.2.2.1 vwCl (mW (gj g j) M) H
  rw [mW_j9 h]
  exact hP
theorem gK_j {s : State} (h : gK g s) : gK (gj g j) s := ⟨h.1, h.2.1, h.2.2⟩
theorem xC_j {Y : YY} {p : Program} {s : State} {m : MethodId} {args : Array Value} {meth : Method} {c : Code} (C : xC g Y p s m args meth c) : xC (gj g j) Y p s m args meth c := ⟨C.1, C.2.1, C.2.2.1, C.2.2.2.1, C.2.2.2.2.1, C.2.2.2.2.2.1, C.2.2.2.2.2.2.1, C.2.2.2.2.2.2.2.1, gK_j C.2.2.2.2.2.2.2.2.1, C.2.2.2.2.2.2.2.2.2⟩
end GJ
/-- a method that makes no cell: the number of cells stays -/
theorem R0.n {g : GG} {Y : YY} {d : Nat} {av : List Value} {M : MM} {P : Option Value → MM → Prop} (h : R0 g Y d av M P) : R0 g Y d av M (fun rv M1 => P rv M1 ∧ mn M1 = mn M) := by
  intro p e ha hc hk s m args below h1 h2 h3 h4
  obtain ⟨k, o, a1, a2, a3, ⟨⟨rv, M1, e1, e2, e3, e4⟩, e5⟩, L, a5, a6⟩ := h p e ha hc hk s m args below h1 h2 h3 h4
  refine ⟨k, o, a1, a2, a3, ⟨⟨rv, M1, e1, ⟨e2, ?_⟩, e3, e4⟩, e5⟩, L, a5, a6⟩
  have q1 := a5.2.2.2.1
  have q2 := a5.2.2.2.2.1
  have q3 := h3.2.1
  have q1 : s.heap.size ≤ (stepsAlone p.tables e k s).heap.size := q1
  have q2 : (stepsAlone p.tables e k s).heap.size ≤ s.heap.size + 0 := q2
  omega
def RTH (g : GG) (Y : YY) (hh : List (Nat × Nat × Nat × Nat)) (d : Nat) (av : List Value) (M : MM) (P : Option Value → MM → Prop) : Prop :=
  Met g.1 (yN Y) (Cond.codeWith (yN Y) (yC Y) (yL Y) (yR Y) hh :: gw) (xR d 1 6) (va_Pc (xst g av) (fun U => U.heap.size = gZ g + mn M ∧ gV g M U.heap ∧ gK g U)) (fun a st o t => ∃ j, xQ (gj g j) P a st o t) 1 6 (gA g)
theorem RTH.to {g : GG} {Y : YY} {hh : List (Nat × Nat × Nat × Nat)} {d : Nat} {av : List Value} {M : MM} {P1 P : Option Value → MM → Prop} (h : RTH g Y hh d av M P1) (hp : ∀ rv M', P1 rv M' → P rv M') : RTH g Y hh d av M P := by
  intro p e ha hc hk s m args below h1 h2 h3 h4
  obtain ⟨k, o, a1, a2, a3, ⟨j, ⟨rv, M', e1, e2, e3⟩, e4⟩, a5⟩ := h p e ha hc hk s m args below h1 h2 h3 h4
  exact ⟨k, o, a1, a2, a3, ⟨j, ⟨rv, M', e1, hp _ _ e2, e3⟩, e4⟩, a5⟩
section HL
variable {g : GG} {Y : YY} {d : Nat} {M : MM} {P : Option Value → MM → Prop} {hh : List (Nat × Nat × Nat × Nat)}
theorem RTH.of {av : List Value} (hY : plainName (yN Y).cls = true) (hl : (lg_sl av).length ≤ yL Y) (h : ∀ (p : Program) (e : Env) (s : State) (m : MethodId) (args : Array Value) (below : List Frame) (meth : Method) (c : Code), xC g Y p s m args meth c → c.exceptionTable.toList = tableOf hh → EQ g Y p e s m args below meth c (xR d 1 6) (MQ below (fun a st o t => ∃ j, xQ (gj g j) P a st o t) args s 1 6 (gA g)) [] 0 0 0 (lv_args 0 av) [] M) : RTH g Y hh d av M P := by
  unfold RTH
  refine MetFree.of_bodyS (code := yC Y) (maxLocals := yL Y) (ret := yR Y) hY ?_ ?_
  · intro args s m h hn
    obtain ⟨m9, meth, c, hn9, h1, h2, h3, h4, -, h5, h6, -⟩ := Cond.codeWith_spec (atoms_spec (ws := Cond.codeWith (yN Y) (yC Y) (yL Y) (yR Y) hh :: gw) h _ List.mem_cons_self)
    cases hn.symm.trans hn9
    exact ⟨meth, c, h1, h2, h3, h4, h5, h6⟩
  · intro p e s m args below meth c s₁ B hml hv _
    obtain ⟨rfl, hz, hP, hK⟩ := hv
    have hh0 : s₁.heap = s.heap := by rw [B.state]; rfl
    have hts := atoms_spec (ws := Cond.codeWith (yN Y) (yC Y) (yL Y) (yR Y) hh :: gw) B.pre
    have ht := vx_table (x := yN Y) B (hts _ List.mem_cons_self)
    have C : xC g Y p s m (xst g av).toArray meth c := ⟨B.exec, B.bytes, hml, findClass_of_methodNamed B.named, fun w hw => hts w (List.mem_cons_of_mem _ hw), B.returns, B.notSynchronized, (name_of_methodNamed B.named B.method).1, hK, by rw [hz]; exact Nat.le_trans (Nat.le_add_left _ _) (Nat.le_add_right _ _)⟩
    have e1 : ∀ (av : List Value), (lg_sl (xst g av)).length = (lg_sl av).length := by
      intro av
      induction av with
      | nil => rfl
      | cons v av ih =>
        unfold lg_sl at ih ⊢
        simp only [xst, List.map_cons, List.flatMap_cons, List.length_append, xv_cat] at ih ⊢
        rw [ih]
        split <;> rfl
    have e2 : ∀ (av : List Value) (i : Nat), lv_args i (xst g av) = xlv g (lv_args i av) := by
      intro av
      induction av with
      | nil => intro i; rfl
      | cons v av ih =>
        intro i
        simp only [xst, List.map_cons, lv_args, xv_cat] at ih ⊢
        rw [ih]
    have hl0 := lv_entry (xst g av) (n := yL Y) (by rw [e1]; exact hl)
    rw [e2] at hl0
    have hb := h p e s m _ below meth c C ht s.heap [] _ hP va_S.rf hz hl0
    have hb : W p g.1 e (xR d 1 6) s m (xst g av).toArray below meth c s.heap [] 0 0 (MQ below (fun a st o t => ∃ j, xQ (gj g j) P a st o t) (xst g av).toArray s 1 6 (gA g)) (entryFrame m (xst g av).toArray (yL Y)) := by
      rw [lg_entry_eq]
      exact hb
    obtain ⟨t, a1, o, b1, b2, b3⟩ := hb s₁ hh0 (Stand.of_body B)
    exact ⟨t, o, a1, b1, b2, ⟨b3.1, b3.2⟩⟩
section
variable {p : Program} {e : Env} {s : State} {m : MethodId} {args : Array Value} {below : List Frame} {meth : Method} {c : Code} {R : Room} {Q : State → Prop} {rl : List (Nat × Value)} {ce sl pc : Nat} {lv : List (Nat × Value)} {st : List Value}
/-- a call that throws, and the handler of this method -/
theorem y_catchV {idx b ci d1 : Nat} {As st0 : List Value} {x : ExceptionTableEntry} (C : xC g Y p s m args meth c) (Z : YY) (F : CV (yN Y).cls idx Z) (hd : decode (yC Y) pc = .ok (.invokevirtual idx, 3)) (hst : st0 = As.reverse ++ .ref b :: st) (hn : As.length = yA Z) (hb : b < mn M) (hs : mh M b = (0, ci)) (hci : vwCl[ci]?.map (fun r => r.1) = some (yN Z).cls) (hf : ce + 1 ≤ R.cells ∧ sl + 6 ≤ R.slots) (hR : d1 + 1 ≤ R.frames ∧ 40 * (d1 + 1) ≤ R.locals) (hw : (st.map fun v => v.category).sum ≤ 8)
    (hM : RTX g Z d1 (.ref b :: As) M) (htab : c.exceptionTable.toList = [x]) (hx : covers x pc = true) (h0 : x.catchType ≠ 0) (hlink : Cond.classLink (yN Y).cls x.catchType NSE ∈ gw)
    (kk : ∀ (q9 : Addr) (H1 : Heap) (locs1 : List Loc) (ls : Array Slot), gV g M H1 → va_S (gA g) s.heap H1 locs1 → gZ g + mn M ≤ H1.size → lv_has ls (yL Y) (rl ++ xlv g lv) → W p g.1 e R s m args below meth c H1 locs1 (ce + 1) (sl + 6) Q (F0 m x.handlerPc ls [.ref q9])) : EQ g Y p e s m args below meth c R Q rl ce sl pc lv st0 M := by
  intro H locs ls hP hS hz hl
  subst hst
  have hK := C.2.2.2.2.2.2.2.2.1.1
  have hpre := x_pre (av := .ref b :: As) C.2.2.2.2.2.2.2.2.1 C.2.2.2.2.2.2.2.2.2 hS hP hz
  have he := mW_at g M hb
  rw [mE_ob hs] at he
  obtain ⟨r, hr⟩ : ∃ r, vwCl[ci]? = some r := by
    cases h : vwCl[ci]? with
    | none => rw [h] at hci; cases hci
    | some r => exact ⟨r, rfl⟩
  rw [hr] at hci
  have hrn : r.1 = (yN Z).cls := Option.some.inj hci
  have hrecv := va_recv hK hP hr he
  rw [hrn] at hrecv
  obtain ⟨hb1, w1, w2, w3⟩ := F
  have hts := C.2.2.2.2.1
  have hrun := vx_runV (As := xst g As) (b := gB g + b) (rest := xst g st) (nL := yL Y) (Ts := gw) (g := F0 m pc ls (xst g (As.reverse ++ .ref b :: st))) (locs := locs) (cells := ce) (slots := sl) (e := e) (below := below) (meth := meth) ⟨C.1, C.2.1, C.2.2.1, C.2.2.2.1, hts⟩ hM ⟨w_cb (R := R) hb1 hts w1 hR, hts _ w2, hts _ w3⟩ ⟨hpre.1, hrecv, hpre.2⟩ rfl (by rw [List.length_map]; exact hn) hl.1 (by simp [xst, xv, F0]) (by show 2 * 0 + _ ≤ 8; rw [x_sum]; omega) hd hf
  intro T hT X
  rcases hrun T hT X with ⟨v, st₀, t, T', L, e0, X', hL, e1, e2, hq, -⟩ | ⟨q, st₀, t, T', L, E, ce9, e0, X', hL, e1, e2, ⟨rfl, hV, hsz, hF⟩, hce, hcv, hcl, stp⟩
  · exact hq.elim
  · obtain ⟨k1, k2, k3⟩ := vx_keep (free := gA g) (A0 := gA g) (A1 := gA g) e0 e1 hS (fun q _ h => h) (fun q h => h) hL hF
    have kx := kx_catch (own := (yN Y).cls) (name := NSE) (E := NSE) (ce := ce9) (q := q) (pc := pc) (ls := ls) (rest := xst g st) (Q := Q) (l := g.1) (e := e) (R := R) (below := below) (H := T'.heap) (locs := locs ++ L) (cells := ce + 1) (slots := sl + 6) (p := p) (meth := meth) C.2.2.2.1 x [] htab hx h0 (hts _ hlink) (C.2.2.2.2.2.2.2.2.1.2.2.dc (lw_of5 21 rfl) rfl) (by rw [e1]; exact hce) hcv hcl (kk q T'.heap (locs ++ L) ls (by rw [e1]; exact hV) k3 (by rw [e1]; exact hsz) hl)
    obtain ⟨t2, a1, b1⟩ := kx T' rfl X'
    exact ⟨t2, stp.trans a1, b1⟩
end
end HL
