/-! ===== the class's two methods that throw ===== -/
def nxF (own : String) (ic : Nat) (X Y : String) (ix : Nat) (rx : ByteArray) (names : List String) : List Cond := (nxA own ic X Y ix rx names).filter vx_no
section NXE
variable {p : Program} {l : Launch} {e : Env} {R : Room} {s : State} {m : MethodId} {args : Array Value} {below : List Frame} {meth : Method} {c : Code} {H : Heap} {locs : List Loc} {cells slots : Nat} {Q : State → Prop}
variable {mc ms : Nat} {free : Addr → Prop} {A0 A1 : Nat → Prop} {H0 : Heap} {a : Array Value} {ls : Array Slot} {st0 rest : List Value}
variable {Qc : Array Value → State → Outcome → State → Prop} {XC : String → State → State → Prop}
theorem nx_throwS {cc : ByteArray} {pc : Nat} (hexec : p.tables.exec = Jvm.exec) (hb : c.code = cc) (hl : l.stackTraces = false) {own cls text Y9 : String} {ix9 : Nat} {rx9 : ByteArray} {names : List String} {ik is ic mc ms sa : Nat} {A : Nat → Prop}
    (x0 : decode rx9 0 = .ok (.aload_n 0, 1)) (x1 : decode rx9 1 = .ok (.aload_n 1, 1)) (x2 : decode rx9 2 = .ok (.invokespecial ix9, 3)) (x5 : decode rx9 5 = .ok (.return_, 1)) (hown : s.vm.findClass own = some m.cls) (hcls : Bundle.fit cls = true) (hYf : Bundle.fit Y9 = true) (hnames : ∀ n ∈ names, Bundle.fit n = true)
    (hk : (Cond.classLink own ik cls).before args s = true) (hini : (Cond.initialized cls).before args s = true) (hstr : vk_R own is text sa s) (hat : ∀ w ∈ nxF own ic cls Y9 ix9 rx9 names, w.before args s = true)
    (hgood : ∀ w ∈ Cond.classLink own ik cls :: Cond.initialized cls :: nxF own ic cls Y9 ix9 rx9 names, vx_ot w = true)
    (hU : vx_Zq Bundle.tN "UNASSIGNED_STACK" Bundle.steD A s s.heap) (hN : vx_Zq Bundle.tN "SUPPRESSED_SENTINEL" Bundle.listD A s s.heap) (hS : va_S A s.heap H locs) (hsize : ls.size = c.maxLocals)
    (d0 : decode cc pc = .ok (.new ik, 3)) (d3 : decode cc (pc + 3) = .ok (.dup, 1)) (d4 : decode cc (pc + 4) = .ok (.ldc is, 2)) (d6 : decode cc (pc + 6) = .ok (.invokespecial ic, 3)) (d9 : decode cc (pc + 9) = .ok (.athrow, 1))
    (hout : ∀ x ∈ c.exceptionTable.toList, covers x (pc + 9) = false)
    (hRframes : names.length + 4 < R.frames) (hRlocals : (rest.map fun v => v.category).sum + (13 * (names.length + 2) + 43) ≤ R.locals) (hRcells : cells + 1 ≤ R.cells) (hRslots : slots + 6 ≤ R.slots) (hlocks : meth.locks = false)
    (hx : ∀ t : State, s.vm.Alike t.vm → H.size ≤ t.heap.size → (∀ q : Nat, q < H.size → t.heap[q]? = H[q]?) → XC cls s t)
    (hf : ∀ z ∈ locs, free z.base) (hc : cells + 1 ≤ mc) (hs : slots + 6 ≤ ms) :
    W p l e R s m args below meth c H locs cells slots (vx_MQ below Qc XC args s mc ms free) (F0 m pc ls rest) := by
  intro T hT X
  have htr : e.platform.stackTraces = false := (show e.platform.stackTraces = l.stackTraces by rw [X.admits.platform]).trans hl
  have Y := vx_rebase X (R' := { frames := R.frames, locals := R.locals, cells := 1, slots := 6 }) (Nat.le_refl _) (Nat.le_refl _) hRcells hRslots
  obtain ⟨s', hA⟩ : ∃ z, z = (T.setVm s.vm).setFrames (.invoking m args :: below) := ⟨_, rfl⟩
  rw [← hA] at Y
  have hvm : s'.vm = s.vm := by rw [hA]; rfl
  have hhp : s'.heap = H := by rw [hA]; exact hT
  have hW0 : s.WarmedH s'.vm := by rw [hvm]; exact State.WarmedH.refl s
  have hat' : ∀ w ∈ nxF own ic cls Y9 ix9 rx9 names, w.before args s' = true := fun w hw => vx_ot_at hW0 hvm.symm (hgood w (List.mem_cons_of_mem _ (List.mem_cons_of_mem _ hw))) (hat w hw)
  have hk' : (Cond.classLink own ik cls).before args s' = true := vx_ot_at hW0 hvm.symm (hgood _ List.mem_cons_self) hk
  have hini' : (Cond.initialized cls).before args s' = true := vx_ot_at hW0 hvm.symm (hgood _ (List.mem_cons_of_mem _ List.mem_cons_self)) hini
  have hU' : vx_Zq Bundle.tN "UNASSIGNED_STACK" Bundle.steD A s' s'.heap := by rw [hhp]; exact vx_Zq.moved hW0.alike (hU.kept hS.2.1)
  have hN' : vx_Zq Bundle.tN "SUPPRESSED_SENTINEL" Bundle.listD A s' s'.heap := by rw [hhp]; exact vx_Zq.moved hW0.alike (hN.kept hS.2.1)
  have h : ∀ w ∈ nxA own ic cls Y9 ix9 rx9 names, w.before args s' = true := vx_own hat' (vx_isRefq hU'.1) (vx_isRefq hN'.1) hU'.2.word hN'.2.word
  have hown' : s'.vm.findClass own = some m.cls := by rw [hvm]; exact hown
  have hins : (Cond.instantiable cls 6).before args s' = true := h _ (by simp [nxA])
  obtain ⟨vm₁, cX, kX, hfX, hkX, -, -, X₁, st1⟩ := Y.newCold hexec (own := own) (C := cls) (index := ik) (n := 6) hown' hk' hins hini'
    (g := F0 m pc ls rest) rfl (by rw [hb]; exact d0) (Nat.le_refl _) (Nat.le_refl _)
  generalize hT1 : (T.setVm vm₁).pushCell { cls := cX, slots := kX.instanceTypes.map defaultValue, vm := .none } = T1 at X₁ st1
  have hcat : (Value.ref T.heap.size).category = 1 := rfl
  have hcellA : T1.heap[T.heap.size]? = some (freshCell cX kX) := by rw [← hT1]; exact State.heap_pushCell_size _ _
  have d3' : decode c.code (pc + 3) = .ok (.dup, 1) := by rw [hb]; exact d3
  have d4' : decode c.code (pc + 4) = .ok (.ldc is, 2) := by rw [hb]; exact d4
  have hstr' : vk_R own is text sa s' := vk_R.warm hW0 hstr
  obtain ⟨U, hsteps, hrun, hend, hW, hsame, ce, hce, hOv, hOc⟩ := nx_ctor X₁ hexec htr (own := own) (cls := cls) (Y := Y9) (names := names) (ic := ic) x0 x1 x2 x5 hown' hcls hYf hnames h (fun x hx => nomatch hx) hfX hkX hcellA (by rw [hhp, hT]; exact Nat.le_refl _) (msg := .ref sa) rfl
    (g := { method := m, pc := pc + 6, locals := ls, stack := .ref sa :: .ref T.heap.size :: .ref T.heap.size :: rest, locked := none }) rfl hsize rfl rfl (rest := rest) rfl
    (by rw [hb]; exact d6) (by rw [hb]; exact d9) hout hRframes (by simp only [List.map_cons, List.sum_cons, hcat]; omega) hlocks
  obtain ⟨f1, f2⟩ := vx_frame hsame
  rw [hhp] at f1 f2
  have hWs : s.WarmedH U.vm := State.WarmedH.trans hW0 hW
  have hcl : s.vm.findClass cls = some ce.cls := by
    have h9 := hOc
    rw [hvm] at h9
    exact h9
  have hall : s.sameButNew ({ U with vm := s.vm } : State) locs mc ms := by
    subst hA
    obtain ⟨e1, e2⟩ := hsame
    rw [State.setFrames_setFrames] at e1
    have h2 : (T.setVm s.vm).sameButNew ({ U with vm := s.vm } : State) [] (0 + 1) (0 + 6) := ⟨e1, e2⟩
    have h3 := X.same.trans h2
    rw [List.append_nil] at h3
    exact h3.mono hc hs
  refine ⟨U, ?_, .threw T.heap.size, hrun, hend, Or.inr ⟨T.heap.size, rfl, cls, ce, locs, hx U hWs.alike f1 (fun q hq => f2 q hq (fun z hz => nomatch hz)), hce, hOv, hcl, hWs, hall, hf⟩⟩
  refine st1 _ ?_
  show Steps p.tables e below (T1.setTop { method := m, pc := pc + 3, locals := ls, stack := .ref T.heap.size :: rest, locked := none }) _
  jvm_step X₁.here [X₁.here.top, hexec, d3', Value.category]
  exact X₁.ldcString hexec (own := own) (text := text) (index := is) (a := sa) hown' hstr'.1 hstr'.2
    (g := { method := m, pc := pc + 4, locals := ls, stack := .ref T.heap.size :: .ref T.heap.size :: rest, locked := none }) rfl d4' _ hsteps
theorem nx_throwSW {cc : ByteArray} {pc : Nat} (hexec : p.tables.exec = Jvm.exec) (hb : c.code = cc) (hl : l.stackTraces = false) {own cls text Y9 : String} {ix9 : Nat} {rx9 : ByteArray} {names : List String} {ik is ic mc ms sa : Nat} {A : Nat → Prop}
    (x0 : decode rx9 0 = .ok (.aload_n 0, 1)) (x1 : decode rx9 1 = .ok (.aload_n 1, 1)) (x2 : decode rx9 2 = .ok (.invokespecial ix9, 3)) (x5 : decode rx9 5 = .ok (.return_, 1)) (hown : s.vm.findClass own = some m.cls) (hcls : Bundle.fit cls = true) (hYf : Bundle.fit Y9 = true) (hnames : ∀ n ∈ names, Bundle.fit n = true)
    (hk : (Cond.classLink own ik cls).before args s = true) (hini : (Cond.initialized cls).before args s = true) (hstr : vk_R own is text sa s) (hat : ∀ w ∈ nxF own ic cls Y9 ix9 rx9 names, w.before args s = true)
    (hgood : ∀ w ∈ Cond.classLink own ik cls :: Cond.initialized cls :: nxF own ic cls Y9 ix9 rx9 names, vx_ot w = true)
    (hU : vx_Zq Bundle.tN "UNASSIGNED_STACK" Bundle.steD A s s.heap) (hN : vx_Zq Bundle.tN "SUPPRESSED_SENTINEL" Bundle.listD A s s.heap) (hS : va_S A s.heap H locs) (hsize : ls.size = c.maxLocals)
    (d0 : decode cc pc = .ok (.new ik, 3)) (d3 : decode cc (pc + 3) = .ok (.dup, 1)) (d4 : decode cc (pc + 4) = .ok (.ldc_w is, 3)) (d7 : decode cc (pc + 7) = .ok (.invokespecial ic, 3)) (d10 : decode cc (pc + 10) = .ok (.athrow, 1))
    (hout : ∀ x ∈ c.exceptionTable.toList, covers x (pc + 10) = false)
    (hRframes : names.length + 4 < R.frames) (hRlocals : (rest.map fun v => v.category).sum + (13 * (names.length + 2) + 43) ≤ R.locals) (hRcells : cells + 1 ≤ R.cells) (hRslots : slots + 6 ≤ R.slots) (hlocks : meth.locks = false)
    (hx : ∀ t : State, s.vm.Alike t.vm → H.size ≤ t.heap.size → (∀ q : Nat, q < H.size → t.heap[q]? = H[q]?) → XC cls s t)
    (hf : ∀ z ∈ locs, free z.base) (hc : cells + 1 ≤ mc) (hs : slots + 6 ≤ ms) :
    W p l e R s m args below meth c H locs cells slots (vx_MQ below Qc XC args s mc ms free) (F0 m pc ls rest) := by
  intro T hT X
  have htr : e.platform.stackTraces = false := (show e.platform.stackTraces = l.stackTraces by rw [X.admits.platform]).trans hl
  have Y := vx_rebase X (R' := { frames := R.frames, locals := R.locals, cells := 1, slots := 6 }) (Nat.le_refl _) (Nat.le_refl _) hRcells hRslots
  obtain ⟨s', hA⟩ : ∃ z, z = (T.setVm s.vm).setFrames (.invoking m args :: below) := ⟨_, rfl⟩
  rw [← hA] at Y
  have hvm : s'.vm = s.vm := by rw [hA]; rfl
  have hhp : s'.heap = H := by rw [hA]; exact hT
  have hW0 : s.WarmedH s'.vm := by rw [hvm]; exact State.WarmedH.refl s
  have hat' : ∀ w ∈ nxF own ic cls Y9 ix9 rx9 names, w.before args s' = true := fun w hw => vx_ot_at hW0 hvm.symm (hgood w (List.mem_cons_of_mem _ (List.mem_cons_of_mem _ hw))) (hat w hw)
  have hk' : (Cond.classLink own ik cls).before args s' = true := vx_ot_at hW0 hvm.symm (hgood _ List.mem_cons_self) hk
  have hini' : (Cond.initialized cls).before args s' = true := vx_ot_at hW0 hvm.symm (hgood _ (List.mem_cons_of_mem _ List.mem_cons_self)) hini
  have hU' : vx_Zq Bundle.tN "UNASSIGNED_STACK" Bundle.steD A s' s'.heap := by rw [hhp]; exact vx_Zq.moved hW0.alike (hU.kept hS.2.1)
  have hN' : vx_Zq Bundle.tN "SUPPRESSED_SENTINEL" Bundle.listD A s' s'.heap := by rw [hhp]; exact vx_Zq.moved hW0.alike (hN.kept hS.2.1)
  have h : ∀ w ∈ nxA own ic cls Y9 ix9 rx9 names, w.before args s' = true := vx_own hat' (vx_isRefq hU'.1) (vx_isRefq hN'.1) hU'.2.word hN'.2.word
  have hown' : s'.vm.findClass own = some m.cls := by rw [hvm]; exact hown
  have hins : (Cond.instantiable cls 6).before args s' = true := h _ (by simp [nxA])
  obtain ⟨vm₁, cX, kX, hfX, hkX, -, -, X₁, st1⟩ := Y.newCold hexec (own := own) (C := cls) (index := ik) (n := 6) hown' hk' hins hini'
    (g := F0 m pc ls rest) rfl (by rw [hb]; exact d0) (Nat.le_refl _) (Nat.le_refl _)
  generalize hT1 : (T.setVm vm₁).pushCell { cls := cX, slots := kX.instanceTypes.map defaultValue, vm := .none } = T1 at X₁ st1
  have hcat : (Value.ref T.heap.size).category = 1 := rfl
  have hcellA : T1.heap[T.heap.size]? = some (freshCell cX kX) := by rw [← hT1]; exact State.heap_pushCell_size _ _
  have d3' : decode c.code (pc + 3) = .ok (.dup, 1) := by rw [hb]; exact d3
  have d4' : decode c.code (pc + 4) = .ok (.ldc_w is, 3) := by rw [hb]; exact d4
  have hstr' : vk_R own is text sa s' := vk_R.warm hW0 hstr
  obtain ⟨U, hsteps, hrun, hend, hW, hsame, ce, hce, hOv, hOc⟩ := nx_ctor X₁ hexec htr (own := own) (cls := cls) (Y := Y9) (names := names) (ic := ic) x0 x1 x2 x5 hown' hcls hYf hnames h (fun x hx => nomatch hx) hfX hkX hcellA (by rw [hhp, hT]; exact Nat.le_refl _) (msg := .ref sa) rfl
    (g := { method := m, pc := pc + 7, locals := ls, stack := .ref sa :: .ref T.heap.size :: .ref T.heap.size :: rest, locked := none }) rfl hsize rfl rfl (rest := rest) rfl
    (by rw [hb]; exact d7) (by rw [hb]; exact d10) hout hRframes (by simp only [List.map_cons, List.sum_cons, hcat]; omega) hlocks
  obtain ⟨f1, f2⟩ := vx_frame hsame
  rw [hhp] at f1 f2
  have hWs : s.WarmedH U.vm := State.WarmedH.trans hW0 hW
  have hcl : s.vm.findClass cls = some ce.cls := by
    have h9 := hOc
    rw [hvm] at h9
    exact h9
  have hall : s.sameButNew ({ U with vm := s.vm } : State) locs mc ms := by
    subst hA
    obtain ⟨e1, e2⟩ := hsame
    rw [State.setFrames_setFrames] at e1
    have h2 : (T.setVm s.vm).sameButNew ({ U with vm := s.vm } : State) [] (0 + 1) (0 + 6) := ⟨e1, e2⟩
    have h3 := X.same.trans h2
    rw [List.append_nil] at h3
    exact h3.mono hc hs
  refine ⟨U, ?_, .threw T.heap.size, hrun, hend, Or.inr ⟨T.heap.size, rfl, cls, ce, locs, hx U hWs.alike f1 (fun q hq => f2 q hq (fun z hz => nomatch hz)), hce, hOv, hcl, hWs, hall, hf⟩⟩
  refine st1 _ ?_
  show Steps p.tables e below (T1.setTop { method := m, pc := pc + 3, locals := ls, stack := .ref T.heap.size :: rest, locked := none }) _
  jvm_step X₁.here [X₁.here.top, hexec, d3', Value.category]
  exact X₁.ldcStringW hexec (own := own) (text := text) (index := is) (a := sa) hown' hstr'.1 hstr'.2
    (g := { method := m, pc := pc + 4, locals := ls, stack := .ref T.heap.size :: .ref T.heap.size :: rest, locked := none }) rfl d4' _ hsteps
end NXE
abbrev NSE : String := "java/util/NoSuchElementException"
abbrev nsR : String := "java/lang/RuntimeException"
abbrev nsU : List String := ["java/lang/Exception"]
def nsF : List Cond := nxF RX11 234 NSE nsR 13 prog_28_method_4_code nsU
theorem ns_in : ∀ w ∈ nsF, w ∈ lw_tbl := by decide +kernel
def isDC : Cond → Bool
  | .declares _ => true
  | .castable _ _ => true
  | _ => false
theorem ns_dc : ∀ w ∈ nsF, (goodWord w || isDC w) = true := by decide +kernel
theorem ns_ot : ∀ w ∈ Cond.classLink RX11 230 NSE :: Cond.initialized NSE :: nsF, vx_ot w = true := by decide +kernel
/-- words that aren't carried: out of the start's -/
theorem gX.dc {g : GG} {s : State} (h : gX g s) {w : Cond} (hw : w ∈ lw_tbl) (hd : isDC w = true) {args : Array Value} : w.before args s = true := by
  obtain ⟨s0, b, h1, h2, h3, hts, hn⟩ := h
  have h0 := hts w hw
  cases w <;> first
    | exact va_tabs rfl rfl (va_Nw.warmD h2 (va_tabs (A' := #[]) (U := s0) rfl rfl h0))
    | exact va_tabs rfl rfl (va_Nw.warmC h2 (va_tabs (A' := #[]) (U := s0) rfl rfl h0))
    | cases hd
theorem gX.thr {g : GG} {s : State} (h : gX g s) : vx_Zq Bundle.tN "UNASSIGNED_STACK" Bundle.steD (gA g) s s.heap ∧ vx_Zq Bundle.tN "SUPPRESSED_SENTINEL" Bundle.listD (gA g) s s.heap ∧ (∃ a, vk_R RX11 232 "not one of the halls that are still to come" a s) ∧ (∃ a, vk_R RX11 304 "no such bid" a s) ∧ ∃ a, vk_R RX11 310 "no bid at rest of that number" a s := by
  obtain ⟨s0, b, h1, h2, h3, hts, hn⟩ := h
  have hs := flat_of_before _ hn
  have hA : ∀ a : Nat, a < s0.heap.size → ¬ gA g a := fun a ha => by rw [h1] at ha; exact Nat.not_le.mpr ha
  have hkp : ∀ a : Nat, a < s0.heap.size → ¬ gA g a → s.heap[a]? = s0.heap[a]? := fun a ha _ => h3 a (by rw [← h1]; exact ha)
  have st : ∀ k tx, (Cond.stringRef RX11 k tx).before #[Value.ref b] s0 = true → (Cond.exactly (Term.string RX11 k) "java/lang/String").before #[Value.ref b] s0 = true → ∃ a, vk_R RX11 k tx a s := fun k tx w1 w2 => by
    obtain ⟨a, c, cA, kA, q1, -⟩ := Cond.exactly_spec (args := #[Value.ref b]) (first := s0) (o := none) (s := s0) (idx := []) (t := Term.string RX11 k) (cls := "java/lang/String") w2
    exact ⟨a, vk_R.warm h2 (vk_R.of w1 q1)⟩
  refine ⟨vx_Zq.moved h2.alike ((vx_Zqof (hts _ (lw_of5 46 rfl)) (hts _ (lw_of1 20 rfl)) (hs _ (by decide +kernel)) hA).kept hkp), vx_Zq.moved h2.alike ((vx_Zqof (hts _ (lw_of5 48 rfl)) (hts _ (lw_of1 20 rfl)) (hs _ (by decide +kernel)) hA).kept hkp), st _ _ (hts _ (lw_of5 58 rfl)) (hs _ (by decide +kernel)), st _ _ (hts _ (lw_of5 98 rfl)) (hs _ (by decide +kernel)), st _ _ (hts _ (lw_of5 105 rfl)) (hs _ (by decide +kernel))⟩
/-- where a method of the class has thrown: the cells are as they were -/
def XCt (g : GG) (M : MM) : String → State → State → Prop := fun E st t => E = NSE ∧ gV g M t.heap ∧ gZ g + mn M ≤ t.heap.size ∧ va_F (gA g) st t
def RTX (g : GG) (Y : YY) (d : Nat) (av : List Value) (M : MM) : Prop :=
  vx_Met g.1 (yN Y) (yK Y :: gw) (xR d 1 6) (va_Pc (xst g av) (fun U => U.heap.size = gZ g + mn M ∧ gV g M U.heap ∧ gK g U)) (fun _ _ _ _ => False) (XCt g M) 1 6 (gA g)
section TH
variable {g : GG} {Y : YY} {d : Nat} {M : MM}
theorem RTX.of {av : List Value} (hY : plainName (yN Y).cls = true) (hl : (lg_sl av).length ≤ yL Y) (h : ∀ (p : Program) (e : Env) (s : State) (m : MethodId) (args : Array Value) (below : List Frame) (meth : Method) (c : Code), xC g Y p s m args meth c → (∀ x ∈ c.exceptionTable.toList, False) → EQ g Y p e s m args below meth c (xR d 1 6) (vx_MQ below (fun _ _ _ _ => False) (XCt g M) args s 1 6 (gA g)) [] 0 0 0 (lv_args 0 av) [] M) : RTX g Y d av M := by
  unfold RTX
  refine vx_ofW (cc := yC Y) (maxL := yL Y) (ret := yR Y) hY rfl ?_
  intro p e s m args below meth c s₁ B hml ht hv
  obtain ⟨rfl, hz, hP, hK⟩ := hv
  have hts := atoms_spec (ws := yK Y :: gw) B.pre
  have C : xC g Y p s m (xst g av).toArray meth c := ⟨B.exec, B.bytes, hml, findClass_of_methodNamed B.named, fun w hw => hts w (List.mem_cons_of_mem _ hw), B.returns, B.notSynchronized, (name_of_methodNamed B.named B.method).1, hK, by rw [hz]; exact Nat.le_trans (Nat.le_add_left _ _) (Nat.le_add_right _ _)⟩
  have e1 : ∀ (av : List Value), (lg_sl (xst g av)).length = (lg_sl av).length := by
    intro av
    induction av with
    | nil => rfl
    | cons v av ih =>
      unfold lg_sl at ih ⊢
      simp only [xst, List.map_cons, List.flatMap_cons, List.length_append, xv_cat] at ih ⊢
      rw [ih]
      split <;> rfl
  have e2 : ∀ (av : List Value) (i : Nat), lv_args i (xst g av) = xlv g (lv_args i av) := by
    intro av
    induction av with
    | nil => intro i; rfl
    | cons v av ih =>
      intro i
      simp only [xst, List.map_cons, lv_args, xv_cat] at ih ⊢
      rw [ih]
  have hl0 := lv_entry (xst g av) (n := yL Y) (by rw [e1]; exact hl)
  rw [e2] at hl0
  rw [lg_entry_eq]
  exact h p e s m _ below meth c C ht s.heap [] _ hP va_S.rf hz hl0
theorem gV.kept {H H1 : Heap} (h : gV g M H) (hz : gZ g + mn M ≤ H.size) (o : ∀ q : Nat, q < H.size → H1[q]? = H[q]?) : gV g M H1 := by
  intro k q hk
  obtain ⟨h1, rfl⟩ := mW_of hk
  exact (h k _ (mW_at g M h1)).kept (o _ (by show gB g + k < H.size; have : gZ g = gJ g + gB g := rfl; omega))
section
variable {p : Program} {e : Env} {s : State} {m : MethodId} {args : Array Value} {below : List Frame} {meth : Method} {c : Code} {pc : Nat} {lv : List (Nat × Value)} {rl : List (Nat × Value)}
theorem y_words (C : xC g Y p s m args meth c) : (∀ w ∈ nsF, w.before args s = true) ∧ (Cond.classLink RX11 230 NSE).before args s = true ∧ (Cond.initialized NSE).before args s = true := by
  refine ⟨fun w hw => ?_, C.2.2.2.2.1 _ (gw_of5 19 rfl rfl), C.2.2.2.2.1 _ (gw_of1 23 rfl rfl)⟩
  have h0 := ns_dc w hw
  cases q : goodWord w
  · rw [q] at h0
    exact C.2.2.2.2.2.2.2.2.1.2.2.dc (ns_in w hw) h0
  · exact C.2.2.2.2.1 w (List.mem_filter.mpr ⟨ns_in w hw, q⟩)
theorem y_throwS (C : xC g Y p s m args meth c) (hY : (yN Y).cls = RX11) (ht : ∀ x ∈ c.exceptionTable.toList, False) (hT : g.1.stackTraces = false) (hd6 : 7 ≤ d) (d0 : decode (yC Y) pc = .ok (.new 230, 3)) (d3 : decode (yC Y) (pc + 3) = .ok (.dup, 1)) (d4 : decode (yC Y) (pc + 4) = .ok (.ldc 232, 2)) (d6 : decode (yC Y) (pc + 6) = .ok (.invokespecial 234, 3)) (d9 : decode (yC Y) (pc + 9) = .ok (.athrow, 1)) : EQ g Y p e s m args below meth c (xR d 1 6) (vx_MQ below (fun _ _ _ _ => False) (XCt g M) args s 1 6 (gA g)) rl 0 0 pc lv [] M := by
  intro H locs ls hP hS hz hl
  obtain ⟨w1, w2, w3⟩ := y_words C
  obtain ⟨hU, hN, ⟨sa, hR⟩, -⟩ := C.2.2.2.2.2.2.2.2.1.2.2.thr
  have hown := C.2.2.2.1
  rw [hY] at hown
  refine nx_throwS (Y9 := nsR) (ix9 := 13) (rx9 := prog_28_method_4_code) (names := nsU) C.1 C.2.1 hT (by decide +kernel) (by decide +kernel) (by decide +kernel) (by decide +kernel) hown (by decide +kernel) (by decide +kernel) (by decide +kernel) w2 w3 hR w1 ns_ot hU hN hS (hl.1.trans C.2.2.1.symm) d0 d3 d4 d6 d9 (fun x hx => (ht x hx).elim) (by show 1 + 4 < d; omega) (by show 0 + (13 * (1 + 2) + 43) ≤ 40 * d; omega) (Nat.le_refl _) (Nat.le_refl _) C.2.2.2.2.2.2.1 (fun t hv h1 h2 => ⟨rfl, gV.kept hP (by rw [hz]; exact Nat.le_refl _) h2, by rw [← hz]; exact h1, Nat.le_trans hS.1 h1, fun q hq hn => (h2 q (Nat.lt_of_lt_of_le hq hS.1)).trans (hS.2.1 q hq hn)⟩) hS.2.2 (Nat.le_refl _) (Nat.le_refl _)
theorem y_throwSW {is : Nat} {text : String} (C : xC g Y p s m args meth c) (hY : (yN Y).cls = RX11) (ht : ∀ x ∈ c.exceptionTable.toList, False) (hT : g.1.stackTraces = false) (hd6 : 7 ≤ d) (hR : ∃ a, vk_R RX11 is text a s) (d0 : decode (yC Y) pc = .ok (.new 230, 3)) (d3 : decode (yC Y) (pc + 3) = .ok (.dup, 1)) (d4 : decode (yC Y) (pc + 4) = .ok (.ldc_w is, 3)) (d6 : decode (yC Y) (pc + 7) = .ok (.invokespecial 234, 3)) (d9 : decode (yC Y) (pc + 10) = .ok (.athrow, 1)) : EQ g Y p e s m args below meth c (xR d 1 6) (vx_MQ below (fun _ _ _ _ => False) (XCt g M) args s 1 6 (gA g)) rl 0 0 pc lv [] M := by
  intro H locs ls hP hS hz hl
  obtain ⟨w1, w2, w3⟩ := y_words C
  obtain ⟨hU, hN, -⟩ := C.2.2.2.2.2.2.2.2.1.2.2.thr
  obtain ⟨sa, hR⟩ := hR
  have hown := C.2.2.2.1
  rw [hY] at hown
  refine nx_throwSW (Y9 := nsR) (ix9 := 13) (rx9 := prog_28_method_4_code) (names := nsU) C.1 C.2.1 hT (by decide +kernel) (by decide +kernel) (by decide +kernel) (by decide +kernel) hown (by decide +kernel) (by decide +kernel) (by decide +kernel) w2 w3 hR w1 ns_ot hU hN hS (hl.1.trans C.2.2.1.symm) d0 d3 d4 d6 d9 (fun x hx => (ht x hx).elim) (by show 1 + 4 < d; omega) (by show 0 + (13 * (1 + 2) + 43) ≤ 40 * d; omega) (Nat.le_refl _) (Nat.le_refl _) C.2.2.2.2.2.2.1 (fun t hv h1 h2 => ⟨rfl, gV.kept hP (by rw [hz]; exact Nat.le_refl _) h2, by rw [← hz]; exact h1, Nat.le_trans hS.1 h1, fun q hq hn => (h2 q (Nat.lt_of_lt_of_le hq hS.1)).trans (hS.2.1 q hq hn)⟩) hS.2.2 (Nat.le_refl _) (Nat.le_refl _)
end
end TH
