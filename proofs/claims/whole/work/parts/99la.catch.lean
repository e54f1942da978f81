/-! A throw that the first row of a method's own table takes: what the printed head has for this rests on a part of the library that rounds don't read, so it is proved here, for this case alone. -/
section KXC
variable {p : Program} {l : Launch} {e : Env} {R : Room} {s : State} {m : MethodId} {args : Array Value} {below : List Frame} {meth : Method} {c : Code} {H : Heap} {locs : List Loc} {cells slots : Nat} {Q : State → Prop}
/-- the search ends at the first row, and what it leaves in the tables is that row's class -/
theorem kx_search {U : State} {f : JFrame} {q : Addr} {ce : Cell} {x : ExceptionTableEntry} {suf : List ExceptionTableEntry} {ci : ClassId} (hm : U.vm.method? f.method = some meth) (hc : meth.code = some c) (htab : c.exceptionTable.toList = x :: suf)
    (hx : covers x f.pc = true) (h0 : x.catchType ≠ 0) (hl : U.vm.ClassLinks e.platform f.method.cls x.catchType ci) (hcell : U.heap[q]? = some ce) (hv : ce.vm = .none)
    (hk : ∃ k, U.vm.classes[ce.cls]? = some k) (hk2 : ∃ k, U.vm.classes[ci]? = some k) (hfit : U.vm.assignable ce.cls ci = true) (Q1 : Handler → Pre) (E1 : CtlPost) (d : Bool) (acts : List Action) :
    wp (findHandler f q) Q1 E1 e d acts U ↔ Q1 (.found x.handlerPc) d acts (U.setVm (U.vm.noted f.method.cls x.catchType (.cls ci))) := by
  have hA : U.vm.Alike (U.vm.noted f.method.cls x.catchType (.cls ci)) := (Vm.Alike.refl U.vm).noted _ _ _
  obtain ⟨h1, h2⟩ := (resolveClass_links e.toSetting hl).op (op := VmOp.resolveClass f.method.cls x.catchType) rfl
  obtain ⟨k, hk⟩ := hk
  obtain ⟨k2, hk2⟩ := hk2
  obtain ⟨k', hk', -⟩ := hA.2.2 _ _ hk
  obtain ⟨k2', hk2', -⟩ := hA.2.2 _ _ hk2
  have hf : (U.vm.noted f.method.cls x.catchType (.cls ci)).assignable ce.cls ci = true := (hA.assignable _ _).trans hfit
  have hobj : ∀ k, ce.vm ≠ .statics k := fun k h => by rw [hv] at h; cases h
  simp only [covers] at hx
  rw [W.findHandler_eq hm hc, htab]
  simp [findHandler.go, hx, h0, h1, h2, hcell, hobj, hk', hk2', hf, VmOp.dirties, VmOp.acts]
/-- the step that takes it -/
theorem kx_step {U : State} {q : Addr} {f : JFrame} {r : List Frame} {pc1 : Nat} {vm1 : Vm}
    (h : ∀ (Q1 : Handler → Pre) (E1 : CtlPost) (d : Bool) (acts : List Action), wp (findHandler f q) Q1 E1 e d acts U ↔ Q1 (.found pc1) d acts (U.setVm vm1)) :
    (stepThrowing e U q (.java f :: r)).Is ((U.setVm vm1).setFrames (.java { f with pc := pc1, stack := [.ref q] } :: r)) [] := by
  simp only [stepThrowing, searchFrame, vmDo]
  generalize hr : Sem.go _ e false [] U = res
  obtain ⟨as, rfl, ha⟩ := Sem.eq_ok_of hr (a := Handler.found pc1) (s' := U.setVm vm1) (acts' := []) (by simp [h _ _ _ _])
  exact ⟨rfl, ha⟩
/-- caught by the first row of this method's table -/
theorem kx_catch {own name E : String} {ce : Cell} {q : Addr} {pc : Nat} {ls : Array Slot} {rest : List Value} (hown : s.vm.findClass own = some m.cls) (x : ExceptionTableEntry) (suf : List ExceptionTableEntry) (htab : c.exceptionTable.toList = x :: suf)
    (hx : covers x pc = true) (h0 : x.catchType ≠ 0) (hlink : (Cond.classLink own x.catchType name).before args s = true) (hcast : (Cond.castable E name).before args s = true) (hcell : H[q]? = some ce) (hv : ce.vm = .none) (hcl : s.vm.findClass E = some ce.cls)
    (kk : W p l e R s m args below meth c H locs cells slots Q (F0 m x.handlerPc ls [.ref q])) : vx_W p l e R s m args below meth c H locs cells slots Q (F0 m pc ls rest) q := by
  intro T hT X
  have hpl : e.platform.magicAccessors = ({} : Platform).magicAccessors := by rw [X.admits.platform]
  obtain ⟨a1, a2, b1, b2, hasg⟩ := Cond.castable_spec hcast
  cases Option.some.inj (b1.symm.trans hcl)
  obtain ⟨a3, b3, hL⟩ := Cond.classLink_spec hown hlink e.platform hpl
  cases Option.some.inj (b2.symm.trans b3)
  obtain ⟨dk, -, -, kt, hd, -, -, -, -, hkt, -, hopen⟩ := hL.here
  obtain ⟨k0, hk0, -⟩ := Vm.findClass_spec hcl
  obtain ⟨kt', hkt', -⟩ := X.warmed.alike.2.2 _ _ hkt
  obtain ⟨k0', hk0', -⟩ := X.warmed.alike.2.2 _ _ hk0
  have X1 := X.noted (X.warmed.noted hd hopen (State.rightAt_cls hL))
  obtain ⟨t, st, hQ⟩ := kk (T.setVm (T.vm.noted m.cls x.catchType (.cls a2))) hT X1
  refine ⟨t, ?_, hQ⟩
  have hF := kx_search (e := e) (U := (T.setTop (F0 m pc ls rest)).pushFrame (.throwing q)) (f := F0 m pc ls rest) (q := q) (x := x) X.method' X.code htab hx h0 (X.warmed.classLinks hL) (by show T.heap[q]? = some ce; rw [hT]; exact hcell) hv ⟨k0', hk0'⟩ ⟨kt', hkt'⟩ (by show T.vm.assignable _ _ = true; rw [X.warmed.alike.assignable]; exact hasg)
  have hA : At T (F0 m pc ls rest).method c below := X.here
  obtain ⟨hgo, hw⟩ := hA.throwing q
  refine Steps.head hgo hw ?_
  rw [stepThread_throwing (frames_entered hA.top _), (kx_step hF).1]
  obtain ⟨g0, hfr⟩ := X.frames_eq
  have hfr1 : (T.setVm (T.vm.noted m.cls x.catchType (.cls a2))).frames = .java g0 :: below := hfr
  rw [State.setTop_of_frames _ hfr1] at st
  have hset : ∀ (u : State) (v : Vm) (F G : List Frame), ((u.setFrames F).setVm v).setFrames G = (u.setVm v).setFrames G := fun u v F G => State.setFrames_setFrames (u.setVm v) F G
  rw [hfr, List.tail_cons, State.pushFrame, hset, State.setTop_of_frames _ hfr, hset]
  exact st
end KXC
