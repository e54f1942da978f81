/-! ===== EX: from this point of this method the machine comes to a return with P =====
A method: its name, its code, its locals, its answer's type, how many arguments it takes beside 'this'. -/
abbrev YY : Type := MethodName × ByteArray × Nat × Option FieldType × Nat
abbrev yN (Y : YY) : MethodName := Y.1
abbrev yC (Y : YY) : ByteArray := Y.2.1
abbrev yL (Y : YY) : Nat := Y.2.2.1
abbrev yR (Y : YY) : Option FieldType := Y.2.2.2.1
abbrev yA (Y : YY) : Nat := Y.2.2.2.2
abbrev yK (Y : YY) : Cond := .code (yN Y) (yC Y) (yL Y) (yR Y)
def mT (g : GG) : List (ClassId × FieldType) := [(g.2.2.2 1, .int), (g.2.2.2 2, .long), (g.2.2.2 3, .boolean), (g.2.2.2 4, .char), (g.2.2.2 5, .object RX3), (g.2.2.2 6, .object RX10)]
/-- cells that nobody looks at any more lie behind the run's own: how many -/
abbrev gJ (g : GG) : Nat := g.2.2.2 99
abbrev gZ (g : GG) : Nat := gJ g + gB g
abbrev gA (g : GG) : Nat → Prop := fun q => gB g ≤ q
abbrev gV (g : GG) (M : MM) (H : Heap) : Prop := va_P g.2.2.1 vwCl (mW g M) H
/-- words that aren't carried with a method's own: links of private constructors, classes of arrays of references -/
def isNest : Cond → Bool
  | .methodLinkNest _ _ _ _ => true
  | _ => false
def gN (s : State) : Prop := (∀ w ∈ lw_tbl, isNest w = true → va_Nw w s) ∧ va_AO RX3 s ∧ va_AO RX10 s
theorem gN.warm {s U : State} (hW : s.WarmedH U.vm) (h : gN s) : gN U := by
  refine ⟨fun w hw hn => ?_, h.2.1.moved hW.alike, h.2.2.moved hW.alike⟩
  have h1 := h.1 w hw hn
  cases w <;> first | exact va_Nw.warmM hW h1 | cases hn
theorem gN.same {s U : State} (hv : s.vm = U.vm) (h : gN s) : gN U := by
  refine ⟨fun w hw hn => ?_, h.2.1.moved (by rw [hv]; exact Vm.Alike.refl _), h.2.2.moved (by rw [hv]; exact Vm.Alike.refl _)⟩
  have h1 := h.1 w hw hn
  cases w <;> first | exact va_Nw.same rfl hv h1 | cases hn
/-- what the run began with: the state at the law's entry, below whose heap nothing has changed -/
def gX (g : GG) (s : State) : Prop := ∃ (s0 : State) (b : Nat), s0.heap.size = gB g ∧ s0.WarmedH s.vm ∧ (∀ a : Nat, a < gB g → s.heap[a]? = s0.heap[a]?) ∧ (∀ w ∈ lw_tbl, w.before #[Value.ref b] s0 = true) ∧ (Jvm.Cond.and given_1 narrow_1).before #[Value.ref b] s0 = true
abbrev gK (g : GG) (s : State) : Prop := va_K g.2.2.1 vwCl (mT g) s ∧ gN s ∧ gX g s
theorem gX.go {g : GG} {s U : State} {H : Heap} {locs : List Loc} (h : gX g s) (hb : gB g ≤ s.heap.size) (hS : va_S (gA g) s.heap H locs) (hU : U.heap = H) (hW : s.WarmedH U.vm) : gX g U := by
  obtain ⟨s0, b, h1, h2, h3, h4, h5⟩ := h
  exact ⟨s0, b, h1, State.WarmedH.trans h2 hW, fun a ha => by rw [hU, hS.2.1 a (Nat.lt_of_lt_of_le ha hb) (Nat.not_le.mpr ha)]; exact h3 a ha, h4, h5⟩
def xQ (g : GG) (P : Option Value → MM → Prop) : Array Value → State → Outcome → State → Prop := fun _ st o t =>
  (∃ (rv : Option Value) (M : MM), o = .returned (rv.map (xv (gB g))) ∧ P rv M ∧ gV g M t.heap ∧ t.heap.size = gZ g + mn M) ∧ va_F (gA g) st t
abbrev xR (d mc ms : Nat) : Room := { frames := d, cells := mc, slots := ms, locals := 40 * d }
def xC (g : GG) (Y : YY) (p : Program) (s : State) (m : MethodId) (args : Array Value) (meth : Method) (c : Code) : Prop :=
  p.tables.exec = Jvm.exec ∧ c.code = yC Y ∧ c.maxLocals = yL Y ∧ s.vm.findClass (yN Y).cls = some m.cls ∧ (∀ w ∈ gw, w.before args s = true) ∧ meth.sig.returnType = yR Y ∧ meth.locks = false ∧ meth.name = (yN Y).name ∧ gK g s ∧ gB g ≤ s.heap.size
def EX (g : GG) (Y : YY) (d mc ms ce sl pc : Nat) (lv : List (Nat × Value)) (st : List Value) (M : MM) (P : Option Value → MM → Prop) : Prop :=
  ∀ (p : Program) (e : Env) (s : State) (m : MethodId) (args : Array Value) (below : List Frame) (meth : Method) (c : Code) (H : Heap) (locs : List Loc) (ls : Array Slot),
    xC g Y p s m args meth c → gV g M H → va_S (gA g) s.heap H locs → H.size = gZ g + mn M → lv_has ls (yL Y) (xlv g lv) →
    W p g.1 e (xR d mc ms) s m args below meth c H locs ce sl (MQ below (xQ g P) args s mc ms (gA g)) (F0 m pc ls (xst g st))
/-- a method's contract: called with these arguments and this memory it returns with P; its words are gw -/
def RT (g : GG) (Y : YY) (d mc ms : Nat) (av : List Value) (M : MM) (P : Option Value → MM → Prop) : Prop :=
  Met g.1 (yN Y) (yK Y :: gw) (xR d mc ms) (va_Pc (xst g av) (fun U => U.heap.size = gZ g + mn M ∧ gV g M U.heap ∧ gK g U)) (xQ g P) mc ms (gA g)
section EXB
variable {g : GG} {Y : YY} {d mc ms ce sl pc : Nat} {lv : List (Nat × Value)} {st : List Value} {M : MM} {P : Option Value → MM → Prop}
theorem EX.to {P' : Option Value → MM → Prop} (h : EX g Y d mc ms ce sl pc lv st M P') (hp : ∀ rv M', P' rv M' → P rv M') : EX g Y d mc ms ce sl pc lv st M P := by
  intro p e s m args below meth c H locs ls C hP hS hz hl T hT X
  obtain ⟨t, a, o, b1, b2, ⟨⟨rv, M', e1, e2, e3⟩, e4⟩, b4⟩ := h p e s m args below meth c H locs ls C hP hS hz hl T hT X
  exact ⟨t, a, o, b1, b2, ⟨⟨rv, M', e1, hp _ _ e2, e3⟩, e4⟩, b4⟩
theorem EX.sub {lv' : List (Nat × Value)} (ks : List Nat) (h : EX g Y d mc ms ce sl pc lv' st M P) (hk : lv_pick lv ks = lv') : EX g Y d mc ms ce sl pc lv st M P := by
  intro p e s m args below meth c H locs ls C hP hS hz hl
  refine h p e s m args below meth c H locs ls C hP hS hz (lv_sub hl ks ?_)
  subst hk
  clear h
  unfold lv_pick
  induction ks with
  | nil => rfl
  | cons k ks ih =>
    rw [List.filterMap_cons, List.filterMap_cons, List.getElem?_map]
    cases lv[k]? with
    | none => exact ih
    | some q => simp only [Option.map_some]; rw [ih]; rfl
theorem EX.entry {av : List Value} (hY : plainName (yN Y).cls = true) (hl : (lg_sl av).length ≤ yL Y) (h : EX g Y d mc ms 0 0 0 (lv_args 0 av) [] M P) : RT g Y d mc ms av M P := by
  unfold RT
  refine Met.ofW (cc := yC Y) (maxL := yL Y) (ret := yR Y) hY rfl ?_
  intro p e s m args below meth c s₁ B hml hv
  obtain ⟨rfl, hz, hP, hK⟩ := hv
  have hts := atoms_spec (ws := yK Y :: gw) B.pre
  have C : xC g Y p s m (xst g av).toArray meth c := ⟨B.exec, B.bytes, hml, findClass_of_methodNamed B.named, fun w hw => hts w (List.mem_cons_of_mem _ hw), B.returns, B.notSynchronized, (name_of_methodNamed B.named B.method).1, hK, by rw [hz]; exact Nat.le_trans (Nat.le_add_left _ _) (Nat.le_add_right _ _)⟩
  have e1 : ∀ (av : List Value), (lg_sl (xst g av)).length = (lg_sl av).length := by
    intro av
    induction av with
    | nil => rfl
    | cons v av ih =>
      unfold lg_sl at ih ⊢
      simp only [xst, List.map_cons, List.flatMap_cons, List.length_append, xv_cat] at ih ⊢
      rw [ih]
      split <;> rfl
  have e2 : ∀ (av : List Value) (i : Nat), lv_args i (xst g av) = xlv g (lv_args i av) := by
    intro av
    induction av with
    | nil => intro i; rfl
    | cons v av ih =>
      intro i
      simp only [xst, List.map_cons, lv_args, xv_cat] at ih ⊢
      rw [ih]
  have hl0 := lv_entry (xst g av) (n := yL Y) (by rw [e1]; exact hl)
  rw [e2] at hl0
  rw [lg_entry_eq]
  exact h p e s m _ below meth c s.heap [] _ C hP va_S.rf hz hl0
end EXB
