/-- what holds at the law's entry: the machine, the code, the tables' words (any of lw_tbl by 'hts w (by decide +kernel)'), the script of L ints xs at the cell b, what the Statement gives of the start (any of its parts by flat_of_before) -/
def lw_At (p : Program) (s : State) (m : MethodId) (meth : Method) (c : Code) (b L : Nat) (xs : Nat → Int32) : Prop :=
  p.tables.exec = Jvm.exec ∧ c.code = code ∧ meth.sig.returnType = ret ∧ c.maxLocals = 7 ∧ s.vm.findClass R_law = some m.cls ∧ (∀ w ∈ lw_tbl, w.before #[Value.ref b] s = true) ∧ va_X b L xs s s.heap ∧ b < s.heap.size ∧ meth.locks = false ∧ (Jvm.Cond.and given_1 narrow_1).before #[Value.ref b] s = true ∧ meth.name = x.name
/-! ===== what the machine knows at the law's entry ===== -/
section KN
variable {s : State} {args : Array Value}
theorem kn_of {own : String} {idx ci : Nat} (F : CN own idx ci) (hts : ∀ w ∈ gw, w.before args s = true) : ∃ (cC : ClassId) (iS : Nat → Nat), ∀ q, vwCl[ci]? = some q → u_Kn s q.1 q.2.1 q.2.2 cC iS := by
  obtain ⟨C, T, hcl, hin, -, -, -, w2, -⟩ := F
  obtain ⟨cC, iS, h⟩ := u_known hts hin (hts _ w2)
  refine ⟨cC, iS, fun q hq => ?_⟩
  cases hcl.symm.trans hq
  exact h
theorem kn_all (hts : ∀ w ∈ gw, w.before args s = true) (ci : Nat) : ∃ (cC : ClassId) (iS : Nat → Nat), ∀ q, vwCl[ci]? = some q → u_Kn s q.1 q.2.1 q.2.2 cC iS := by
  match ci with
  | 0 => exact kn_of cnX11_7 hts
  | 1 => exact kn_of cnX11_83 hts
  | 2 => exact kn_of cnX0_31 hts
  | 3 => exact kn_of cnX11_69 hts
  | 4 => exact kn_of cnX11_55 hts
  | 5 => exact kn_of cnX11_35 hts
  | 6 => exact kn_of cnX11_76 hts
  | 7 => exact kn_of cnX11_26 hts
  | 8 => exact kn_of cnX11_62 hts
  | 9 => exact kn_of cnX11_19 hts
  | 10 => exact kn_of cnX11_45 hts
  | 11 => exact kn_of cnL_8 hts
  | 12 => exact kn_of cnL_20 hts
  | n + 13 => exact ⟨(0 : Nat), fun _ => 0, fun q hq => by cases hq⟩
theorem kn_arr {ty : FieldType} (h : (Cond.arrayClass ty).before args s = true) : ∃ cA : ClassId, ArrOfT s cA ty ∧ s.vm.findClass ("[" ++ ty.toString) = some cA := by
  obtain ⟨cA, k, comp, h1, h2, h3⟩ := Cond.arrayClass_spec h
  exact ⟨cA, fun n z => ⟨fun k h => (by cases h), k, h2, comp, h3⟩, h1⟩
theorem kn_ov {C : String} (h : (Cond.arrayOver (.object C)).before args s = true) : ∃ cA : ClassId, ArrOfT s cA (.object C) ∧ va_RA s cA (.object C) := by
  obtain ⟨comp, cA, k, h1, -, h3, h4, h5⟩ := Cond.arrayOver_spec h
  exact ⟨cA, fun n z => ⟨fun k h => (by cases h), k, h3, comp, h4⟩, k, comp, h3, h4, h1, h5⟩
end KN
theorem whole_start {p : Program} {e : Env} {s : State} {m : MethodId} {below : List Frame} {meth : Method} {c : Code} (l : Launch) (hT : l.stackTraces = false) {b L : Nat} {xs : Nat → Int32} (hL : L ≤ 3584) (C0 : lw_At p s m meth c b L xs) : W p l e room_1 s m #[Value.ref b] below meth c s.heap [] 0 0 (lw_Z below #[Value.ref b] s) (entryFrame m ([Value.ref b] : List Value).toArray 7) := by
  obtain ⟨hx, hb, hr, hml, hown, hts0, hX, hbl, hlk, hgv, hnm⟩ := C0
  have hts : ∀ w ∈ gw, w.before #[Value.ref b] s = true := fun w hw => hts0 w (List.mem_filter.mp hw).1
  obtain ⟨aI, i1, i2⟩ := kn_arr (hts _ gk_ar_int)
  obtain ⟨aL, l1, l2⟩ := kn_arr (hts _ gk_ar_long)
  obtain ⟨aZ, z1, z2⟩ := kn_arr (hts _ gk_ar_boolean)
  obtain ⟨aC, c1, c2⟩ := kn_arr (hts _ gk_ar_char)
  obtain ⟨aM, m1, m2⟩ := kn_ov (hts0 _ gk_ao_RX3)
  obtain ⟨aT, t1, t2⟩ := kn_ov (hts0 _ gk_ao_RX10)
  obtain ⟨dC, hC⟩ : ∃ dC : Nat → ClassId, ∀ ci, ∃ iS : Nat → Nat, ∀ q, vwCl[ci]? = some q → u_Kn s q.1 q.2.1 q.2.2 (dC ci) iS := ⟨fun ci => (kn_all hts ci).choose, fun ci => (kn_all hts ci).choose_spec⟩
  obtain ⟨dI, hI⟩ : ∃ dI : Nat → Nat → Nat, ∀ ci q, vwCl[ci]? = some q → u_Kn s q.1 q.2.1 q.2.2 (dC ci) (dI ci) := ⟨fun ci => (hC ci).choose, fun ci => (hC ci).choose_spec⟩
  have key : ∀ g : GG, g = (l, s.heap.size, (dC, dI), fun k => if k = 1 then aI else if k = 2 then aL else if k = 3 then aZ else if k = 4 then aC else if k = 5 then aM else if k = 6 then aT else (0 : Nat)) → W p l e room_1 s m #[Value.ref b] below meth c s.heap [] 0 0 (lw_Z below #[Value.ref b] s) (entryFrame m ([Value.ref b] : List Value).toArray 7) := by
    intro g hg
    have g1 : g.1 = l := by rw [hg]
    have g2 : gB g = s.heap.size := by rw [hg]
    have gj0 : gJ g = 0 := by rw [hg]; rfl
    have gT : mT g = [(aI, .int), (aL, .long), (aZ, .boolean), (aC, .char), (aM, .object RX3), (aT, .object RX10)] := by rw [hg]; rfl
    have gD : g.2.2.1 = (dC, dI) := by rw [hg]
    have hK : va_K g.2.2.1 vwCl (mT g) s := by
      rw [gD, gT]
      refine ⟨fun ci q hq => hI ci q hq, fun k q hq => ?_⟩
      match k with
      | 0 => cases hq; exact ⟨i1, i2⟩
      | 1 => cases hq; exact ⟨l1, l2⟩
      | 2 => cases hq; exact ⟨z1, z2⟩
      | 3 => cases hq; exact ⟨c1, c2⟩
      | 4 => cases hq; exact ⟨m1, m2⟩
      | 5 => cases hq; exact ⟨t1, t2⟩
      | n + 6 => cases hq
    have hN : gN s := by
      refine ⟨fun w hw hn => ?_, va_AO.of (hts0 _ gk_ao_RX3), va_AO.of (hts0 _ gk_ao_RX10)⟩
      have h1 := hts0 w hw
      cases w <;> first | exact va_tabs (u := s) (U := s) rfl rfl h1 | cases hn
    have hG : gX g s := ⟨s, b, g2.symm, State.WarmedH.refl s, fun a _ => rfl, hts0, hgv⟩
    have C : xC g YLaw p s m #[Value.ref b] meth c := ⟨hx, hb, hml, hown, hts, hr, hlk, hnm, ⟨hK, hN, hG⟩, Nat.le_of_eq g2⟩
    have X : XL g p s m meth c b L xs := ⟨C, hX, hbl, g2, by rw [g1]; exact hT, hL⟩
    have hP : gV g MS0 s.heap := fun k q hk => absurd (mW_of hk).1 (Nat.not_lt_zero k)
    have hz : s.heap.size = gZ g + mn MS0 := by
      show s.heap.size = gJ g + gB g + 0
      rw [gj0, g2, Nat.zero_add, Nat.add_zero]
    have hl0 : lv_has (lg_sl [Value.ref b] ++ List.replicate (7 - (lg_sl [Value.ref b]).length) Slot.unset).toArray 7 ([(0, Value.ref b)] ++ xlv g []) := lv_entry [Value.ref b] (n := 7) (Nat.le_of_ble_eq_true rfl)
    have h := l_start (e := e) (below := below) X gj0 s.heap [] _ hP va_S.rf hz hl0
    rw [g1] at h
    rw [lg_entry_eq]
    exact h
  exact key _ rfl
set_option maxHeartbeats 4000000 in
theorem lw_walk (l : Launch) (hT : l.stackTraces = false) (b : Addr) (xs : List Int32) : MetFree l x (headSpec (Jvm.Cond.code x code maxLocals ret :: tables_1) room_1) (lw_P b xs) (fun _ _ _ _ _ => True) lw_Q := by
  refine MetFree.of_bodyS (code := code) (maxLocals := maxLocals) (ret := ret) (by decide) ?_ ?_
  · intro args s m h hn
    obtain ⟨meth, c, h1, h2, h3, h4, h5, h6, -, -⟩ := Cond.code_spec hn (atoms_spec (ws := Jvm.Cond.code x code maxLocals ret :: tables_1) h _ List.mem_cons_self)
    exact ⟨meth, c, h1, h2, h3, h4, h5, h6⟩
  · intro p e s m args below meth c s₁ B hml0 hP _
    obtain ⟨rfl, hx, hbd, hgv⟩ := hP
    obtain ⟨scr, harrAt, hlist, hof, hsmall⟩ := hx
    obtain ⟨hcb, hkn, -, -⟩ := State.arrayAt?_spec harrAt
    have hown : s.vm.findClass R_law = some m.cls := findClass_of_methodNamed B.named
    have hts0 : ∀ c ∈ (Jvm.Cond.code x code maxLocals ret :: tables_1), c.before #[Value.ref b] s = true := atoms_spec (ws := Jvm.Cond.code x code maxLocals ret :: tables_1) B.pre
    have hts : ∀ w ∈ lw_tbl, w.before #[Value.ref b] s = true := k2_hts_sels lw_privs (fun w hw => hts0 w (List.mem_cons_of_mem _ hw)) lw_privs_ok
    have hml : c.maxLocals = 7 := B.maxLocals_eq (hts0 _ List.mem_cons_self)
    have X₀ : Stand p l e room_1 s m #[Value.ref b] below meth c s₁ [] 0 0 := Stand.of_body B
    have hh0 : s₁.heap = s.heap := by rw [B.state]; rfl
    have hsz : scr.slots.size = xs.length := by rw [← Array.length_toList, hlist, List.length_map]
    have hval : ∀ j : Nat, j < xs.length → scr.slots[j]? = some (.int (xs.getD j 0)) := fun j hj => by
      rw [← Array.getElem?_toList, hlist]
      simp [hj]
    have hbl : b < s.heap.size := (Array.getElem?_eq_some_iff.mp hcb).1
    have hX : va_X b xs.length (fun j => xs.getD j 0) s s.heap := ⟨scr, hcb, hof, hkn, hsz, hval⟩
    have K : W p l e room_1 s m #[Value.ref b] below meth c s₁.heap [] 0 0 (lw_Z below #[Value.ref b] s) (entryFrame m ([Value.ref b] : List Value).toArray 7) := by
      rw [hh0]
      exact whole_start l hT hbd ⟨B.exec, B.bytes, B.returns, hml, hown, hts, hX, hbl, B.notSynchronized, hgv, (name_of_methodNamed B.named B.method).1⟩
    obtain ⟨t, a1, o, b1, b2, b3⟩ := K s₁ rfl X₀
    exact ⟨t, o, a1, b1, b2, b3⟩
theorem lw_pre_spec {args : Array Value} {s : State} (h : (Jvm.Cond.and given_1 narrow_1).before args s = true) (hr : rest_1_c.before args s = true) : ∃ (b : Addr) (xs : List Int32), lw_P b xs args s := by
  have hs := flat_of_before _ h
  have hq := flat_of_before _ hr
  have hc : (Cond.count 1).before args s = true := hs _ (by decide +kernel)
  have harr : (Cond.arrayOf (.arg 0) .int).before args s = true := hs _ (by decide +kernel)
  have hle : (Cond.le (.length (.arg 0)) (.int 3584)).before args s = true := hs _ (by decide +kernel)
  have hlen : (Cond.isInt (.length (.arg 0))).before args s = true := hq _ (by decide +kernel)
  have hall : (Cond.all (.arg 0) (.isInt (.elem (.arg 0) (.index 0)))).before args s = true := hq _ (by decide +kernel)
  obtain ⟨b, xs, hb, hx⟩ := State.ints_of_pre rfl harr hlen hall
  have hsm : xs.length < 2 ^ 31 := hx.choose_spec.2.2.2
  have hev : (Term.length (.arg 0)).eval args s none [] s = some (.int xs.length.toInt32) := hx.length_eval hb
  have hv := Cond.le_ints hev (show (Term.int 3584).eval args s none [] s = some (.int 3584) from rfl)
  have hd : xs.length.toInt32 ≤ 3584 := by
    simpa [Cond.before, Cond.holds, hv] using hle
  have hN : xs.length ≤ 3584 := (Int32.ofNat_le_ofNat hsm (by decide)).mp (show Int32.ofNat xs.length ≤ Int32.ofNat 3584 from hd)
  exact ⟨b, xs, Cond.one_arg hc (show args[0]? = some (.ref b) from hb), hx, hN, h⟩
theorem lw_comes (l : Launch) (hT : l.stackTraces = false) : Comes l x (Jvm.Cond.code x code maxLocals ret :: tables_1) room_1 (fun tb e args s => Calls_1 tb e args s ∧ rest_1 tb e args s ∧ Pre_1 tb e args s)
    (fun _ _ args s o t => lw_Q args s o t) := by
  intro p e ha hc hk s m args below hf hfit hheap happ hpre
  obtain ⟨b, xs, hP⟩ := lw_pre_spec hpre.2.2 hpre.2.1
  obtain ⟨k, o, h1, h2, h3, hQ⟩ := lw_walk l hT b xs p e ha hc hk s m args below hf ((Spec.applies_iff_loose hf).mp happ).1 hP trivial
  exact ⟨k, o, h1, h2, h3, hQ⟩
theorem lw_frame {s t : State} {o : Outcome} {args : Array Value} (h : Framed s o t [] 601024 7293034) :
    Framed s o t (fieldLocs frame_1_writes args s ++ arrayLocs frame_1_arrays args s ++ staticLocs frame_1_statics s) 601024 7293034 := h
theorem lw_limb (L : Cond) (hL : ∀ (args : Array Value) (s t : State), L.after args s (.returned (some (.int 1))) t = true) :
    ArmFor flags0 classFile x code maxLocals ret World_1 tables_1 room_1 Calls_1 rest_1 Pre_1
      (fun tb e a s o t => postC L tb e a s o t ∧ Framed s o t (fieldLocs frame_1_writes a s ++ arrayLocs frame_1_arrays a s ++ staticLocs frame_1_statics s) 601024 7293034) := by
  intro l hfl _ _ p e ha hc hk s m args below hf hfit hheap happ hpre
  obtain ⟨k, o, h1, h2, h3, rfl, hF⟩ := lw_comes l (by unfold Launch.stackTraces; rw [hfl]; decide +kernel) p e ha hc hk s m args below hf hfit hheap happ hpre
  exact ⟨k, _, h1, h2, h3, hL args s _, lw_frame hF⟩
theorem i_vc : Claimed_1_1 ∧ Claimed_1_2 := ⟨lw_limb limb_1_1 (fun args s t => by simp [limb_1_1, Cond.after, Cond.holds, Cond.value]), lw_limb limb_1_2 (fun args s t => Cond.after_iff.mpr (by
  first | (rw [show limb_1_2 = Cond.eq .result (.int 1) from rfl, Cond.eq_ints (x := 1) (y := 1) rfl rfl]; simp; done) | (simp [limb_1_2, Cond.value, Term.eval]; done)))⟩
