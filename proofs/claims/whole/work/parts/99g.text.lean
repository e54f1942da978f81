/-! ===== calls from any room; the text of the language's words ===== -/
theorem dJ0_length_8abf5_0 : decode cJ0_length_8abf5 0 = .ok (.aload_n 0, 1) := by decide +kernel
theorem dJ0_length_8abf5_1 : decode cJ0_length_8abf5 1 = .ok (.getfield 9, 3) := by decide +kernel
theorem dJ0_length_8abf5_4 : decode cJ0_length_8abf5 4 = .ok (.arraylength, 1) := by decide +kernel
theorem dJ0_length_8abf5_5 : decode cJ0_length_8abf5 5 = .ok (.aload_n 0, 1) := by decide +kernel
theorem dJ0_length_8abf5_6 : decode cJ0_length_8abf5 6 = .ok (.invokevirtual 335, 3) := by decide +kernel
theorem dJ0_length_8abf5_9 : decode cJ0_length_8abf5 9 = .ok (.ishr, 1) := by decide +kernel
theorem dJ0_length_8abf5_10 : decode cJ0_length_8abf5 10 = .ok (.ireturn, 1) := by decide +kernel
theorem dJ0_charAt_5068e_0 : decode cJ0_charAt_5068e 0 = .ok (.aload_n 0, 1) := by decide +kernel
theorem dJ0_charAt_5068e_1 : decode cJ0_charAt_5068e 1 = .ok (.invokevirtual 492, 3) := by decide +kernel
theorem dJ0_charAt_5068e_4 : decode cJ0_charAt_5068e 4 = .ok (.ifCond .eq 12, 3) := by decide +kernel
theorem dJ0_charAt_5068e_7 : decode cJ0_charAt_5068e 7 = .ok (.aload_n 0, 1) := by decide +kernel
theorem dJ0_charAt_5068e_8 : decode cJ0_charAt_5068e 8 = .ok (.getfield 9, 3) := by decide +kernel
theorem dJ0_charAt_5068e_11 : decode cJ0_charAt_5068e 11 = .ok (.iload_n 1, 1) := by decide +kernel
theorem dJ0_charAt_5068e_12 : decode cJ0_charAt_5068e 12 = .ok (.invokestatic 495, 3) := by decide +kernel
theorem dJ0_charAt_5068e_15 : decode cJ0_charAt_5068e 15 = .ok (.ireturn, 1) := by decide +kernel
theorem dJ0_charAt_5068e_16 : decode cJ0_charAt_5068e 16 = .ok (.aload_n 0, 1) := by decide +kernel
theorem dJ0_charAt_5068e_17 : decode cJ0_charAt_5068e 17 = .ok (.getfield 9, 3) := by decide +kernel
theorem dJ0_charAt_5068e_20 : decode cJ0_charAt_5068e 20 = .ok (.iload_n 1, 1) := by decide +kernel
theorem dJ0_charAt_5068e_21 : decode cJ0_charAt_5068e 21 = .ok (.invokestatic 498, 3) := by decide +kernel
theorem dJ0_charAt_5068e_24 : decode cJ0_charAt_5068e 24 = .ok (.ireturn, 1) := by decide +kernel
theorem dJ0_coder_7d493_0 : decode cJ0_coder_7d493 0 = .ok (.getstatic 38, 3) := by decide +kernel
theorem dJ0_coder_7d493_3 : decode cJ0_coder_7d493 3 = .ok (.ifCond .eq 10, 3) := by decide +kernel
theorem dJ0_coder_7d493_6 : decode cJ0_coder_7d493 6 = .ok (.aload_n 0, 1) := by decide +kernel
theorem dJ0_coder_7d493_7 : decode cJ0_coder_7d493 7 = .ok (.getfield 15, 3) := by decide +kernel
theorem dJ0_coder_7d493_10 : decode cJ0_coder_7d493 10 = .ok (.goto 4, 3) := by decide +kernel
theorem dJ0_coder_7d493_13 : decode cJ0_coder_7d493 13 = .ok (.iconst 1, 1) := by decide +kernel
theorem dJ0_coder_7d493_14 : decode cJ0_coder_7d493 14 = .ok (.ireturn, 1) := by decide +kernel
theorem dJ0_isLatin1_aae02_0 : decode cJ0_isLatin1_aae02 0 = .ok (.getstatic 38, 3) := by decide +kernel
theorem dJ0_isLatin1_aae02_3 : decode cJ0_isLatin1_aae02 3 = .ok (.ifCond .eq 14, 3) := by decide +kernel
theorem dJ0_isLatin1_aae02_6 : decode cJ0_isLatin1_aae02 6 = .ok (.aload_n 0, 1) := by decide +kernel
theorem dJ0_isLatin1_aae02_7 : decode cJ0_isLatin1_aae02 7 = .ok (.getfield 15, 3) := by decide +kernel
theorem dJ0_isLatin1_aae02_10 : decode cJ0_isLatin1_aae02 10 = .ok (.ifCond .ne 7, 3) := by decide +kernel
theorem dJ0_isLatin1_aae02_13 : decode cJ0_isLatin1_aae02 13 = .ok (.iconst 1, 1) := by decide +kernel
theorem dJ0_isLatin1_aae02_14 : decode cJ0_isLatin1_aae02 14 = .ok (.goto 4, 3) := by decide +kernel
theorem dJ0_isLatin1_aae02_17 : decode cJ0_isLatin1_aae02 17 = .ok (.iconst 0, 1) := by decide +kernel
theorem dJ0_isLatin1_aae02_18 : decode cJ0_isLatin1_aae02 18 = .ok (.ireturn, 1) := by decide +kernel
theorem dJ0_checkIndex_df160_0 : decode cJ0_checkIndex_df160 0 = .ok (.iload_n 0, 1) := by decide +kernel
theorem dJ0_checkIndex_df160_1 : decode cJ0_checkIndex_df160 1 = .ok (.iload_n 1, 1) := by decide +kernel
theorem dJ0_checkIndex_df160_2 : decode cJ0_checkIndex_df160 2 = .ok (.getstatic 1053, 3) := by decide +kernel
theorem dJ0_checkIndex_df160_5 : decode cJ0_checkIndex_df160 5 = .ok (.invokestatic 1059, 3) := by decide +kernel
theorem dJ0_checkIndex_df160_8 : decode cJ0_checkIndex_df160 8 = .ok (.pop, 1) := by decide +kernel
theorem dJ0_checkIndex_df160_9 : decode cJ0_checkIndex_df160 9 = .ok (.return_, 1) := by decide +kernel
theorem dJ1_charAt_3b067_0 : decode cJ1_charAt_3b067 0 = .ok (.iload_n 1, 1) := by decide +kernel
theorem dJ1_charAt_3b067_1 : decode cJ1_charAt_3b067 1 = .ok (.aload_n 0, 1) := by decide +kernel
theorem dJ1_charAt_3b067_2 : decode cJ1_charAt_3b067 2 = .ok (.arraylength, 1) := by decide +kernel
theorem dJ1_charAt_3b067_3 : decode cJ1_charAt_3b067 3 = .ok (.invokestatic 9, 3) := by decide +kernel
theorem dJ1_charAt_3b067_6 : decode cJ1_charAt_3b067 6 = .ok (.aload_n 0, 1) := by decide +kernel
theorem dJ1_charAt_3b067_7 : decode cJ1_charAt_3b067 7 = .ok (.iload_n 1, 1) := by decide +kernel
theorem dJ1_charAt_3b067_8 : decode cJ1_charAt_3b067 8 = .ok (.baload, 1) := by decide +kernel
theorem dJ1_charAt_3b067_9 : decode cJ1_charAt_3b067 9 = .ok (.sipush 255, 3) := by decide +kernel
theorem dJ1_charAt_3b067_12 : decode cJ1_charAt_3b067 12 = .ok (.iand, 1) := by decide +kernel
theorem dJ1_charAt_3b067_13 : decode cJ1_charAt_3b067 13 = .ok (.i2c, 1) := by decide +kernel
theorem dJ1_charAt_3b067_14 : decode cJ1_charAt_3b067 14 = .ok (.ireturn, 1) := by decide +kernel
theorem dJ3_checkIndex_8e157_0 : decode cJ3_checkIndex_8e157 0 = .ok (.iload_n 0, 1) := by decide +kernel
theorem dJ3_checkIndex_8e157_1 : decode cJ3_checkIndex_8e157 1 = .ok (.ifCond .lt 8, 3) := by decide +kernel
theorem dJ3_checkIndex_8e157_4 : decode cJ3_checkIndex_8e157 4 = .ok (.iload_n 0, 1) := by decide +kernel
theorem dJ3_checkIndex_8e157_5 : decode cJ3_checkIndex_8e157 5 = .ok (.iload_n 1, 1) := by decide +kernel
theorem dJ3_checkIndex_8e157_6 : decode cJ3_checkIndex_8e157 6 = .ok (.if_icmp .lt 10, 3) := by decide +kernel
theorem dJ3_checkIndex_8e157_9 : decode cJ3_checkIndex_8e157 9 = .ok (.aload_n 2, 1) := by decide +kernel
theorem dJ3_checkIndex_8e157_10 : decode cJ3_checkIndex_8e157 10 = .ok (.iload_n 0, 1) := by decide +kernel
theorem dJ3_checkIndex_8e157_11 : decode cJ3_checkIndex_8e157 11 = .ok (.iload_n 1, 1) := by decide +kernel
theorem dJ3_checkIndex_8e157_12 : decode cJ3_checkIndex_8e157 12 = .ok (.invokestatic 95, 3) := by decide +kernel
theorem dJ3_checkIndex_8e157_15 : decode cJ3_checkIndex_8e157 15 = .ok (.athrow, 1) := by decide +kernel
theorem dJ3_checkIndex_8e157_16 : decode cJ3_checkIndex_8e157 16 = .ok (.iload_n 0, 1) := by decide +kernel
theorem dJ3_checkIndex_8e157_17 : decode cJ3_checkIndex_8e157 17 = .ok (.ireturn, 1) := by decide +kernel
section WC
variable {g : GG} {Y : YY} {p : Program} {e : Env} {R : Room} {s : State} {m : MethodId} {args : Array Value} {below : List Frame} {meth : Method} {c : Code} {H : Heap} {locs : List Loc} {ls : Array Slot} {Q : State → Prop} {pc ce sl mc1 ms1 : Nat} {P1 : Option Value → MM → Prop} {st0 rest : List Value}
theorem w_after {a : Array Value} (k : ∀ rv M1 H1 locs1, P1 rv M1 → gV g M1 H1 → va_S (gA g) s.heap H1 locs1 → H1.size = gZ g + mn M1 → W p g.1 e R s m args below meth c H1 locs1 (ce + mc1) (sl + ms1) Q (F0 m (pc + 3) ls ((rv.map (xv (gB g))).toList ++ rest)))
    (hS : va_S (gA g) s.heap H locs) (hr : va_Run p g.1 e R s m args below meth c H locs ce sl mc1 ms1 (F0 m pc ls st0) rest (xQ g P1 a) (gA g)) : W p g.1 e R s m args below meth c H locs ce sl Q (F0 m pc ls st0) := by
  intro T hT X
  obtain ⟨v, st₀, t, T', L, h0, X', hL, e1, e2, ⟨⟨rv, M1, hv, hp, hV, hsz⟩, hz2, hk⟩, stp⟩ := hr T hT X
  have hv : v = rv.map (xv (gB g)) := by
    have := hv
    simpa using this
  rw [h0] at hz2 hk
  have hA : ∀ q : Nat, q < s.heap.size → ¬ gA g q → T'.heap[q]? = s.heap[q]? := fun q h1 h2 => by
    rw [e1, hk q (Nat.lt_of_lt_of_le h1 hS.1) h2]; exact hS.2.1 q h1 h2
  have kk := k rv M1 T'.heap (locs ++ L) hp (by rw [e1]; exact hV) ⟨Nat.le_trans hS.1 (by rw [e1]; exact hz2), hA, fun q hq => by
      rcases List.mem_append.mp hq with h | h
      · exact hS.2.2 q h
      · exact hL q h⟩ (by rw [e1]; exact hsz) T' rfl X'
  obtain ⟨t2, a1, b1⟩ := kk
  refine ⟨t2, stp t2 ?_, b1⟩
  rw [hv]
  exact a1
theorem w_cb {Z : YY} {own : String} {idx d1 : Nat} (hb : CB Z) (hts : ∀ w ∈ gw, w.before args s = true) (hl : Cond.methodLink own idx (yN Z) ∈ gw) (hR : d1 + 1 ≤ R.frames ∧ 40 * (d1 + 1) ≤ R.locals) : CallB R s args own idx (yN Z) (yC Z) (yL Z) (yR Z) (yK Z :: gw) (xR d1 mc1 ms1) mc1 ms1 (yA Z) :=
  callB_of (Ts := gw) (ws' := gw) (yA Z) hts (gw_GoodIn hb.2.1) rfl rfl rfl (hts _ hb.1) (hts _ hl) hb.2.2.1 ⟨hR.1, by
    have h1 := hb.2.2.2
    have h2 := hR.2
    show 8 + (yL Z + 11) + 40 * d1 ≤ R.locals
    omega⟩
theorem w_callV {idx b d1 : Nat} {As : List Value} {Pc : Array Value → State → Prop} (Z : YY) (F : CV (yN Y).cls idx Z) (hx : p.tables.exec = Jvm.exec) (hb : c.code = yC Y) (hml : c.maxLocals = yL Y) (hown : s.vm.findClass (yN Y).cls = some m.cls) (hts : ∀ w ∈ gw, w.before args s = true) (hM : Met g.1 (yN Z) (yK Z :: gw) (xR d1 mc1 ms1) Pc (xQ g P1) mc1 ms1 (gA g)) (hp : PreV s H (yN Z).cls b Pc As) (hls : ls.size = yL Y) (hn : As.length = yA Z) (hst : st0 = As.reverse ++ .ref b :: rest) (hW : (rest.map fun v => v.category).sum ≤ 8) (hd : decode (yC Y) pc = .ok (.invokevirtual idx, 3)) (hf : ce + mc1 ≤ R.cells ∧ sl + ms1 ≤ R.slots) (hR : d1 + 1 ≤ R.frames ∧ 40 * (d1 + 1) ≤ R.locals) (hS : va_S (gA g) s.heap H locs)
    (k : ∀ rv M1 H1 locs1, P1 rv M1 → gV g M1 H1 → va_S (gA g) s.heap H1 locs1 → H1.size = gZ g + mn M1 → W p g.1 e R s m args below meth c H1 locs1 (ce + mc1) (sl + ms1) Q (F0 m (pc + 3) ls ((rv.map (xv (gB g))).toList ++ rest))) : W p g.1 e R s m args below meth c H locs ce sl Q (F0 m pc ls st0) := by
  obtain ⟨hb1, w1, w2, w3⟩ := F
  refine w_after k hS (va_runV (As := As) (b := b) (nL := yL Y) (Ts := gw) ⟨hx, hb, hml, hown, hts⟩ hM ⟨w_cb hb1 hts w1 hR, hts _ w2, hts _ w3⟩ hp rfl hn hls hst ?_ hd hf)
  show 2 * 0 + _ ≤ 8
  omega
theorem w_callS {idx d1 : Nat} {As : List Value} {Pc : Array Value → State → Prop} (Z : YY) (F : CS (yN Y).cls idx Z) (hx : p.tables.exec = Jvm.exec) (hb : c.code = yC Y) (hml : c.maxLocals = yL Y) (hown : s.vm.findClass (yN Y).cls = some m.cls) (hts : ∀ w ∈ gw, w.before args s = true) (hM : Met g.1 (yN Z) (yK Z :: gw) (xR d1 mc1 ms1) Pc (xQ g P1) mc1 ms1 (gA g)) (hp : PreS s H Pc As) (hls : ls.size = yL Y) (hn : As.length = yA Z) (hst : st0 = As.reverse ++ rest) (hW : (rest.map fun v => v.category).sum ≤ 8) (hd : decode (yC Y) pc = .ok (.invokestatic idx, 3)) (hf : ce + mc1 ≤ R.cells ∧ sl + ms1 ≤ R.slots) (hR : d1 + 1 ≤ R.frames ∧ 40 * (d1 + 1) ≤ R.locals) (hS : va_S (gA g) s.heap H locs)
    (k : ∀ rv M1 H1 locs1, P1 rv M1 → gV g M1 H1 → va_S (gA g) s.heap H1 locs1 → H1.size = gZ g + mn M1 → W p g.1 e R s m args below meth c H1 locs1 (ce + mc1) (sl + ms1) Q (F0 m (pc + 3) ls ((rv.map (xv (gB g))).toList ++ rest))) : W p g.1 e R s m args below meth c H locs ce sl Q (F0 m pc ls st0) := by
  obtain ⟨hb1, w1, w2⟩ := F
  refine w_after k hS (va_runS (As := As) (nL := yL Y) (Ts := gw) ⟨hx, hb, hml, hown, hts⟩ hM ⟨w_cb hb1 hts w1 hR, hts _ w2⟩ hp rfl hn hls hst ?_ hd hf)
  show 2 * 0 + _ ≤ 8
  omega
end WC

def wdB : List Int32 := [115, 104, 111, 116, 32, 115, 111, 114, 116, 32, 108, 111, 110, 103, 32, 110, 101, 101, 100, 115, 32, 104, 97, 108, 108, 32, 104, 97, 116, 101, 115, 32, 115, 104, 111, 119, 32, 103, 105, 118, 101, 32, 116, 114, 97, 100, 101, 32, 116, 117, 114, 110, 32, 112, 108, 97, 105, 110, 32, 107, 101, 101, 110, 32, 99, 104, 97, 112, 101, 108, 32, 109, 105, 110, 101, 114, 32, 110, 111, 116, 32, 97, 110, 100, 32, 111, 114, 32, 107, 105, 110, 100, 32, 109, 105, 110, 117, 116, 101, 115, 32, 112, 108, 97, 99, 101, 32, 97, 104, 101, 97, 100, 32]
def tSI : String := "SIOOBE_FORMATTER"
def StrOk (g : GG) (aW aV : Nat) (U : State) (H : Heap) : Prop := vk_S 1 [113] [wdB] (fun _ => aW) (fun _ => aV) (gA g) U H ∧ va_Z "java/lang/String" "COMPACT_STRINGS" "Z" (.int 1) (gA g) U H ∧ va_Zq "jdk/internal/util/Preconditions" "SIOOBE_FORMATTER" "Ljava/util/function/BiFunction;" (gA g) U H
theorem StrOk.go {g : GG} {aW aV : Nat} {s U : State} {H : Heap} {locs : List Loc} (h : StrOk g aW aV s s.heap) (hS : va_S (gA g) s.heap H locs) (hU : U.heap = H) (hW : s.WarmedH U.vm) : StrOk g aW aV U U.heap := by
  rw [hU]
  exact ⟨vk_S.moved hW.alike (h.1.kept hS.2.1), va_Z.moved hW.alike (h.2.1.kept hS.2.1), va_Zq.moved hW.alike (h.2.2.kept hS.2.1)⟩
def RW (g : GG) (Y : YY) (d : Nat) (av : List Value) (M : MM) (aW aV : Nat) (ans : Option Value) : Prop :=
  Met g.1 (yN Y) (yK Y :: gw) (xR d 0 0) (va_Pc av (fun U => (U.heap.size = gZ g + mn M ∧ gV g M U.heap ∧ gK g U) ∧ StrOk g aW aV U U.heap)) (xQ g (fun rv M1 => rv = ans ∧ M1 = M)) 0 0 (gA g)
def EW (g : GG) (Y : YY) (d pc : Nat) (lv : List (Nat × Value)) (st : List Value) (M : MM) (aW aV : Nat) (ans : Option Value) : Prop :=
  ∀ (p : Program) (e : Env) (s : State) (m : MethodId) (args : Array Value) (below : List Frame) (meth : Method) (c : Code) (H : Heap) (locs : List Loc) (ls : Array Slot),
    xC g Y p s m args meth c → StrOk g aW aV s s.heap → gV g M H → va_S (gA g) s.heap H locs → H.size = gZ g + mn M → lv_has ls (yL Y) lv →
    W p g.1 e (xR d 0 0) s m args below meth c H locs 0 0 (MQ below (xQ g (fun rv M1 => rv = ans ∧ M1 = M)) args s 0 0 (gA g)) (F0 m pc ls st)
section WS
variable {g : GG} {Y : YY} {d : Nat} {M : MM} {aW aV : Nat} {ans : Option Value}
theorem RW.of {av : List Value} (hY : plainName (yN Y).cls = true) (hl : (lg_sl av).length ≤ yL Y) (h : EW g Y d 0 (lv_args 0 av) [] M aW aV ans) : RW g Y d av M aW aV ans := by
  unfold RW
  refine Met.ofW (cc := yC Y) (maxL := yL Y) (ret := yR Y) hY rfl ?_
  intro p e s m args below meth c s₁ B hml hv
  obtain ⟨rfl, ⟨hz, hP, hK⟩, hX⟩ := hv
  have hts := atoms_spec (ws := yK Y :: gw) B.pre
  have C : xC g Y p s m av.toArray meth c := ⟨B.exec, B.bytes, hml, findClass_of_methodNamed B.named, fun w hw => hts w (List.mem_cons_of_mem _ hw), B.returns, B.notSynchronized, (name_of_methodNamed B.named B.method).1, hK, by rw [hz]; exact Nat.le_trans (Nat.le_add_left _ _) (Nat.le_add_right _ _)⟩
  have hl0 := lv_entry av (n := yL Y) hl
  rw [lg_entry_eq]
  exact h p e s m _ below meth c s.heap [] _ C hX hP va_S.rf hz hl0
theorem w_preS {av : List Value} {s : State} {H : Heap} {locs : List Loc} (hK : gK g s) (hb : gB g ≤ s.heap.size) (hX : StrOk g aW aV s s.heap) (hS : va_S (gA g) s.heap H locs) (hP : gV g M H) (hz : H.size = gZ g + mn M) : PreS s H (va_Pc av (fun U => (U.heap.size = gZ g + mn M ∧ gV g M U.heap ∧ gK g U) ∧ StrOk g aW aV U U.heap)) av := by
  refine ⟨fun a U f mk q => ?_, fun U hU hW => ⟨rfl, ⟨by rw [hU]; exact hz, by rw [hU]; exact hP, va_K.moved hW.alike hK.1, hK.2.1.warm hW, hK.2.2.go hb hS hU hW⟩, hX.go hS hU hW⟩⟩
  obtain ⟨q0, ⟨q1, q2, q3⟩, q4⟩ := q
  exact ⟨q0, ⟨q1, q2, va_K.moved (u := U) (U := U.calling f mk a) (Vm.Alike.refl U.vm) q3.1, gN.same (s := U) (U := U.calling f mk a) rfl q3.2.1, q3.2.2⟩, vk_S.moved (u := U) (U := U.calling f mk a) (Vm.Alike.refl U.vm) q4.1, va_Z.moved (u := U) (U := U.calling f mk a) (Vm.Alike.refl U.vm) q4.2.1, va_Zq.moved (u := U) (U := U.calling f mk a) (Vm.Alike.refl U.vm) q4.2.2⟩
theorem w_preV {As : List Value} {s : State} {H : Heap} {locs : List Loc} (hK : gK g s) (hb : gB g ≤ s.heap.size) (hX : StrOk g aW aV s s.heap) (hS : va_S (gA g) s.heap H locs) (hP : gV g M H) (hz : H.size = gZ g + mn M) : PreV s H "java/lang/String" aW (va_Pc (.ref aW :: As) (fun U => (U.heap.size = gZ g + mn M ∧ gV g M U.heap ∧ gK g U) ∧ StrOk g aW aV U U.heap)) As := by
  have h := w_preS (av := .ref aW :: As) hK hb hX hS hP hz
  exact ⟨h.1, vk_recv (i := 0) hX.1 (by decide) hS, h.2⟩
theorem cvJ0_335 : CV RJ0 335 YJ0_coder_7d493 := ⟨cbJ0_coder_7d493, gw_of1 115 rfl rfl, gw_of1 116 rfl rfl, gw_of1 117 rfl rfl⟩
theorem cvJ0_492 : CV RJ0 492 YJ0_isLatin1_aae02 := ⟨cbJ0_isLatin1_aae02, gw_of1 125 rfl rfl, gw_of1 126 rfl rfl, gw_of1 127 rfl rfl⟩
theorem csJ0_495 : CS RJ0 495 YJ1_charAt_3b067 := ⟨cbJ1_charAt_3b067, gw_of1 129 rfl rfl, gw_of1 130 rfl rfl⟩
theorem csJ1_9 : CS RJ1 9 YJ0_checkIndex_df160 := ⟨cbJ0_checkIndex_df160, gw_of1 132 rfl rfl, gw_of1 133 rfl rfl⟩
theorem csJ0_1059 : CS RJ0 1059 YJ3_checkIndex_8e157 := ⟨cbJ3_checkIndex_8e157, gw_of1 137 rfl rfl, gw_of1 138 rfl rfl⟩
theorem flJ0_38 : Cond.fieldLink RJ0 38 "java/lang/String" "COMPACT_STRINGS" "Z" ∈ gw := gw_of1 119 rfl rfl
theorem flJ0_9 : Cond.fieldLink RJ0 9 "java/lang/String" "value" "[B" ∈ gw := gw_of8 8 rfl rfl
theorem flJ0_15 : Cond.fieldLink RJ0 15 "java/lang/String" "coder" "B" ∈ gw := gw_of8 9 rfl rfl
theorem flJ0_1053 : Cond.fieldLink RJ0 1053 "jdk/internal/util/Preconditions" "SIOOBE_FORMATTER" "Ljava/util/function/BiFunction;" ∈ gw := gw_of1 135 rfl rfl
theorem tJ0_coder : RW g YJ0_coder_7d493 d [.ref aW] M aW aV (some (.int 0)) := by
  refine RW.of (by decide +kernel) (Nat.le_of_ble_eq_true rfl) ?_
  intro p e s m args below meth c H locs ls C hX hP hS hz hl
  obtain ⟨hx, hb, hml, hown, hts, hr, hlk, -, hK, hB⟩ := C
  refine va_gets hx hb hX.2.1 hS hown (hts _ flJ0_38) (fun x h => h) dJ0_coder_7d493_0 ?_
  refine lv_if_eq (tgt := 13) hx hb dJ0_coder_7d493_3 (by decide) (fun q => absurd q (by decide)) (fun _ => ?_)
  refine lv_aload_n hx hb dJ0_coder_7d493_6 rfl (lv_at hl 0 rfl) ?_
  refine vk_getf hx hb (hX.1.1 0 (by decide)).2.1 hS hown (hts _ flJ0_15) (fun x h => h) dJ0_coder_7d493_7 ?_
  refine lv_goto (tgt := 14) hx hb dJ0_coder_7d493_10 (by decide) ?_
  exact W.zret hx hb hr (by decide) (fun t ht hW => ⟨⟨some (.int 0), M, rfl, ⟨rfl, rfl⟩, by rw [ht]; exact hP, by rw [ht]; exact hz⟩, hS.F ht⟩) hS.2.2 dJ0_coder_7d493_14 hlk
theorem tJ0_length (hd : 1 ≤ d) : RW g YJ0_length_8abf5 d [.ref aW] M aW aV (some (.int 113)) := by
  refine RW.of (by decide +kernel) (Nat.le_of_ble_eq_true rfl) ?_
  intro p e s m args below meth c H locs ls C hX hP hS hz hl
  obtain ⟨hx, hb, hml, hown, hts, hr, hlk, -, hK, hB⟩ := C
  refine lv_aload_n hx hb dJ0_length_8abf5_0 rfl (lv_at hl 0 rfl) ?_
  refine vk_getf hx hb (hX.1.1 0 (by decide)).2.2.1 hS hown (hts _ flJ0_9) (fun x h => h) dJ0_length_8abf5_1 ?_
  refine va_tlen hx hb (hX.1.1 0 (by decide)).2.2.2 hS (v := 113) (by decide) dJ0_length_8abf5_4 ?_
  refine lv_aload_n hx hb dJ0_length_8abf5_5 rfl (lv_at hl 0 rfl) ?_
  refine w_callV (Y := YJ0_length_8abf5) (As := []) (rest := [.int 113]) (d1 := d - 1) YJ0_coder_7d493 cvJ0_335 hx hb hml hown hts tJ0_coder (w_preV hK hB hX hS hP hz) hl.1 rfl rfl (Nat.le_of_ble_eq_true rfl) dJ0_length_8abf5_6 ⟨Nat.le_refl _, Nat.le_refl _⟩ ⟨by show d - 1 + 1 ≤ d; omega, by show 40 * (d - 1 + 1) ≤ 40 * d; omega⟩ hS ?_
  rintro rv M1 H1 locs1 ⟨rfl, rfl⟩ hP hS hz
  refine lv_ishr hx hb dJ0_length_8abf5_9 ?_
  have e1 : ((113 : Int32) >>> ((0 : Int32) &&& 31)) = 113 := by decide
  rw [e1]
  exact W.iret hx hb hr (fun t ht hW => ⟨⟨some (.int 113), M1, rfl, ⟨rfl, rfl⟩, by rw [ht]; exact hP, by rw [ht]; exact hz⟩, hS.F ht⟩) hS.2.2 dJ0_length_8abf5_10 hlk
theorem tJ0_isLatin1 : RW g YJ0_isLatin1_aae02 d [.ref aW] M aW aV (some (.int 1)) := by
  refine RW.of (by decide +kernel) (Nat.le_of_ble_eq_true rfl) ?_
  intro p e s m args below meth c H locs ls C hX hP hS hz hl
  obtain ⟨hx, hb, hml, hown, hts, hr, hlk, -, hK, hB⟩ := C
  refine va_gets hx hb hX.2.1 hS hown (hts _ flJ0_38) (fun x h => h) dJ0_isLatin1_aae02_0 ?_
  refine lv_if_eq (tgt := 17) hx hb dJ0_isLatin1_aae02_3 (by decide) (fun q => absurd q (by decide)) (fun _ => ?_)
  refine lv_aload_n hx hb dJ0_isLatin1_aae02_6 rfl (lv_at hl 0 rfl) ?_
  refine vk_getf hx hb (hX.1.1 0 (by decide)).2.1 hS hown (hts _ flJ0_15) (fun x h => h) dJ0_isLatin1_aae02_7 ?_
  refine lv_if_ne (tgt := 17) hx hb dJ0_isLatin1_aae02_10 (by decide) (fun q => absurd rfl q) (fun _ => ?_)
  refine lv_iconst (v := 1) hx hb dJ0_isLatin1_aae02_13 (by decide) ?_
  refine lv_goto (tgt := 18) hx hb dJ0_isLatin1_aae02_14 (by decide) ?_
  exact W.zret hx hb hr (by decide) (fun t ht hW => ⟨⟨some (.int 1), M, rfl, ⟨rfl, rfl⟩, by rw [ht]; exact hP, by rw [ht]; exact hz⟩, hS.F ht⟩) hS.2.2 dJ0_isLatin1_aae02_18 hlk
theorem tJ3_checkIndex {i n : Int32} {v : Value} (hv : v = .null ∨ ∃ t, v = .ref t) (h0 : ¬ i < 0) (h1 : i < n) : RW g YJ3_checkIndex_8e157 d [.int i, .int n, v] M aW aV (some (.int i)) := by
  refine RW.of (by decide +kernel) ?_ ?_
  · rcases hv with rfl | ⟨t, rfl⟩ <;> exact Nat.le_of_ble_eq_true rfl
  intro p e s m args below meth c H locs ls C hX hP hS hz hl
  obtain ⟨hx, hb, hml, hown, hts, hr, hlk, -, hK, hB⟩ := C
  refine lv_iload_n hx hb dJ3_checkIndex_8e157_0 rfl (lv_at hl 0 rfl) ?_
  refine lv_if_lt (tgt := 9) hx hb dJ3_checkIndex_8e157_1 (by decide) (fun q => absurd q h0) (fun _ => ?_)
  refine lv_iload_n hx hb dJ3_checkIndex_8e157_4 rfl (lv_at hl 0 rfl) ?_
  refine lv_iload_n hx hb dJ3_checkIndex_8e157_5 rfl (lv_at hl 1 rfl) ?_
  refine lv_icmp_lt (tgt := 16) hx hb dJ3_checkIndex_8e157_6 (by decide) (fun _ => ?_) (fun q => absurd h1 q)
  refine lv_iload_n hx hb dJ3_checkIndex_8e157_16 rfl (lv_at hl 0 rfl) ?_
  exact W.iret hx hb hr (fun t ht hW => ⟨⟨some (.int i), M, rfl, ⟨rfl, rfl⟩, by rw [ht]; exact hP, by rw [ht]; exact hz⟩, hS.F ht⟩) hS.2.2 dJ3_checkIndex_8e157_17 hlk
theorem tJ0_checkIndex {i n : Int32} (h0 : ¬ i < 0) (h1 : i < n) (hd : 1 ≤ d) : RW g YJ0_checkIndex_df160 d [.int i, .int n] M aW aV none := by
  refine RW.of (by decide +kernel) (Nat.le_of_ble_eq_true rfl) ?_
  intro p e s m args below meth c H locs ls C hX hP hS hz hl
  obtain ⟨hx, hb, hml, hown, hts, hr, hlk, -, hK, hB⟩ := C
  have go : ∀ v : Value, (v = .null ∨ ∃ t, v = .ref t) → va_Z "jdk/internal/util/Preconditions" "SIOOBE_FORMATTER" "Ljava/util/function/BiFunction;" v (gA g) s s.heap → W p g.1 e (xR d 0 0) s m args below meth c H locs 0 0 (MQ below (xQ g (fun rv M1 => rv = none ∧ M1 = M)) args s 0 0 (gA g)) (F0 m 0 ls []) := fun v hv hZ => by
    refine lv_iload_n hx hb dJ0_checkIndex_df160_0 rfl (lv_at hl 0 rfl) ?_
    refine lv_iload_n hx hb dJ0_checkIndex_df160_1 rfl (lv_at hl 1 rfl) ?_
    refine va_gets hx hb hZ hS hown (hts _ flJ0_1053) (fun x h => h) dJ0_checkIndex_df160_2 ?_
    refine w_callS (Y := YJ0_checkIndex_df160) (As := [.int i, .int n, v]) (rest := []) (d1 := d - 1) YJ3_checkIndex_8e157 csJ0_1059 hx hb hml hown hts (tJ3_checkIndex hv h0 h1) (w_preS hK hB hX hS hP hz) hl.1 rfl rfl (Nat.le_of_ble_eq_true rfl) dJ0_checkIndex_df160_5 ⟨Nat.le_refl _, Nat.le_refl _⟩ ⟨by show d - 1 + 1 ≤ d; omega, by show 40 * (d - 1 + 1) ≤ 40 * d; omega⟩ hS ?_
    rintro rv M1 H1 locs1 ⟨rfl, rfl⟩ hP hS hz
    refine lv_pop hx hb dJ0_checkIndex_df160_8 rfl ?_
    exact W.vret hx hb hr (fun t ht hW => ⟨⟨none, M1, rfl, ⟨rfl, rfl⟩, by rw [ht]; exact hP, by rw [ht]; exact hz⟩, hS.F ht⟩) hS.2.2 dJ0_checkIndex_df160_9 hlk
  rcases hX.2.2 with h | ⟨t, h⟩
  · exact go .null (.inl rfl) h
  · exact go (.ref t) (.inr ⟨t, rfl⟩) h
theorem wd_ch : ∀ i, i < 113 → (((wdB.getD i 0 &&& 255) : Int32).toUInt32 % 65536).toInt32 = wdB.getD i 0 ∧ narrow .char (.int (wdB.getD i 0)) = .int (wdB.getD i 0) := by decide +kernel
theorem tJ1_charAt {i : Nat} (hi : i < 113) (hd : 2 ≤ d) : RW g YJ1_charAt_3b067 d [.ref aV, .int (nI i)] M aW aV (some (.int (wdB.getD i 0))) := by
  refine RW.of (by decide +kernel) (Nat.le_of_ble_eq_true rfl) ?_
  intro p e s m args below meth c H locs ls C hX hP hS hz hl
  obtain ⟨hx, hb, hml, hown, hts, hr, hlk, -, hK, hB⟩ := C
  have hT := (hX.1.1 0 (by decide)).2.2.2
  refine lv_iload_n hx hb dJ1_charAt_3b067_0 rfl (lv_at hl 1 rfl) ?_
  refine lv_aload_n hx hb dJ1_charAt_3b067_1 rfl (lv_at hl 0 rfl) ?_
  refine va_tlen hx hb hT hS (v := 113) (by decide) dJ1_charAt_3b067_2 ?_
  refine w_callS (Y := YJ1_charAt_3b067) (As := [.int (nI i), .int 113]) (rest := []) (d1 := d - 1) YJ0_checkIndex_df160 csJ1_9 hx hb hml hown hts (tJ0_checkIndex (nI_pos (by omega)) ((ltl 113 rfl (by decide) (by omega)).mpr hi) (by omega)) (w_preS hK hB hX hS hP hz) hl.1 rfl rfl (Nat.le_of_ble_eq_true rfl) dJ1_charAt_3b067_3 ⟨Nat.le_refl _, Nat.le_refl _⟩ ⟨by show d - 1 + 1 ≤ d; omega, by show 40 * (d - 1 + 1) ≤ 40 * d; omega⟩ hS ?_
  rintro rv M1 H1 locs1 ⟨rfl, rfl⟩ hP hS hz
  refine lv_aload_n hx hb dJ1_charAt_3b067_6 rfl (lv_at hl 0 rfl) ?_
  refine lv_iload_n hx hb dJ1_charAt_3b067_7 rfl (lv_at hl 1 rfl) ?_
  refine va_tb hx hb hT hS (i := nI i) (v := .int (wdB.getD i 0)) (vi hi (by decide)) (by rw [nI_clamp (by omega)]; rfl) dJ1_charAt_3b067_8 ?_
  refine lv_sipush (v := 255) hx hb dJ1_charAt_3b067_9 (by decide) ?_
  refine lv_iand hx hb dJ1_charAt_3b067_12 ?_
  refine lv_i2c (v := wdB.getD i 0) hx hb dJ1_charAt_3b067_13 (wd_ch i hi).1 ?_
  exact W.zret hx hb hr (wd_ch i hi).2 (fun t ht hW => ⟨⟨some (.int (wdB.getD i 0)), M1, rfl, ⟨rfl, rfl⟩, by rw [ht]; exact hP, by rw [ht]; exact hz⟩, hS.F ht⟩) hS.2.2 dJ1_charAt_3b067_14 hlk
theorem tJ0_charAt {i : Nat} (hi : i < 113) (hd : 3 ≤ d) : RW g YJ0_charAt_5068e d [.ref aW, .int (nI i)] M aW aV (some (.int (wdB.getD i 0))) := by
  refine RW.of (by decide +kernel) (Nat.le_of_ble_eq_true rfl) ?_
  intro p e s m args below meth c H locs ls C hX hP hS hz hl
  obtain ⟨hx, hb, hml, hown, hts, hr, hlk, -, hK, hB⟩ := C
  refine lv_aload_n hx hb dJ0_charAt_5068e_0 rfl (lv_at hl 0 rfl) ?_
  refine w_callV (Y := YJ0_charAt_5068e) (As := []) (rest := []) (d1 := d - 1) YJ0_isLatin1_aae02 cvJ0_492 hx hb hml hown hts tJ0_isLatin1 (w_preV hK hB hX hS hP hz) hl.1 rfl rfl (Nat.le_of_ble_eq_true rfl) dJ0_charAt_5068e_1 ⟨Nat.le_refl _, Nat.le_refl _⟩ ⟨by show d - 1 + 1 ≤ d; omega, by show 40 * (d - 1 + 1) ≤ 40 * d; omega⟩ hS ?_
  rintro rv M1 H1 locs1 ⟨rfl, rfl⟩ hP hS hz
  refine lv_if_eq (tgt := 16) hx hb dJ0_charAt_5068e_4 (by decide) (fun q => absurd q (by decide)) (fun _ => ?_)
  refine lv_aload_n hx hb dJ0_charAt_5068e_7 rfl (lv_at hl 0 rfl) ?_
  refine vk_getf hx hb (hX.1.1 0 (by decide)).2.2.1 hS hown (hts _ flJ0_9) (fun x h => h) dJ0_charAt_5068e_8 ?_
  refine lv_iload_n hx hb dJ0_charAt_5068e_11 rfl (lv_at hl 1 rfl) ?_
  refine w_callS (Y := YJ0_charAt_5068e) (As := [.ref aV, .int (nI i)]) (rest := []) (d1 := d - 1) YJ1_charAt_3b067 csJ0_495 hx hb hml hown hts (tJ1_charAt hi (by omega)) (w_preS hK hB hX hS hP hz) hl.1 rfl rfl (Nat.le_of_ble_eq_true rfl) dJ0_charAt_5068e_12 ⟨Nat.le_refl _, Nat.le_refl _⟩ ⟨by show d - 1 + 1 ≤ d; omega, by show 40 * (d - 1 + 1) ≤ 40 * d; omega⟩ hS ?_
  rintro rv M2 H2 locs2 ⟨rfl, rfl⟩ hP hS hz
  exact W.zret hx hb hr (wd_ch i hi).2 (fun t ht hW => ⟨⟨some (.int (wdB.getD i 0)), M2, rfl, ⟨rfl, rfl⟩, by rw [ht]; exact hP, by rw [ht]; exact hz⟩, hS.F ht⟩) hS.2.2 dJ0_charAt_5068e_15 hlk
end WS
