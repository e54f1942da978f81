/-! ===== the tape's constructor ===== -/
abbrev wdT : String := "shot sort long needs hall hates show give trade turn plain keen chapel miner not and or kind minutes place ahead "
theorem wd_el : ∀ j, j < 113 → Cond.eq (.elem (.field (.string "CountyPrint$Tape" 19) "java/lang/String" "value" "[B") (.int (Int32.ofNat j))) (.int (wdB.getD j 0)) ∈ flatC (Jvm.Cond.and given_1 narrow_1) := by decide +kernel
theorem gX.str {g : GG} {s : State} (h : gX g s) : ∃ aW aV, StrOk g aW aV s s.heap ∧ vk_R RX9 19 wdT aW s := by
  obtain ⟨s0, b, h1, h2, h3, hts, hn⟩ := h
  have hs := flat_of_before _ hn
  have hA : ∀ a : Nat, a < s0.heap.size → ¬ gA g a := fun a ha => by rw [h1] at ha; exact Nat.not_le.mpr ha
  obtain ⟨adK, adV, hK, hE⟩ := vk_Sof (args := #[Value.ref b]) (s := s0) (N := 1) (tm := fun _ => Term.string "CountyPrint$Tape" 19) (len := [113]) (byt := [wdB]) (A := gA g)
    (fun i hi => by have e : i = 0 := by omega
                    rw [e]; decide)
    (fun i hi => hs _ (by decide +kernel)) (fun i hi => hs _ (by decide +kernel)) (fun i hi => hs _ (by decide +kernel))
    (fun i hi => by have e : i = 0 := by omega
                    rw [e]; exact hs _ (by decide +kernel))
    (fun i hi j hj => by have e : i = 0 := by omega
                         rw [e] at hj ⊢; exact hs _ (wd_el j hj))
    (fun i j hi hj hne => absurd (show i = j by omega) hne) hA
  have hkp : ∀ a : Nat, a < s0.heap.size → ¬ gA g a → s.heap[a]? = s0.heap[a]? := fun a ha _ => h3 a (by rw [← h1]; exact ha)
  refine ⟨adK 0, adV 0, ⟨?_, ?_, ?_⟩, ?_⟩
  · refine vk_S.moved h2.alike (vk_S.kept (U := s0) (H := s0.heap) ⟨fun i hi => ?_, fun i j hi hj _ => by omega⟩ hkp)
    have e : i = 0 := by omega
    rw [e]
    exact hK.1 0 (by decide)
  · exact va_Z.moved h2.alike ((va_Zof (hts _ (lw_of1 120 rfl)) (hts _ (lw_of1 5 rfl)) (va_eqt (hs _ (by decide +kernel))) hA).kept hkp)
  · exact va_Zq.moved h2.alike ((va_Zqof (hts _ (lw_of1 136 rfl)) (hts _ (lw_of1 7 rfl)) (hs _ (by decide +kernel)) hA).kept hkp)
  · exact vk_R.warm h2 (vk_R.of (hts _ (lw_of1 110 rfl)) (hE 0 (by decide)))
section TPE
variable {g : GG} {d mc ms ce sl pc : Nat} {lv : List (Nat × Value)} {st : List Value} {M : MM} {P : Option Value → MM → Prop}
theorem x_strlen (hd1 : decode (yC YX9_init) pc = .ok (.ldc 19, 2)) (hd2 : decode (yC YX9_init) (pc + 2) = .ok (.invokevirtual 21, 3)) (hdd : 2 ≤ d) (hc : ce ≤ mc) (hsl : sl ≤ ms) (hw : (st.map fun v => v.category).sum ≤ 8) (k : EX g YX9_init d mc ms ce sl (pc + 5) lv (.int 113 :: st) M P) : EX g YX9_init d mc ms ce sl pc lv st M P := by
  intro p e s m args below meth c H locs ls C hP hS hz hl
  have C' := C
  obtain ⟨hx, hb, hml, hown, hts, hr, hlk, -, hK, hB⟩ := C'
  obtain ⟨aW, aV, hX, hR⟩ := hK.2.2.str
  refine va_ldcS hx hb hown hR hd1 ?_
  refine w_callV (Y := YX9_init) (As := []) (rest := xst g st) (d1 := d - 1) (mc1 := 0) (ms1 := 0) YJ0_length_8abf5 cvX9_21 hx hb hml hown hts (tJ0_length (by omega)) (w_preV hK hB hX hS hP hz) hl.1 rfl rfl (by rw [x_sum]; exact hw) hd2 ⟨hc, hsl⟩ ⟨by show d - 1 + 1 ≤ d; omega, by show 40 * (d - 1 + 1) ≤ 40 * d; omega⟩ hS ?_
  rintro rv M1 H1 locs1 ⟨rfl, rfl⟩ hP hS hz
  exact k p e s m args below meth c H1 locs1 ls C hP hS hz hl
theorem x_strch {i q : Nat} (hi : i < 113) (hd1 : decode (yC YX9_init) pc = .ok (.ldc 19, 2)) (hdl : decode (yC YX9_init) (pc + 2) = .ok (.iload_n 2, 1)) (hq : lv[q]? = some (2, .int (nI i))) (hd2 : decode (yC YX9_init) (pc + 3) = .ok (.invokevirtual 27, 3)) (hdd : 4 ≤ d) (hc : ce ≤ mc) (hsl : sl ≤ ms) (hw : (st.map fun v => v.category).sum ≤ 8) (k : EX g YX9_init d mc ms ce sl (pc + 6) lv (.int (wdB.getD i 0) :: st) M P) : EX g YX9_init d mc ms ce sl pc lv st M P := by
  intro p e s m args below meth c H locs ls C hP hS hz hl
  have C' := C
  obtain ⟨hx, hb, hml, hown, hts, hr, hlk, -, hK, hB⟩ := C'
  obtain ⟨aW, aV, hX, hR⟩ := hK.2.2.str
  refine va_ldcS hx hb hown hR hd1 ?_
  refine lv_iload_n hx hb hdl rfl (lv_at hl q (xlv_at hq)) ?_
  refine w_callV (Y := YX9_init) (As := [.int (nI i)]) (rest := xst g st) (d1 := d - 1) (mc1 := 0) (ms1 := 0) YJ0_charAt_5068e cvX9_27 hx hb hml hown hts (tJ0_charAt hi (by omega)) (w_preV hK hB hX hS hP hz) hl.1 rfl rfl (by rw [x_sum]; exact hw) hd2 ⟨hc, hsl⟩ ⟨by show d - 1 + 1 ≤ d; omega, by show 40 * (d - 1 + 1) ≤ 40 * d; omega⟩ hS ?_
  rintro rv M1 H1 locs1 ⟨rfl, rfl⟩ hP hS hz
  exact k p e s m args below meth c H1 locs1 ls C hP hS hz hl
end TPE
/-- how many words are full, and the words, behind i letters -/
def tpS : Nat → Nat × (Nat → Int64)
  | 0 => (0, fun _ => 0)
  | i + 1 => if wdB.getD i 0 = 32 then ((tpS i).1 + 1, (tpS i).2) else ((tpS i).1, fun k => if k = (tpS i).1 then (tpS i).2 (tpS i).1 * 32 + ((wdB.getD i 0 - 97) + 1).toInt64 else (tpS i).2 k)
def tpM (w i : Nat) (M : MM) : MM := (M.1, M.2.1, M.2.2.1, fun b k => if b = w then (tpS i).2 k else M.2.2.2.1 b k, M.2.2.2.2)
/-- the same, step by step over a list: what can be computed -/
def tpC (i : Nat) : Nat := ((wdB.take i).filter (fun b => b = 32)).length
theorem tpC_ok : ∀ i, i < 113 → (if wdB.getD i 0 = 32 then tpC i + 1 else tpC i) = tpC (i + 1) ∧ tpC i < 21 := by decide +kernel
theorem tpS_c : ∀ i, i ≤ 113 → (tpS i).1 = tpC i
  | 0, _ => rfl
  | i + 1, h => by
    rw [tpS, ← (tpC_ok i (by omega)).1]
    by_cases e : wdB.getD i 0 = 32
    · rw [if_pos e, if_pos e, tpS_c i (by omega)]
    · rw [if_neg e, if_neg e, tpS_c i (by omega)]
/-- word k behind i letters -/
def tpJ : List Int32 → Nat → Nat → Int64 → Int64
  | [], _, _, v => v
  | b :: l, c, k, v => if b = 32 then tpJ l (c + 1) k v else tpJ l c k (if k = c then v * 32 + ((b - 97) + 1).toInt64 else v)
theorem tpJ_app (k : Nat) : ∀ (l1 l2 : List Int32) (c : Nat) (v : Int64), tpJ (l1 ++ l2) c k v = tpJ l2 (c + (l1.filter (fun b => b = 32)).length) k (tpJ l1 c k v)
  | [], l2, c, v => rfl
  | b :: l1, l2, c, v => by
    rw [List.cons_append, tpJ, tpJ]
    by_cases e : b = 32
    · rw [if_pos e, if_pos e, tpJ_app k l1 l2, List.filter_cons, if_pos (decide_eq_true e), List.length_cons, Nat.add_assoc, Nat.add_comm 1]
    · rw [if_neg e, if_neg e, tpJ_app k l1 l2, List.filter_cons, if_neg (fun z => e (of_decide_eq_true z))]
theorem tpS_j (k : Nat) : ∀ i, i ≤ 113 → (tpS i).2 k = tpJ (wdB.take i) 0 k 0
  | 0, _ => rfl
  | i + 1, h => by
    have hl : i < wdB.length := Nat.lt_of_lt_of_le (show i < 113 by omega) (by decide)
    have et : wdB.take (i + 1) = wdB.take i ++ [wdB.getD i 0] := by
      rw [List.take_succ, List.getD_eq_getElem?_getD, List.getElem?_eq_getElem hl]
      rfl
    have ih := tpS_j k i (by omega)
    have ic := tpS_c i (by omega)
    rw [et, tpJ_app, ← ih, Nat.zero_add]
    show _ = tpJ [wdB.getD i 0] (tpC i) k ((tpS i).2 k)
    rw [← ic, tpS, tpJ]
    by_cases e : wdB.getD i 0 = 32
    · rw [if_pos e, if_pos e]; rfl
    · rw [if_neg e, if_neg e, tpJ]
      show (if k = (tpS i).1 then _ else _) = _
      by_cases q : k = (tpS i).1
      · rw [if_pos q, if_pos q, q]
      · rw [if_neg q, if_neg q]
theorem tpS_end : ∀ k, k < 21 → (tpS 113).2 k = lJ (hRx 32 (kwL k)) := fun k hk => by
  rw [tpS_j k 113 (Nat.le_refl _)]
  have : ∀ k, k < 21 → tpJ (wdB.take 113) 0 k 0 = lJ (hRx 32 (kwL k)) := by decide +kernel
  exact this k hk
def iX9 (a : Nat) (M : MM) : MM := tpM (mn M) 113 (bd1 4 1000 a 1 (bd1 2 21 a 0 M))
theorem gX9 : GrF iX9 := fun a M x s h => obd (t := 4) (n := 1000) (a := a) (k := 1) (obd (t := 2) (n := 21) (a := a) (k := 0) h)
theorem kX9 : RkF iX9 := fun a M x j h1 h2 => by
  show mr (bd1 4 1000 a 1 (bd1 2 21 a 0 M)) x j = _
  rw [bd1_r (bd1_lt h1) (fun z => h2 z.1), bd1_r h1 (fun z => h2 z.1)]
theorem zX9 : ZiF iX9 := fun a M h => bd1_z (t := 4) (n := 1000) (a := a) (k := 1) (bd1_z (t := 2) (n := 21) (a := a) (k := 0) h)
theorem cX9 {g : GG} {d a : Nat} {M : MM} (hJ : gJ g = 0) (h : ob M a 9) (hd : 4 ≤ d) : RT g YX9_init d 2 1021 [.ref a] M (fun rv M1 => rv = none ∧ M1 = iX9 a M) := by
  refine EX.entry (by decide +kernel) (Nat.le_of_ble_eq_true rfl) ?_
  show EX g YX9_init d 2 1021 0 0 0 [(0, .ref a)] [] M _
  refine x_aload_n dX9_init_0 0 rfl ?_
  refine x_objInit dX9_init_1 oiX9_3 gk_oi1 gk_oi2 (by omega) (Nat.le_of_ble_eq_true rfl) ?_
  refine x_aload_n dX9_init_4 0 rfl ?_
  refine x_bipush (v := 21) dX9_init_5 (by decide) ?_
  refine x_newarray hJ (t := 2) (N := 21) (.inr (.inl ⟨rfl, rfl⟩)) dX9_init_7 gk_ar_long (by decide) (by decide) (by decide) (by omega) (by omega) ?_
  refine x_putA fdX9_11 rfl (.inr ⟨rfl, rfl⟩) dX9_init_9 h ?_
  refine x_aload_n dX9_init_12 0 rfl ?_
  refine x_sipush (v := 1000) dX9_init_13 (by decide) ?_
  refine x_newarray hJ (t := 4) (N := 1000) (.inr (.inr (.inr ⟨rfl, rfl⟩))) dX9_init_16 gk_ar_char (by decide) (by decide) (by decide) (by omega) (by omega) ?_
  refine x_putA fdX9_15 rfl (.inr ⟨rfl, rfl⟩) dX9_init_18 (obd h) ?_
  refine x_iconst (v := 0) dX9_init_21 (by decide) ?_
  refine x_istore_n (lv1 := [(1, .int 0), (0, .ref a)]) dX9_init_22 (by decide) rfl ?_
  refine x_iconst (v := 0) dX9_init_23 (by decide) ?_
  refine x_istore_n (lv1 := [(2, .int 0), (1, .int 0), (0, .ref a)]) dX9_init_24 (by decide) rfl ?_
  have hob : ∀ i, ob (tpM (mn M) i (bd1 4 1000 a 1 (bd1 2 21 a 0 M))) a 9 := fun i => obd (t := 4) (n := 1000) (a := a) (k := 1) (obd (t := 2) (n := 21) (a := a) (k := 0) h)
  have har : ∀ i, ar (tpM (mn M) i (bd1 4 1000 a 1 (bd1 2 21 a 0 M))) (mn M) 2 21 := fun i => obd (t := 4) (n := 1000) (a := a) (k := 1) (M := bd1 2 21 a 0 M) (x := mn M) (obn (M := M) (sh := (2, 21)))
  have hrf : ∀ i, mr (tpM (mn M) i (bd1 4 1000 a 1 (bd1 2 21 a 0 M))) a 0 = some (mn M) := fun i => by
    show mr (bd1 4 1000 a 1 (bd1 2 21 a 0 M)) a 0 = _
    rw [bd1_r (bd1_lt h.1) (fun z => absurd z.2 (by decide)), bd1_s]
  have e0 : tpM (mn M) 0 (bd1 4 1000 a 1 (bd1 2 21 a 0 M)) = bd1 4 1000 a 1 (bd1 2 21 a 0 M) := by
    unfold tpM
    have : (fun b k => if b = mn M then (tpS 0).2 k else (bd1 4 1000 a 1 (bd1 2 21 a 0 M)).2.2.2.1 b k) = (bd1 4 1000 a 1 (bd1 2 21 a 0 M)).2.2.2.1 := by
      funext b k
      by_cases z : b = mn M
      · rw [if_pos z, z]
        show (0 : Int64) = (if mn M = mn M + 1 then 0 else (if mn M = mn M then 0 else _))
        rw [if_neg (by omega), if_pos rfl]
      · rw [if_neg z]
    rw [this]
  have key := up0 (p := fun i => EX g YX9_init d 2 1021 2 1021 25 [(0, .ref a), (1, .int (nI (tpS i).1)), (2, .int (nI i))] [] (tpM (mn M) i (bd1 4 1000 a 1 (bd1 2 21 a 0 M))) (fun rv M1 => rv = none ∧ M1 = iX9 a M)) 113 ?_ (fun i hi ih => ?_)
  · rw [e0] at key
    exact EX.sub [2, 1, 0] key rfl
  · refine x_iload_n dX9_init_25 2 rfl ?_
    refine x_strlen dX9_init_26 dX9_init_28 (by omega) (by omega) (by omega) (Nat.le_of_ble_eq_true rfl) ?_
    refine x_ic_ge 89 dX9_init_31 (by decide) (fun _ => ?_) (fun z => absurd (by decide) z)
    exact x_vret rfl dX9_init_89 (by omega) (by omega) ⟨rfl, rfl⟩
  · have c21 := (tpC_ok i hi).2
    have ec := tpS_c i (by omega)
    have hc : (tpS i).1 < 21 := by omega
    refine x_iload_n dX9_init_25 2 rfl ?_
    refine x_strlen dX9_init_26 dX9_init_28 (by omega) (by omega) (by omega) (Nat.le_of_ble_eq_true rfl) ?_
    refine x_ic_ge 89 dX9_init_31 (by decide) (fun z => absurd z (ngl 113 rfl (by decide) hi)) (fun _ => ?_)
    refine x_iload_n dX9_init_34 1 rfl ?_
    refine x_bipush (v := 21) dX9_init_35 (by decide) ?_
    refine x_ic_ge 89 dX9_init_37 (by decide) (fun z => absurd z (ngl 21 rfl (by decide) hc)) (fun _ => ?_)
    refine x_strch (i := i) (q := 2) hi dX9_init_40 dX9_init_42 rfl dX9_init_43 (by omega) (by omega) (by omega) (Nat.le_of_ble_eq_true rfl) ?_
    refine x_istore_n (lv1 := [(3, .int (wdB.getD i 0)), (0, .ref a), (1, .int (nI (tpS i).1)), (2, .int (nI i))]) dX9_init_46 (by decide) rfl ?_
    refine x_iload_n dX9_init_47 0 rfl ?_
    refine x_bipush (v := 32) dX9_init_48 (by decide) ?_
    refine x_ic_ne 59 dX9_init_50 (by decide) (fun z => ?_) (fun z => ?_)
    · have es : tpS (i + 1) = ((tpS i).1, fun k => if k = (tpS i).1 then (tpS i).2 (tpS i).1 * 32 + ((wdB.getD i 0 - 97) + 1).toInt64 else (tpS i).2 k) := by rw [tpS, if_neg z]
      refine x_aload_n dX9_init_59 1 rfl ?_
      refine x_getR fdX9_11 rfl dX9_init_60 (hob i).1 (hob i).2 (hrf i) ?_
      refine x_iload_n dX9_init_63 2 rfl ?_
      refine x_aload_n dX9_init_64 1 rfl ?_
      refine x_getR fdX9_11 rfl dX9_init_65 (hob i).1 (hob i).2 (hrf i) ?_
      refine x_iload_n dX9_init_68 2 rfl ?_
      refine x_lald dX9_init_69 (har i).1 (har i).2 (vi hc (by decide)) ?_
      refine x_ldc2 dX9_init_70 kcX9_31 ?_
      refine x_lmul dX9_init_73 ?_
      refine x_iload_n dX9_init_74 0 rfl ?_
      refine x_bipush (v := 97) dX9_init_75 (by decide) ?_
      refine x_isub dX9_init_77 ?_
      refine x_iconst (v := 1) dX9_init_78 (by decide) ?_
      refine x_iadd dX9_init_79 ?_
      refine x_i2l dX9_init_80 ?_
      refine x_ladd dX9_init_81 ?_
      refine x_last dX9_init_82 (har i).1 (har i).2 (vi hc (by decide)) ?_
      rw [nI_clamp (by omega)]
      refine x_iinc (v := nI (i + 1)) (lv1 := [(2, .int (nI (i + 1))), (3, .int (wdB.getD i 0)), (0, .ref a), (1, .int (nI (tpS i).1))]) dX9_init_83 3 rfl (nI_1 i) (by decide) rfl ?_
      refine x_goto 25 dX9_init_86 (by decide) ?_
      have eM : wj (tpM (mn M) i (bd1 4 1000 a 1 (bd1 2 21 a 0 M))) (mn M) (tpS i).1 (mj (tpM (mn M) i (bd1 4 1000 a 1 (bd1 2 21 a 0 M))) (mn M) (tpS i).1 * 32 + ((wdB.getD i 0 - 97) + 1).toInt64) = tpM (mn M) (i + 1) (bd1 4 1000 a 1 (bd1 2 21 a 0 M)) := by
        unfold tpM
        rw [es]
        have : (mu (fun b k => if b = mn M then (tpS i).2 k else (bd1 4 1000 a 1 (bd1 2 21 a 0 M)).2.2.2.1 b k) (mn M) (tpS i).1 ((if mn M = mn M then (tpS i).2 (tpS i).1 else (bd1 4 1000 a 1 (bd1 2 21 a 0 M)).2.2.2.1 (mn M) (tpS i).1) * 32 + ((wdB.getD i 0 - 97) + 1).toInt64)) = (fun b k => if b = mn M then (if k = (tpS i).1 then (tpS i).2 (tpS i).1 * 32 + ((wdB.getD i 0 - 97) + 1).toInt64 else (tpS i).2 k) else (bd1 4 1000 a 1 (bd1 2 21 a 0 M)).2.2.2.1 b k) := by
          funext b k
          unfold mu
          by_cases zb : b = mn M
          · by_cases zk : k = (tpS i).1
            · rw [if_pos ⟨zb, zk⟩, if_pos rfl, if_pos zb, if_pos zk]
            · rw [if_neg (fun y => zk y.2), if_pos zb, if_neg zk]
              exact if_pos zb
          · rw [if_neg (fun y => zb y.1), if_neg zb]
            exact if_neg zb
        exact congrArg (fun J => ((bd1 4 1000 a 1 (bd1 2 21 a 0 M)).1, (bd1 4 1000 a 1 (bd1 2 21 a 0 M)).2.1, (bd1 4 1000 a 1 (bd1 2 21 a 0 M)).2.2.1, J, (bd1 4 1000 a 1 (bd1 2 21 a 0 M)).2.2.2.2)) this
      rw [eM]
      rw [es] at ih
      exact EX.sub [2, 3, 0] ih rfl
    · have es : tpS (i + 1) = ((tpS i).1 + 1, (tpS i).2) := by rw [tpS, if_pos z]
      refine x_iinc (v := nI ((tpS i).1 + 1)) (lv1 := [(1, .int (nI ((tpS i).1 + 1))), (3, .int (wdB.getD i 0)), (0, .ref a), (2, .int (nI i))]) dX9_init_53 2 rfl (nI_1 _) (by decide) rfl ?_
      refine x_goto 83 dX9_init_56 (by decide) ?_
      refine x_iinc (v := nI (i + 1)) (lv1 := [(2, .int (nI (i + 1))), (1, .int (nI ((tpS i).1 + 1))), (3, .int (wdB.getD i 0)), (0, .ref a)]) dX9_init_83 3 rfl (nI_1 i) (by decide) rfl ?_
      refine x_goto 25 dX9_init_86 (by decide) ?_
      have eM : tpM (mn M) (i + 1) (bd1 4 1000 a 1 (bd1 2 21 a 0 M)) = tpM (mn M) i (bd1 4 1000 a 1 (bd1 2 21 a 0 M)) := by
        unfold tpM
        rw [es]
      rw [eM, es] at ih
      exact EX.sub [3, 1, 0] ih rfl
