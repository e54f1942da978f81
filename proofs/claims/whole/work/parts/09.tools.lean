/-! ===== what the printed regions speak of ===== -/
abbrev ob (M : MM) (a ci : Nat) : Prop := a < mn M ∧ mh M a = (0, ci)
abbrev ar (M : MM) (a t n : Nat) : Prop := a < mn M ∧ mh M a = (t, n)
abbrev E0 (g : GG) (Y : YY) (d pc : Nat) (lv : List (Nat × Value)) (st : List Value) (M : MM) (P : Option Value → MM → Prop) : Prop := EX g Y d 0 0 0 0 pc lv st M P
abbrev R0 (g : GG) (Y : YY) (d : Nat) (av : List Value) (M : MM) (P : Option Value → MM → Prop) : Prop := RT g Y d 0 0 av M P
/-- a call: the callee's contract at some depth, and how it goes on -/
abbrev K0 (g : GG) (Y Z : YY) (d pc : Nat) (av : List Value) (lv : List (Nat × Value)) (st : List Value) (M : MM) (P : Option Value → MM → Prop) : Prop := ∃ (d1 : Nat) (P1 : Option Value → MM → Prop), d1 + 1 ≤ d ∧ R0 g Z d1 av M P1 ∧ ∀ rv M1, P1 rv M1 → E0 g Y d pc lv (rv.toList ++ st) M1 P
theorem tb_out {lo hi x : Int} (h : x < lo ∨ hi < x) : x < lo ∨ hi < x := h
section EXT
variable {g : GG} {Y : YY} {d mc ms ce sl pc : Nat} {lv : List (Nat × Value)} {st : List Value} {M : MM} {P : Option Value → MM → Prop}
theorem x_look {dflt : Int} {ps : Array (Int × Int)} {len : Nat} {x : Int32} (tgt : Nat) (hd : decode (yC Y) pc = .ok (.lookupswitch dflt ps, len)) (hp : (ps.toList.zip (ps.toList.drop 1)).all (fun (a, next) => a.1 < next.1) = true) (ht : (pc : Int) + Op.lookupswitch.offset ps.toList dflt x.toInt = (tgt : Int)) (k : EX g Y d mc ms ce sl tgt lv st M P) : EX g Y d mc ms ce sl pc lv (.int x :: st) M P := by
  refine x_lookup hd hp (fun t h => ?_) ⟨tgt, ht⟩
  have e : t = tgt := by omega
  rw [e]; exact k
theorem K0.v {Z : YY} {idx b ci : Nat} {As st0 : List Value} (F : CV (yN Y).cls idx Z) (hd : decode (yC Y) pc = .ok (.invokevirtual idx, 3)) (hst : st0 = As.reverse ++ .ref b :: st) (hn : As.length = yA Z) (hb : ob M b ci) (hci : vwCl[ci]?.map (fun r => r.1) = some (yN Z).cls) (hw : (st.map fun v => v.category).sum ≤ 8) (h : K0 g Y Z d (pc + 3) (.ref b :: As) lv st M P) : E0 g Y d pc lv st0 M P := by
  obtain ⟨d1, P1, h1, h2, h3⟩ := h
  exact x_callV Z F hd hst hn hb.1 hb.2 hci h1 (Nat.le_refl _) (Nat.le_refl _) hw h2 h3
theorem K0.s {Z : YY} {idx : Nat} {As st0 : List Value} (F : CS (yN Y).cls idx Z) (hd : decode (yC Y) pc = .ok (.invokestatic idx, 3)) (hst : st0 = As.reverse ++ st) (hn : As.length = yA Z) (hw : (st.map fun v => v.category).sum ≤ 8) (h : K0 g Y Z d (pc + 3) As lv st M P) : E0 g Y d pc lv st0 M P := by
  obtain ⟨d1, P1, h1, h2, h3⟩ := h
  exact x_callS Z F hd hst hn h1 (Nat.le_refl _) (Nat.le_refl _) hw h2 h3
end EXT
