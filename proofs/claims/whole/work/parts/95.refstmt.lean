/-! ===== the reference reads: shots, needs ===== -/
theorem mi_wj {M : MM} {a k : Nat} {v : Int64} : mi (wj M a k v) = mi M := rfl
theorem mj_wi {M : MM} {a k : Nat} {v : Int32} : mj (wi M a k v) = mj M := rfl
def rNl (lw : Nat → PRs) : Nat → Nat
  | 0 => 0
  | k + 1 => rNl lw k + (rrc (lw k)).length
theorem rNl_cong {f h : Nat → PRs} : ∀ {k}, (∀ j, j < k → f j = h j) → rNl f k = rNl h k
  | 0, _ => rfl
  | k + 1, e => by rw [rNl, rNl, e k (by omega), rNl_cong (fun j hj => e j (by omega))]
theorem rNl_le (f : Nat → PRs) {a b : Nat} (h : a ≤ b) : rNl f a ≤ rNl f b := by
  induction b with
  | zero => rw [show a = 0 by omega]; exact Nat.le_refl _
  | succ b ih =>
    by_cases e : a = b + 1
    · rw [e]; exact Nat.le_refl _
    · have := ih (by omega)
      rw [rNl]; omega
abbrev inRc : Nat → Prop := fun b => b = 130 ∨ (132 ≤ b ∧ b ≤ 143)
/-- what was told is as it was -/
def RTo (B M : MM) : Prop := (∀ k, k < 2 → mi M 132 k = mi B 132 k) ∧ (∀ k, k < 10 → mj M 133 k = mj B 133 k ∧ mi M 135 k = mi B 135 k ∧ mi M 136 k = mi B 136 k ∧ mi M 137 k = mi B 137 k) ∧ (∀ k, k < 6 → mj M 134 k = mj B 134 k ∧ mi M 138 k = mi B 138 k ∧ mi M 139 k = mi B 139 k ∧ mi M 140 k = mi B 140 k) ∧ (∀ k, k < 1000 → mi M 141 k = mi B 141 k) ∧ Fr inRc B M ∧ ∀ x, x ≠ 4 → x ≠ 5 → x ≠ 6 → x ≠ 8 → x ≠ 9 → x ≠ 20 → x ≠ 33 → mi M 130 x = mi B 130 x
/-- the draft is D -/
def RcD (M : MM) (D : DTs) : Prop := RNm M 1 D ∧ (∀ k, k < dn D → mi M 135 (10 + k) = nI (dso D k) ∧ mi M 136 (10 + k) = nI (dle D k) ∧ mi M 137 (10 + k) = dnd D k) ∧ (∀ k, k < dh D → mi M 138 (6 + k) = nI (dki D k) ∧ mi M 139 (6 + k) = nI (1000 + rNl (dlw D) k) ∧ mi M 140 (6 + k) = nI (1000 + rNl (dlw D) (k + 1)) ∧ SegIs M 140 (1000 + rNl (dlw D) k) (rrc (dlw D k))) ∧ mi M 130 20 = nI (1000 + rNl (dlw D) (dh D))
section RS
variable {g : GG} {d : Nat} {B M M1 M2 : MM} {la lb pa pb0 rl n p : Nat} {t : Nat → Nat} {D : DTs}
theorem RTo.rf : RTo M M := ⟨fun _ _ => rfl, fun _ _ => ⟨rfl, rfl, rfl, rfl⟩, fun _ _ => ⟨rfl, rfl, rfl, rfl⟩, fun _ _ => rfl, Fr.rf, fun _ _ _ _ _ _ _ _ => rfl⟩
theorem RTo.tn (h : RTo B M) (F : TnF M M1) : RTo B M1 := by
  obtain ⟨a1, a2, a3, a4, a5, a6⟩ := h
  have F1 := F.1
  refine ⟨?_, ?_, ?_, ?_, a5.trans (F1.mono (fun b hb => .inl hb)), fun x x4 x5 x6 x8 x9 x20 x33 => by rw [F.2.1 x x4 x5 x6 x8 x9 x33]; exact a6 x x4 x5 x6 x8 x9 x20 x33⟩
  · rw [F1.i (show ¬ inC 130 132 by omega)]; exact a1
  · rw [F1.j (show ¬ inC 130 133 by omega), F1.i (show ¬ inC 130 135 by omega), F1.i (show ¬ inC 130 136 by omega), F1.i (show ¬ inC 130 137 by omega)]; exact a2
  · rw [F1.j (show ¬ inC 130 134 by omega), F1.i (show ¬ inC 130 138 by omega), F1.i (show ¬ inC 130 139 by omega), F1.i (show ¬ inC 130 140 by omega)]; exact a3
  · rw [F1.i (show ¬ inC 130 141 by omega)]; exact a4
theorem RTo.w {a k : Nat} {v : Int32} (h : RTo B M) (ha : 132 ≤ a ∧ a ≤ 143) (h0 : a = 132 → 2 ≤ k) (h1 : 135 ≤ a ∧ a ≤ 137 → 10 ≤ k) (h2 : 138 ≤ a ∧ a ≤ 140 → 6 ≤ k) (h3 : a = 141 → 1000 ≤ k) : RTo B (wi M a k v) := by
  obtain ⟨a1, a2, a3, a4, a5, a6⟩ := h
  refine ⟨fun j hj => ?_, fun j hj => ⟨(a2 j hj).1, ?_, ?_, ?_⟩, fun j hj => ⟨(a3 j hj).1, ?_, ?_, ?_⟩, fun j hj => ?_, a5.wi (.inr ha), fun x x4 x5 x6 x8 x9 x20 x33 => by rw [wi_at, if_neg (by omega)]; exact a6 x x4 x5 x6 x8 x9 x20 x33⟩ <;> rw [wi_at, if_neg (by omega)]
  · exact a1 j hj
  · exact (a2 j hj).2.1
  · exact (a2 j hj).2.2.1
  · exact (a2 j hj).2.2.2
  · exact (a3 j hj).2.1
  · exact (a3 j hj).2.2.1
  · exact (a3 j hj).2.2.2
  · exact a4 j hj
theorem RTo.wl {a k : Nat} {v : Int64} (h : RTo B M) (h1 : (a = 133 ∧ 10 ≤ k) ∨ (a = 134 ∧ 6 ≤ k)) : RTo B (wj M a k v) := by
  obtain ⟨a1, a2, a3, a4, a5, a6⟩ := h
  refine ⟨a1, fun j hj => ⟨?_, (a2 j hj).2⟩, fun j hj => ⟨?_, (a3 j hj).2⟩, a4, a5.wj (.inr (by omega)), a6⟩ <;> rw [wj_at, if_neg (by omega)]
  · exact (a2 j hj).1
  · exact (a3 j hj).1
theorem RcD.tn (h : RcD M D) (F : TnF M M1) : RcD M1 D := by
  obtain ⟨a1, a2, a3, a4⟩ := h
  have F1 := F.1
  refine ⟨a1.to F1, ?_, ?_, by rw [F.2.1 20 (by omega) (by omega) (by omega) (by omega) (by omega) (by omega)]; exact a4⟩
  · rw [F1.i (show ¬ inC 130 135 by omega), F1.i (show ¬ inC 130 136 by omega), F1.i (show ¬ inC 130 137 by omega)]; exact a2
  · rw [F1.i (show ¬ inC 130 138 by omega), F1.i (show ¬ inC 130 139 by omega), F1.i (show ¬ inC 130 140 by omega)]
    exact fun k hk => ⟨(a3 k hk).1, (a3 k hk).2.1, (a3 k hk).2.2.1, (a3 k hk).2.2.2.to (F1.i (by omega))⟩
theorem TI.fr {S : Nat → Prop} (h : TI la lb pa pb0 rl n t M p) (F : Fr S M M1) (h0 : ¬ S 130) (h1 : ¬ S 131) : TI la lb pa pb0 rl n t M1 p :=
  h.to (F.lay h.1) (fun x _ => by rw [F.i h0]) (by rw [F.j h0]) (F.i h1)
def SRr (la lb pa pb0 rl n : Nat) (t : Nat → Nat) (B : MM) (r : SRs) : Option Value → MM → Prop := fun rv M2 => (r.1 = 0 ∧ rv = some (.int 1) ∧ TI la lb pa pb0 rl n t M2 r.2.2.1 ∧ RcD M2 r.2.2.2 ∧ RTo B M2 ∧ rNl (dlw r.2.2.2) (dh r.2.2.2) ≤ r.2.2.1) ∨ (r.1 = 1 ∧ rv = some (.int 0) ∧ mi M2 130 9 = r.2.1 ∧ RTo B M2 ∧ Lay M2 la lb pa pb0 rl)
theorem SRr.bad {c : Int32} (e : mi M2 130 9 = c) (h : RTo B M2) (L : Lay M2 la lb pa pb0 rl) : SRr la lb pa pb0 rl n t B (sFlS c) (some (.int 0)) M2 := .inr ⟨rfl, rfl, e, h, L⟩
/-- while a statement is read: here is the token, the draft is D -/
def RcI (la lb pa pb0 rl n : Nat) (t : Nat → Nat) (B M : MM) (p : Nat) (D : DTs) : Prop := TI la lb pa pb0 rl n t M p ∧ RcD M D ∧ RTo B M
theorem RcI.tn {q : Nat} (h : RcI la lb pa pb0 rl n t B M p D) (I : TI la lb pa pb0 rl n t M1 q) (F : TnF M M1) : RcI la lb pa pb0 rl n t B M1 q D := ⟨I, h.2.1.tn F, h.2.2.tn F⟩
variable {Y Z : YY} {pc : Nat} {lv : List (Nat × Value)} {st av : List Value} {P : Option Value → MM → Prop}
theorem K0.rn (h : RcI la lb pa pb0 rl n t B M p D) (hd : 2 ≤ d) (k : ∀ M2, RcI la lb pa pb0 rl n t B M2 (nxT n t p) D → TkF M M2 → E0 g Y d pc lv st M2 P) : K0 g Y YX12_nextToken d pc [.ref 130] lv st M P :=
  K0.tn h.1 hd (fun M2 I2 F2 => k M2 (h.tn I2 F2.tn) F2)
theorem K0.rq {p2 fk : Nat} {Q : MM → Prop} (s : SRs) (h : RcI la lb pa pb0 rl n t B M p D) (hd : 1 ≤ d) (hc : R0 g Z (d - 1) av M (TnR la lb pa pb0 rl n t p p2 fk M Q)) (k1 : ∀ M2, Lay M2 la lb pa pb0 rl → SRr la lb pa pb0 rl n t B (chkS n t fk p s) (some (.int 0)) M2 → E0 g Y d pc lv (.int 0 :: st) M2 P) (k0 : fk = 0 → ∀ M2, RcI la lb pa pb0 rl n t B M2 p2 D → TnF M M2 → Q M2 → E0 g Y d pc lv (.int 1 :: st) M2 P) : K0 g Y Z d pc av lv st M P :=
  K0.tq hd hc (fun z M2 I2 F2 q => k0 z M2 (h.tn I2 F2) F2 q) (fun z M2 e F => k1 M2 (F.1.lay h.1.1) (by rw [chkS_n z]; exact SRr.bad e (h.2.2.tn F) (F.1.lay h.1.1)))
theorem K0.rf {k : Nat} (h : RcI la lb pa pb0 rl n t B M p D) (hd : 1 ≤ d) (kk : ∀ M2, SRr la lb pa pb0 rl n t B (sFlS (fltC n t k p)) (some (.int 0)) M2 → E0 g Y d pc lv (.int 0 :: st) M2 P) : K0 g Y YX12_fails d pc [.ref 130, .int (nI k)] lv st M P :=
  K0.ff h.1 hd (fun M2 e F => kk M2 (SRr.bad e (h.2.2.tn F) (F.1.lay h.1.1)))
theorem RcD.addS {w : List Nat} {s l : Nat} (h : RcD M D) (hd : dn D < 10) (e132 : ∀ k, mi M1 132 k = if k = 2 then nI (dn D + 1) else mi M 132 k) (e133 : ∀ k, mj M1 133 k = if k = 10 + dn D then lJ (hRx 27 w) else mj M 133 k) (e134 : mj M1 134 = mj M 134) (e135 : mi M1 135 = mi M 135) (f135 : mi M 135 (10 + dn D) = nI s) (e136 : ∀ k, mi M1 136 k = if k = 10 + dn D then nI l else mi M 136 k) (e137 : ∀ k, mi M1 137 k = if k = 10 + dn D then 0 else mi M 137 k) (e138 : mi M1 138 = mi M 138) (e139 : mi M1 139 = mi M 139) (e140 : mi M1 140 = mi M 140) (e141 : mi M1 141 = mi M 141) (e20 : mi M1 130 = mi M 130) : RcD M1 (dAddS D w s l) := by
  obtain ⟨⟨a1, a2, a3, a4⟩, b, c, e⟩ := h
  refine ⟨⟨?_, ?_, fun k hk => ?_, ?_⟩, fun k hk => ?_, fun k hk => ?_, ?_⟩
  · rw [e132, if_pos rfl]; rfl
  · rw [e132, if_neg (by omega)]; exact a2
  · show mj M1 133 (10 * 1 + k) = lJ (hRx 27 (if k = dn D then w else dsn D k))
    have hk : k < dn D + 1 := hk
    rw [e133]
    by_cases z : k = dn D
    · rw [if_pos (by omega), if_pos z]
    · rw [if_neg (by omega), if_neg z]; exact a3 k (by omega)
  · rw [e134]; exact a4
  · show mi M1 135 (10 + k) = nI (if k = dn D then s else dso D k) ∧ mi M1 136 (10 + k) = nI (if k = dn D then l else dle D k) ∧ mi M1 137 (10 + k) = (if k = dn D then 0 else dnd D k)
    have hk : k < dn D + 1 := hk
    rw [e135, e136, e137]
    by_cases z : k = dn D
    · rw [if_pos z, if_pos (by omega), if_pos z, if_pos (by omega), if_pos z, z]; exact ⟨f135, rfl, rfl⟩
    · rw [if_neg z, if_neg (by omega), if_neg z, if_neg (by omega), if_neg z]; exact b k (by omega)
  · rw [e138, e139, e140]
    exact ⟨(c k hk).1, (c k hk).2.1, (c k hk).2.2.1, (c k hk).2.2.2.to e141⟩
  · rw [e20]; exact e
theorem RcD.addN {a x : Nat} (h : RcD M D) (F : Fr (inC 137) M M1) (ha : a < dn D) (e137 : ∀ k, mi M1 137 k = if k = 10 + a then mi M 137 k ||| ((1 : Int32) <<< (nI x &&& 31)) else mi M 137 k) : RcD M1 (dAddN D a x) := by
  obtain ⟨⟨a1, a2, a3, a4⟩, b, c, e⟩ := h
  refine ⟨⟨?_, ?_, ?_, ?_⟩, fun k hk => ?_, fun k hk => ?_, ?_⟩
  · rw [F.i (by omega)]; exact a1
  · rw [F.i (by omega)]; exact a2
  · rw [F.j (by omega)]; exact a3
  · rw [F.j (by omega)]; exact a4
  · show mi M1 135 (10 + k) = nI (dso D k) ∧ mi M1 136 (10 + k) = nI (dle D k) ∧ mi M1 137 (10 + k) = (if k = a then dnd D k ||| ((1 : Int32) <<< (nI x &&& 31)) else dnd D k)
    have b := b k hk
    rw [F.i (by omega), F.i (by omega), e137, b.2.2]
    refine ⟨b.1, b.2.1, ?_⟩
    by_cases z : k = a
    · rw [if_pos z, if_pos (by omega)]
    · rw [if_neg z, if_neg (by omega)]
  · rw [F.i (by omega), F.i (by omega), F.i (by omega)]
    exact ⟨(c k hk).1, (c k hk).2.1, (c k hk).2.2.1, (c k hk).2.2.2.to (F.i (by omega))⟩
  · rw [F.i (by omega)]; exact e
theorem RcD.w135 {v : Int32} (h : RcD M D) : RcD (wi M 135 (10 + dn D) v) D := by
  obtain ⟨⟨a1, a2, a3, a4⟩, b, c, e⟩ := h
  have F : Fr (inC 135) M (wi M 135 (10 + dn D) v) := Fr.rf.wi rfl
  refine ⟨⟨by rw [F.i (by omega)]; exact a1, by rw [F.i (by omega)]; exact a2, a3, a4⟩, fun k hk => ?_, fun k hk => ?_, by rw [F.i (by omega)]; exact e⟩
  · have b := b k hk
    rw [wi_at, if_neg (by omega), F.i (by omega), F.i (by omega)]
    exact b
  · rw [F.i (by omega), F.i (by omega), F.i (by omega)]
    exact ⟨(c k hk).1, (c k hk).2.1, (c k hk).2.2.1, (c k hk).2.2.2.to (F.i (by omega))⟩
theorem tX12_readsShot (h : RcI la lb pa pb0 rl n t B M p D) (O : DOk D) (hE : rNl (dlw D) (dh D) ≤ p) (hd : 3 ≤ d) : R0 g YX12_readsShot d [.ref 130] M (SRr la lb pa pb0 rl n t B (pShot n t p D)) := by
  have d10 := O.1
  have e1 : (10 : Int32) + mi M 132 2 = nI (10 + dn D) := by rw [show (10 : Int32) = nI 10 from rfl, show mi M 132 2 = nI (dn D) from h.2.1.1.1, nI_add]
  have e20 : (10 : Int32) + mi M 132 2 = 20 ↔ dn D = 10 := by rw [e1, show (20 : Int32) = nI 20 from rfl, nI_eq (by omega) (by decide)]; omega
  have pn := h.1.2.2.2
  have q1 := nxT_le (t := t) pn
  have q2 := nxT_le (t := t) q1.2.1
  have q3 := nxT_le (t := t) q2.2.1
  have q4 := nxT_le (t := t) q3.2.1
  have q5 := nxT_le (t := t) q4.2.1
  have q6 := nxT_le (t := t) q5.2.1
  have q7 := nxT_le (t := t) q6.2.1
  unfold pShot
  refine R0.of (by decide +kernel) (Nat.le_of_ble_eq_true rfl) rfl (qX12_readsShot_0 h.1.1 (fun r => ?_) (fun r => ?_)) <;> rw [e20] at r
  · have hlt : dn D < 10 := by omega
    have ec : (nI (10 + dn D)).toNatClampNeg = 10 + dn D := nI_clamp (by omega)
    have hv : vp_in (nI (10 + dn D)) 20 := vi (by omega) (by decide)
    rw [if_pos hlt, e1]
    refine K0.rn h (by omega) (fun M1 h1 _ => qX12_readsShot_26 h1.1.1 (K0.rq _ h1 (by omega) (tX12_needsNew h1.1 h1.2.1.1 O (by omega)) (fun _ L b => qX12_readsShot_30 L (fun _ => b) (fun z => absurd rfl z)) (fun z1 M2 h2 _ nm => ?_)))
    rw [chkS_0 z1]
    refine qX12_readsShot_30 h2.1.1 (fun z => absurd z (by decide)) (fun _ => K0.rq _ h2 (by omega) (tX12_needsWord (i := 1) h2.1 (by omega) (by decide +kernel) (by omega)) (fun _ L b => qX12_readsShot_40 L (fun _ => b) (fun z => absurd rfl z)) (fun z2 M3 h3 _ w3 => ?_))
    rw [chkS_0 z2]
    refine qX12_readsShot_40 h3.1.1 (fun z => absurd z (by decide)) (fun _ => K0.rq _ h3 (by omega) (tX12_needsNumber (lo := 0) (hi := 9) h3.1 (by omega) (by omega) (by omega)) (fun _ L b => qX12_readsShot_50 L rfl (fun z => absurd rfl z) (fun z => absurd rfl z) (fun _ => b)) (fun z3 M4 h4 _ w4 => ?_))
    rw [chkS_0 z3]
    have F5 : Fr (inC 135) M4 (wi M4 135 (10 + dn D) (nI (knu (lexT n t (n3 n t p))))) := Fr.rf.wi rfl
    have h5 : RcI la lb pa pb0 rl n t B (wi M4 135 (10 + dn D) (nI (knu (lexT n t (n3 n t p))))) (n4 n t p) D := ⟨h4.1.fr F5 (by omega) (by omega), h4.2.1.w135, h4.2.2.w (by omega) (by omega) (by omega) (by omega) (by omega)⟩
    refine qX12_readsShot_50 (M1 := wi M4 135 (10 + dn D) (nI (knu (lexT n t (n3 n t p))))) h4.1.1 (by rw [ec, w4.1]) (fun _ => hv) (fun _ => K0.rq _ h5 (by omega) (tX12_needsWord (i := 2) h5.1 (by omega) (by decide +kernel) (by omega)) (fun _ L b => qX12_readsShot_72 L (fun _ => b) (fun z => absurd rfl z)) (fun z4 M6 h6 F6 w6 => ?_)) (fun z => absurd z (by decide))
    rw [chkS_0 z4]
    refine qX12_readsShot_72 h6.1.1 (fun z => absurd z (by decide)) (fun _ => K0.rq _ h6 (by omega) (tX12_needsNumber (lo := 1) (hi := 60) h6.1 (by omega) (by omega) (by omega)) (fun _ L b => qX12_readsShot_82 L rfl rfl rfl rfl (fun z => absurd rfl z) (fun z => absurd rfl z) (fun z => absurd rfl z) (fun z => absurd rfl z) (fun _ => b)) (fun z5 M7 h7 F7 w7 => ?_))
    rw [chkS_0 z5]
    have e34 : mj M7 130 34 = lJ (hRx 27 (kws (lexT n t (n1 n t p)))) := by rw [w7.2, w6, F5.j (by omega), w4.2, w3]; exact nm
    have f135 : mi M7 135 (10 + dn D) = nI (knu (lexT n t (n3 n t p))) := by rw [F7.1.i (by omega), F6.1.i (by omega), wi_at, if_pos ⟨rfl, rfl⟩]
    have e2 : mi M7 132 2 = nI (dn D) := h7.2.1.1.1
    have h8 : RcI la lb pa pb0 rl n t B (wi (wj (wi (wi M7 136 (10 + dn D) (nI (knu (lexT n t (n5 n t p))))) 137 (10 + dn D) 0) 133 (10 + dn D) (lJ (hRx 27 (kws (lexT n t (n1 n t p)))))) 132 2 (nI (dn D + 1))) (n6 n t p) (dAddS D (kws (lexT n t (n1 n t p))) (knu (lexT n t (n3 n t p))) (knu (lexT n t (n5 n t p)))) := by
      have F8 : Fr (fun b => b = 136 ∨ b = 137 ∨ b = 133 ∨ b = 132) M7 (wi (wj (wi (wi M7 136 (10 + dn D) (nI (knu (lexT n t (n5 n t p))))) 137 (10 + dn D) 0) 133 (10 + dn D) (lJ (hRx 27 (kws (lexT n t (n1 n t p)))))) 132 2 (nI (dn D + 1))) := (((Fr.rf.wi (.inl rfl)).wi (.inr (.inl rfl))).wj (.inr (.inr (.inl rfl)))).wi (.inr (.inr (.inr rfl)))
      refine ⟨h7.1.fr F8 (by omega) (by omega), h7.2.1.addS hlt (fun k => ?_) (fun k => ?_) (F8.j (by omega)) (F8.i (by omega)) f135 (fun k => ?_) (fun k => ?_) (F8.i (by omega)) (F8.i (by omega)) (F8.i (by omega)) (F8.i (by omega)) (F8.i (by omega)), ?_⟩
      · rw [wi_at]
        by_cases z : k = 2
        · rw [if_pos ⟨rfl, z⟩, if_pos z]
        · rw [if_neg (fun y => z y.2), if_neg z]
          rw [mi_wj]
          rw [wi_at, if_neg (by omega), wi_at, if_neg (by omega)]
      · rw [mj_wi, wj_at]
        by_cases z : k = 10 + dn D
        · rw [if_pos ⟨rfl, z⟩, if_pos z]
        · rw [if_neg (fun y => z y.2), if_neg z]
      · rw [wi_at, if_neg (by omega)]
        rw [mi_wj]
        rw [wi_at, if_neg (by omega), wi_at]
        by_cases z : k = 10 + dn D
        · rw [if_pos ⟨rfl, z⟩, if_pos z]
        · rw [if_neg (fun y => z y.2), if_neg z]
      · rw [wi_at, if_neg (by omega)]
        rw [mi_wj]
        rw [wi_at]
        by_cases z : k = 10 + dn D
        · rw [if_pos ⟨rfl, z⟩, if_pos z]
        · rw [if_neg (fun y => z y.2), if_neg z, wi_at, if_neg (by omega)]
      · exact (((h7.2.2.w (by omega) (by omega) (by omega) (by omega) (by omega)).w (by omega) (by omega) (by omega) (by omega) (by omega)).wl (.inl ⟨rfl, by omega⟩)).w (by omega) (by omega) (by omega) (by omega) (by omega)
    refine qX12_readsShot_82 (M1 := wi M7 136 (10 + dn D) (nI (knu (lexT n t (n5 n t p))))) (M2 := wi (wi M7 136 (10 + dn D) (nI (knu (lexT n t (n5 n t p))))) 137 (10 + dn D) 0) (M3 := wj (wi (wi M7 136 (10 + dn D) (nI (knu (lexT n t (n5 n t p))))) 137 (10 + dn D) 0) 133 (10 + dn D) (lJ (hRx 27 (kws (lexT n t (n1 n t p)))))) (M4 := wi (wj (wi (wi M7 136 (10 + dn D) (nI (knu (lexT n t (n5 n t p))))) 137 (10 + dn D) 0) 133 (10 + dn D) (lJ (hRx 27 (kws (lexT n t (n1 n t p)))))) 132 2 (nI (dn D + 1))) h7.1.1 (by rw [ec, w7.1]) (by rw [ec]) (by rw [ec, e34]) ?_ (fun _ => hv) (fun _ => hv) (fun _ => hv) (fun _ => K0.rq _ h8 (by omega) (tX12_closes h8.1 (by omega)) (fun _ L b => qX12_readsShot_128 (by decide) b) (fun z6 M9 h9 _ _ => ?_)) (fun z => absurd z (by decide))
    · rw [wi_at (a := 137), if_neg (by omega), wi_at, if_neg (by omega), e2, nI_1]
    · rw [chkS_0 z6]
      refine qX12_readsShot_128 (by decide) (.inl ⟨rfl, rfl, h9.1, h9.2.1, h9.2.2, ?_⟩)
      exact Nat.le_trans hE (Nat.le_trans q1.1 (Nat.le_trans q2.1 (Nat.le_trans q3.1 (Nat.le_trans q4.1 (Nat.le_trans q5.1 (Nat.le_trans q6.1 q7.1))))))
  · rw [if_neg (show ¬ dn D < 10 by omega)]
    exact K0.rf (k := 5) h (by omega) (fun M2 b => qX12_readsShot_21 (by decide) b)
theorem tX12_readsNeeds (h : RcI la lb pa pb0 rl n t B M p D) (O : DOk D) (hE : rNl (dlw D) (dh D) ≤ p) (hd : 3 ≤ d) : R0 g YX12_readsNeeds d [.ref 130] M (SRr la lb pa pb0 rl n t B (pNeeds n t p D)) := by
  have d10 := O.1
  have q1 := nxT_le (t := t) h.1.2.2.2
  have q2 := nxT_le (t := t) q1.2.1
  have q3 := nxT_le (t := t) q2.2.1
  have q4 := nxT_le (t := t) q3.2.1
  unfold pNeeds
  refine R0.of (by decide +kernel) (Nat.le_of_ble_eq_true rfl) rfl (qX12_readsNeeds_0 h.1.1 (K0.rn h (by omega) (fun M1 h1 _ => qX12_readsNeeds_4 h1.1.1 (K0.rq _ h1 (by omega) (tX12_needsShot (o := 1) h1.1 h1.2.1.1 O (by omega) (by omega)) (fun _ L b => qX12_readsNeeds_9 L (fun z => absurd rfl z) (fun _ => b)) (fun z1 M2 h2 _ w2 => ?_)))))
  rw [chkS_0 z1]
  obtain ⟨a, ha, ea⟩ := sIx_of O (toF_0 z1).2
  rw [ea] at w2
  refine qX12_readsNeeds_9 h2.1.1 (fun _ => ?_) (fun z => absurd z (by decide))
  rw [w2]
  refine K0.rn h2 (by omega) (fun M3 h3 _ => qX12_readsNeeds_23 h3.1.1 (K0.rq _ h3 (by omega) (tX12_needsShot (o := 1) h3.1 h3.2.1.1 O (by omega) (by omega)) (fun _ L b => qX12_readsNeeds_28 L rfl (fun z => absurd rfl z) (fun z => absurd rfl z) (fun z => absurd rfl z) (fun z => absurd rfl z) (fun z => absurd rfl z) (fun _ => b)) (fun z2 M4 h4 _ w4 => ?_)))
  rw [chkS_0 z2]
  obtain ⟨b, hb, eb⟩ := sIx_of O (toF_0 z2).2
  rw [eb] at w4
  rw [ea, eb, nI_clamp (by omega), nI_clamp (by omega)]
  have eab : nI b = nI a ↔ b = a := nI_eq (by omega) (by omega)
  have e1 : (10 : Int32) + nI a = nI (10 + a) := by rw [show (10 : Int32) = nI 10 from rfl, nI_add]
  have ec : ((10 : Int32) + nI a).toNatClampNeg = 10 + a := by rw [e1, nI_clamp (by omega)]
  have hv : vp_in ((10 : Int32) + nI a) 20 := by rw [e1]; exact vi (by omega) (by decide)
  have em : mi M4 137 (10 + a) = dnd D a := (h4.2.1.2.1 a ha).2.2
  have ebt : (((mi M4 137 ((10 : Int32) + nI a).toNatClampNeg) >>> ((mi M4 130 33) &&& 31)) &&& 1) = if bt (dnd D a) b then 1 else 0 := by rw [ec, em, w4]; exact bt_01 _ (by omega)
  have F5 : Fr (inC 137) M4 (wi M4 137 (10 + a) (mi M4 137 (10 + a) ||| ((1 : Int32) <<< (nI b &&& 31)))) := Fr.rf.wi rfl
  have h5 : RcI la lb pa pb0 rl n t B (wi M4 137 (10 + a) (mi M4 137 (10 + a) ||| ((1 : Int32) <<< (nI b &&& 31)))) (n2 n t p) (dAddN D a b) := by
    refine ⟨h4.1.fr F5 (by omega) (by omega), h4.2.1.addN F5 ha (fun k => ?_), h4.2.2.w (by omega) (by omega) (by omega) (by omega) (by omega)⟩
    rw [wi_at]
    by_cases z : k = 10 + a
    · rw [if_pos ⟨rfl, z⟩, if_pos z, z]
    · rw [if_neg (fun y => z y.2), if_neg z]
  refine qX12_readsNeeds_28 (M1 := wi M4 137 (10 + a) (mi M4 137 (10 + a) ||| ((1 : Int32) <<< (nI b &&& 31)))) h4.1.1 (by rw [ec, w4]) (fun _ _ => hv) (fun _ _ _ => hv) (fun _ r => ?_) (fun _ r1 r2 => ?_) (fun _ r1 r2 => ?_) (fun z => absurd z (by decide))
  · rw [w4] at r
    rw [if_pos (.inl r)]
    exact K0.rf (k := 3) h4 (by omega) (fun M5 b => qX12_readsNeeds_66 (by decide) b)
  · rw [w4] at r1
    rw [ebt] at r2
    have nb : ¬ bt (dnd D a) b = true := fun z => r2 (by rw [z]; rfl)
    rw [if_neg (fun z => z.elim r1 nb)]
    refine K0.rn h5 (by omega) (fun M6 h6 _ => qX12_readsNeeds_89 h6.1.1 (K0.rq _ h6 (by omega) (tX12_closes h6.1 (by omega)) (fun _ L b => qX12_readsNeeds_93 (by decide) b) (fun z3 M7 h7 _ _ => ?_)))
    rw [chkS_0 z3]
    refine qX12_readsNeeds_93 (by decide) (.inl ⟨rfl, rfl, h7.1, h7.2.1, h7.2.2, ?_⟩)
    exact Nat.le_trans hE (Nat.le_trans q1.1 (Nat.le_trans q2.1 (Nat.le_trans q3.1 q4.1)))
  · rw [ebt] at r2
    have nb : bt (dnd D a) b = true := by
      cases z : bt (dnd D a) b
      · rw [z] at r2; exact absurd r2 (by decide)
      · rfl
    rw [if_pos (.inr nb)]
    exact K0.rf (k := 3) h4 (by omega) (fun M5 b => qX12_readsNeeds_66 (by decide) b)
end RS
