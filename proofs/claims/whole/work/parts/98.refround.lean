/-! ===== the reference: a round told ===== -/
abbrev inRl : Nat → Prop := fun b => b = 130 ∨ (154 ≤ b ∧ b ≤ 158)
def RTl (B M : MM) : Prop := Fr inRl B M ∧ (∀ o, o ≠ 5 → mi M 154 o = mi B 154 o) ∧ (∀ a, 155 ≤ a → a ≤ 158 → ∀ j, j < 200 → mi M a j = mi B a j) ∧ ∀ x, x ≠ 4 → x ≠ 5 → x ≠ 6 → x ≠ 8 → x ≠ 9 → x ≠ 33 → mi M 130 x = mi B 130 x
section RL
variable {g : GG} {d : Nat} {B M M1 M2 : MM} {la lb pa pb0 rl n p : Nat} {t : Nat → Nat} {D : DTs} {q : PP}
theorem RTl.rf : RTl M M := ⟨Fr.rf, fun _ _ => rfl, fun _ _ _ _ _ => rfl, fun _ _ _ _ _ _ _ => rfl⟩
theorem RTl.tn (h : RTl B M) (F : TnF M M1) : RTl B M1 := by
  obtain ⟨a1, a2, a3, a4⟩ := h
  refine ⟨a1.trans (F.1.mono (fun b hb => .inl hb)), ?_, fun a h1 h2 j hj => by rw [F.1.i (by omega)]; exact a3 a h1 h2 j hj, fun x x4 x5 x6 x8 x9 x33 => (F.2.1 x x4 x5 x6 x8 x9 x33).trans (a4 x x4 x5 x6 x8 x9 x33)⟩
  rw [F.1.i (show ¬ inC 130 154 by omega)]; exact a2
theorem RTl.w {a k : Nat} {v : Int32} (h : RTl B M) (ha : 155 ≤ a ∧ a ≤ 158) (hk : 200 ≤ k) : RTl B (wi M a k v) := by
  obtain ⟨a1, a2, a3, a4⟩ := h
  refine ⟨a1.wi (.inr (by omega)), fun o ho => by rw [wi_at, if_neg (by omega)]; exact a2 o ho, fun b h1 h2 j hj => by rw [wi_at, if_neg (by omega)]; exact a3 b h1 h2 j hj, fun x x4 x5 x6 x8 x9 x33 => by rw [wi_at, if_neg (by omega)]; exact a4 x x4 x5 x6 x8 x9 x33⟩
theorem RTl.w5 {v : Int32} (h : RTl B M) : RTl B (wi M 154 5 v) := by
  obtain ⟨a1, a2, a3, a4⟩ := h
  refine ⟨a1.wi (.inr (by omega)), fun o ho => by rw [wi_at, if_neg (by omega)]; exact a2 o ho, fun b h1 h2 j hj => by rw [wi_at, if_neg (by omega)]; exact a3 b h1 h2 j hj, fun x x4 x5 x6 x8 x9 x33 => by rw [wi_at, if_neg (by omega)]; exact a4 x x4 x5 x6 x8 x9 x33⟩
def RLI (la lb pa pb0 rl n : Nat) (t : Nat → Nat) (B M : MM) (p : Nat) (q : PP) : Prop := TI la lb pa pb0 rl n t M p ∧ RLn M 5 q ∧ RTl B M
theorem RLI.tn {p2 : Nat} (h : RLI la lb pa pb0 rl n t B M p q) (I : TI la lb pa pb0 rl n t M1 p2) (F : TnF M M1) : RLI la lb pa pb0 rl n t B M1 p2 q := ⟨I, h.2.1.fr F.1 (fun b h1 h2 => by omega), h.2.2.tn F⟩
theorem RLI.w {a : Nat} {v : Int32} (h : RLI la lb pa pb0 rl n t B M p q) (ha : 155 ≤ a ∧ a ≤ 158) : RLI la lb pa pb0 rl n t B (wi M a (200 + q.1) v) p q := by
  have F : Fr (inC a) M (wi M a (200 + q.1) v) := Fr.wi (S := inC a) Fr.rf rfl
  obtain ⟨I, ⟨l1, l2⟩, T⟩ := h
  refine ⟨I.fr F (by omega) (by omega), ⟨by rw [F.i (by omega)]; exact l1, fun i hi => ?_⟩, T.w ha (by omega)⟩
  obtain ⟨b1, b2, b3⟩ := l2 i hi
  refine ⟨by rw [wi_at, if_neg (by omega)]; exact b1, fun z => ⟨by rw [wi_at, if_neg (by omega)]; exact (b2 z).1, by rw [wi_at, if_neg (by omega)]; exact (b2 z).2⟩, fun z => by rw [wi_at, if_neg (by omega)]; exact b3 z⟩
theorem RLI.nm (h : RLI la lb pa pb0 rl n t B M p q) (N : RNm B 0 D) : RNm M 0 D := by
  have F := h.2.2.1
  unfold RNm
  rw [F.i (show ¬ inRl 132 by omega), F.j (show ¬ inRl 133 by omega), F.j (show ¬ inRl 134 by omega)]
  exact N
theorem RLI.add {w x y s : Nat} (h : RLI la lb pa pb0 rl n t B M p q) (h0 : mi M 155 (200 + q.1) = nI w) (h1 : w = 1 ∨ w = 2 → mi M 156 (200 + q.1) = nI x ∧ mi M 158 (200 + q.1) = nI s) (h2 : w = 2 → mi M 157 (200 + q.1) = nI y) : RLI la lb pa pb0 rl n t B (wi M 154 5 (nI (q.1 + 1))) p (plAdd q w x y s) := by
  have F : Fr (inC 154) M (wi M 154 5 (nI (q.1 + 1))) := Fr.wi (S := inC 154) Fr.rf rfl
  obtain ⟨I, ⟨l1, l2⟩, T⟩ := h
  refine ⟨I.fr F (by omega) (by omega), ⟨by rw [wi_at, if_pos ⟨rfl, rfl⟩]; rfl, fun i hi => ?_⟩, T.w5⟩
  show mi (wi M 154 5 (nI (q.1 + 1))) 155 (40 * 5 + i) = nI (if i = q.1 then w else q.2.1 i) ∧ ((if i = q.1 then w else q.2.1 i) = 1 ∨ (if i = q.1 then w else q.2.1 i) = 2 → mi (wi M 154 5 (nI (q.1 + 1))) 156 (40 * 5 + i) = nI (if i = q.1 then x else q.2.2.1 i) ∧ mi (wi M 154 5 (nI (q.1 + 1))) 158 (40 * 5 + i) = nI (if i = q.1 then s else q.2.2.2.2 i)) ∧ ((if i = q.1 then w else q.2.1 i) = 2 → mi (wi M 154 5 (nI (q.1 + 1))) 157 (40 * 5 + i) = nI (if i = q.1 then y else q.2.2.2.1 i))
  have hi : i < q.1 + 1 := hi
  rw [F.i (by omega), F.i (by omega), F.i (by omega), F.i (by omega)]
  by_cases z : i = q.1
  · rw [if_pos z, if_pos z, if_pos z, if_pos z, show 40 * 5 + i = 200 + q.1 by omega]
    exact ⟨h0, h1, h2⟩
  · rw [if_neg z, if_neg z, if_neg z, if_neg z]
    exact l2 i (by omega)
def RLr (la lb pa pb0 rl n : Nat) (t : Nat → Nat) (B : MM) (r : PLs) : Option Value → MM → Prop := fun rv M2 => (r.1 = 0 ∧ rv = some (.int 1) ∧ RLI la lb pa pb0 rl n t B M2 r.2.2.1 r.2.2.2) ∨ (r.1 = 1 ∧ rv = some (.int 0) ∧ mi M2 130 9 = r.2.1 ∧ RTl B M2 ∧ Lay M2 la lb pa pb0 rl)
theorem RLr.bad {c : Int32} (e : mi M2 130 9 = c) (h : RTl B M2) (L : Lay M2 la lb pa pb0 rl) : RLr la lb pa pb0 rl n t B (lFl c) (some (.int 0)) M2 := .inr ⟨rfl, rfl, e, h, L⟩
variable {Y Z : YY} {pc : Nat} {lv : List (Nat × Value)} {st av : List Value} {P : Option Value → MM → Prop}
theorem K0.ln (h : RLI la lb pa pb0 rl n t B M p q) (hd : 2 ≤ d) (k : ∀ M2, RLI la lb pa pb0 rl n t B M2 (nxT n t p) q → TkF M M2 → E0 g Y d pc lv st M2 P) : K0 g Y YX12_nextToken d pc [.ref 130] lv st M P :=
  K0.tn h.1 hd (fun M2 I2 F2 => k M2 (h.tn I2 F2.tn) F2)
theorem K0.lq {p2 fk : Nat} {Q : MM → Prop} (s : PLs) (h : RLI la lb pa pb0 rl n t B M p q) (hd : 1 ≤ d) (hc : R0 g Z (d - 1) av M (TnR la lb pa pb0 rl n t p p2 fk M Q)) (k1 : ∀ M2, fk ≠ 0 → Lay M2 la lb pa pb0 rl → RLr la lb pa pb0 rl n t B (chkL n t fk p s) (some (.int 0)) M2 → E0 g Y d pc lv (.int 0 :: st) M2 P) (k0 : fk = 0 → ∀ M2, RLI la lb pa pb0 rl n t B M2 p2 q → TnF M M2 → Q M2 → E0 g Y d pc lv (.int 1 :: st) M2 P) : K0 g Y Z d pc av lv st M P :=
  K0.tq hd hc (fun z M2 I2 F2 w => k0 z M2 (h.tn I2 F2) F2 w) (fun z M2 e F => k1 M2 z (F.1.lay h.1.1) (by rw [chkL_n z]; exact RLr.bad e (h.2.2.tn F) (F.1.lay h.1.1)))
theorem K0.lf {k : Nat} (h : RLI la lb pa pb0 rl n t B M p q) (hd : 1 ≤ d) (kk : ∀ M2, RLr la lb pa pb0 rl n t B (lFl (fltC n t k p)) (some (.int 0)) M2 → E0 g Y d pc lv (.int 0 :: st) M2 P) : K0 g Y YX12_fails d pc [.ref 130, .int (nI k)] lv st M P :=
  K0.ff h.1 hd (fun M2 e F => kk M2 (RLr.bad e (h.2.2.tn F) (F.1.lay h.1.1)))
/-- a line, from where its end is wanted -/
theorem ln_end {w x y s : Nat} (h : RLI la lb pa pb0 rl n t B M p q) (h0 : mi M 155 (200 + q.1) = nI w) (h1 : w = 1 ∨ w = 2 → mi M 156 (200 + q.1) = nI x ∧ mi M 158 (200 + q.1) = nI s) (h2 : w = 2 → mi M 157 (200 + q.1) = nI y) (hd : 3 ≤ d) : E0 g YX12_readsLine d 211 [(0, .ref 130)] [] M (RLr la lb pa pb0 rl n t B (chkL n t (smF (lexT n t p)) p (lOk (n1 n t p) (plAdd q w x y s)))) := by
  have ha := h.add h0 h1 h2
  refine qX12_readsLine_211 (M1 := wi M 154 5 (nI (q.1 + 1))) h.1.1 (by rw [h.2.1.1, nI_1]) (K0.lq _ ha (by omega) (tX12_closes ha.1 (by omega)) (fun M2 _ L b => qX12_readsLine_225 (by decide) b) (fun z M2 h2 _ _ => ?_))
  rw [chkL_0 z]
  exact qX12_readsLine_225 (by decide) (.inl ⟨rfl, rfl, h2⟩)
/-- from where its shot is wanted -/
theorem ln_shot {w x y : Nat} (h : RLI la lb pa pb0 rl n t B M p q) (N : RNm B 0 D) (O : DOk D) (h4 : q.1 < 40) (hw : w = 1 ∨ w = 2) (h0 : mi M 155 (200 + q.1) = nI w) (h1 : mi M 156 (200 + q.1) = nI x) (h2 : w = 2 → mi M 157 (200 + q.1) = nI y) (hd : 3 ≤ d) : E0 g YX12_readsLine d 187 [(0, .ref 130), (2, .int (nI (200 + q.1)))] [] M (RLr la lb pa pb0 rl n t B (pShL n t D w x y p q)) := by
  unfold pShL
  have d10 := O.1
  refine qX12_readsLine_187 h.1.1 (K0.lq _ h (by omega) (tX12_needsShot (o := 0) h.1 (h.nm N) O (by omega) (by omega)) (fun M2 _ L b => qX12_readsLine_192 L rfl (fun z => absurd rfl z) (fun z => absurd rfl z) (fun _ => b)) (fun z M2 h2' F2 w2 => ?_))
  rw [chkL_0 z]
  obtain ⟨s, hs, es⟩ := sIx_of O (toF_0 z).2
  rw [es, nI_clamp (by omega)]
  rw [es] at w2
  have h3 : RLI la lb pa pb0 rl n t B (wi M2 158 (200 + q.1) (nI s)) p q := h2'.w (by omega)
  refine qX12_readsLine_192 (M1 := wi M2 158 (200 + q.1) (nI s)) h2'.1.1 (by rw [nI_clamp (by omega), w2]) (fun _ => vi (by omega) (by decide)) (fun _ => K0.ln h3 (by omega) (fun M4 h5 F4 => ?_)) (fun z => absurd z (by decide))
  refine ln_end h5 ?_ (fun _ => ⟨?_, ?_⟩) (fun z => ?_) hd
  · rw [F4.1.i (by omega), wi_at, if_neg (by omega), F2.1.i (by omega)]; exact h0
  · rw [F4.1.i (by omega), wi_at, if_neg (by omega), F2.1.i (by omega)]; exact h1
  · rw [F4.1.i (by omega), wi_at, if_pos ⟨rfl, rfl⟩]
  · rw [F4.1.i (by omega), wi_at, if_neg (by omega), F2.1.i (by omega)]; exact h2 z
/-- from behind its first word -/
theorem ln_89 {w : Nat} (h : RLI la lb pa pb0 rl n t B M p q) (N : RNm B 0 D) (O : DOk D) (h4 : q.1 < 40) (hw : w < 4) (hd : 3 ≤ d) : E0 g YX12_readsLine d 89 [(0, .ref 130), (1, .int (nI w))] [] M (RLr la lb pa pb0 rl n t B (if w = 1 ∨ w = 2 then pHnd n t D w p q else pBar n t w p q)) := by
  have d6 := O.2.1
  have e5 : (200 : Int32) + mi M 154 5 = nI (200 + q.1) := by rw [h.2.1.1, show (200 : Int32) = nI 200 from rfl, nI_add]
  have ec : (nI (200 + q.1)).toNatClampNeg = 200 + q.1 := nI_clamp (by omega)
  have hv : vp_in (nI (200 + q.1)) 240 := vi (by omega) (by decide)
  have w1 : nI w = 1 ↔ w = 1 := by rw [show (1 : Int32) = nI 1 from rfl]; exact nI_eq (by omega) (by decide)
  have w2 : nI w = 2 ↔ w = 2 := by rw [show (2 : Int32) = nI 2 from rfl]; exact nI_eq (by omega) (by decide)
  have h1 : RLI la lb pa pb0 rl n t B (wi M 155 (200 + q.1) (nI w)) p q := h.w (by omega)
  have f155 : mi (wi M 155 (200 + q.1) (nI w)) 155 (200 + q.1) = nI w := by rw [wi_at, if_pos ⟨rfl, rfl⟩]
  have hnd : w = 1 ∨ w = 2 → K0 g YX12_readsLine YX12_needsHall d 121 [.ref 130] [(0, .ref 130), (1, .int (nI w)), (2, .int (200 + mi M 154 5))] [] (wi M 155 (200 + q.1) (nI w)) (RLr la lb pa pb0 rl n t B (if w = 1 ∨ w = 2 then pHnd n t D w p q else pBar n t w p q)) := fun hw12 => by
    rw [if_pos hw12, e5]
    unfold pHnd
    refine K0.lq _ h1 (by omega) (tX12_needsHall h1.1 (h1.nm N) O (by omega)) (fun M2 _ L b => qX12_readsLine_121 L rfl (fun z => absurd rfl z) (fun z => absurd rfl z) (fun _ => b)) (fun z M2 h2 F2 x2 => ?_)
    rw [chkL_0 z]
    obtain ⟨x, hx, ex⟩ := hIx_of O (toF_0 z).2
    rw [ex, nI_clamp (by omega)]
    rw [ex] at x2
    have h3 : RLI la lb pa pb0 rl n t B (wi M2 156 (200 + q.1) (nI x)) p q := h2.w (by omega)
    refine qX12_readsLine_121 (M1 := wi M2 156 (200 + q.1) (nI x)) h2.1.1 (by rw [ec, x2]) (fun _ => hv) (fun _ => K0.ln h3 (by omega) (fun M4 h5 F4 => ?_)) (fun z => absurd z (by decide))
    have g155 : mi M4 155 (200 + q.1) = nI w := by rw [F4.1.i (by omega), wi_at, if_neg (by omega), F2.1.i (by omega)]; exact f155
    have g156 : mi M4 156 (200 + q.1) = nI x := by rw [F4.1.i (by omega), wi_at, if_pos ⟨rfl, rfl⟩]
    refine qX12_readsLine_140 h5.1.1 (fun r => ?_) (fun r => ?_) <;> rw [w2] at r
    · rw [if_neg r]
      exact ln_shot h5 N O h4 hw12 g155 g156 (fun z => absurd z r) hd
    · rw [if_pos r]
      refine K0.lq (if kNm (lexT n t (n1 n t p)) = true ∧ hIx n t D (n1 n t p) = nI x then lFl (fltC n t 3 (n1 n t p)) else pShL n t D w x (hIx n t D (n1 n t p)).toNatClampNeg (n2 n t p) q) h5 (by omega) (tX12_needsHall h5.1 (h5.nm N) O (by omega)) (fun M6 zf L b => qX12_readsLine_149 L rfl (fun z => absurd rfl z) (fun z => absurd rfl z) (fun z => absurd rfl z) (fun z => absurd rfl z) (fun _ => ?_)) (fun z2 M6 h6 F6 y2 => ?_)
      · have : ¬ (kNm (lexT n t (n1 n t p)) = true ∧ hIx n t D (n1 n t p) = nI x) := fun y => zf (by unfold toF; rw [if_pos y.1, if_neg (by rw [y.2]; exact nI_m1 (by omega))])
        rw [if_neg this]
        rw [chkL_n zf] at b ⊢
        exact b
      · obtain ⟨y, hy, ey⟩ := hIx_of O (toF_0 z2).2
        have kn := (toF_0 z2).1
        rw [ey] at y2
        have k156 : mi M6 156 (200 + q.1) = nI x := by rw [F6.1.i (by omega)]; exact g156
        have h7 : RLI la lb pa pb0 rl n t B (wi M6 157 (200 + q.1) (nI y)) (n1 n t p) q := h6.w (by omega)
        refine qX12_readsLine_149 (M1 := wi M6 157 (200 + q.1) (nI y)) h6.1.1 (by rw [ec, y2]) (fun _ => hv) (fun _ _ => hv) (fun _ s => ?_) (fun _ s => ?_) (fun z => absurd z (by decide)) <;> rw [ec, k156, y2] at s
        · rw [if_neg (fun v => s (by rw [← ey]; exact v.2)), chkL_0 z2, ey, nI_clamp (by omega)]
          refine K0.ln h7 (by omega) (fun M8 h8 F8 => ln_shot h8 N O h4 hw12 ?_ ?_ (fun _ => ?_) hd)
          · rw [F8.1.i (by omega), wi_at, if_neg (by omega), F6.1.i (by omega)]; exact g155
          · rw [F8.1.i (by omega), wi_at, if_neg (by omega)]; exact k156
          · rw [F8.1.i (by omega), wi_at, if_pos ⟨rfl, rfl⟩]
        · rw [if_pos ⟨kn, by rw [ey]; exact s⟩]
          exact K0.lf (k := 3) h6 (by omega) (fun M8 b => qX12_readsLine_172 (by decide) b)
  refine qX12_readsLine_89 (M1 := wi M 155 (200 + q.1) (nI w)) h.1.1 (by rw [e5, ec]) (by rw [e5]; exact hv) (fun r => hnd (.inl (w1.mp r))) (fun r1 r2 => ?_) (fun _ r => hnd (.inr (w2.mp r)))
  rw [w1] at r1
  rw [w2] at r2
  have nw : ¬ (w = 1 ∨ w = 2) := fun z => z.elim r1 r2
  rw [if_neg nw]
  exact ln_end h1 f155 (fun z => absurd z nw) (fun z => absurd z r2) hd
theorem tX12_readsLine (h : RLI la lb pa pb0 rl n t B M p q) (N : RNm B 0 D) (O : DOk D) (hq : q.1 ≤ 40) (hd : 3 ≤ d) : R0 g YX12_readsLine d [.ref 130] M (RLr la lb pa pb0 rl n t B (pLine n t p D q)) := by
  have e40 : mi M 154 5 = 40 ↔ q.1 = 40 := by rw [h.2.1.1, show (40 : Int32) = nI 40 from rfl]; exact nI_eq (by omega) (by decide)
  unfold pLine
  have nx : ∀ w, w < 4 → kDd (lexT n t p) = w → ¬ mi M 154 5 = 40 → K0 g YX12_readsLine YX12_nextToken d 89 [.ref 130] [(0, .ref 130), (1, .int (nI w))] [] M (RLr la lb pa pb0 rl n t B (if kDd (lexT n t p) < 4 then (if q.1 < 40 then (if kDd (lexT n t p) = 1 ∨ kDd (lexT n t p) = 2 then pHnd n t D (kDd (lexT n t p)) (n1 n t p) q else pBar n t (kDd (lexT n t p)) (n1 n t p) q) else lFl (fltC n t 5 p)) else lFl (fltC n t 1 p))) := fun w hw ew r => by
    rw [e40] at r
    rw [ew, if_pos hw, if_pos (by omega)]
    exact K0.ln h (by omega) (fun M2 h2 _ => ln_89 h2 N O (by omega) hw hd)
  have fu : ∀ w, w < 4 → kDd (lexT n t p) = w → mi M 154 5 = 40 → K0 g YX12_readsLine YX12_fails d 84 [.ref 130, .int 5] [] [] M (RLr la lb pa pb0 rl n t B (if kDd (lexT n t p) < 4 then (if q.1 < 40 then (if kDd (lexT n t p) = 1 ∨ kDd (lexT n t p) = 2 then pHnd n t D (kDd (lexT n t p)) (n1 n t p) q else pBar n t (kDd (lexT n t p)) (n1 n t p) q) else lFl (fltC n t 5 p)) else lFl (fltC n t 1 p))) := fun w hw ew r => by
    rw [e40] at r
    rw [ew, if_pos hw, if_neg (by omega)]
    exact K0.lf (k := 5) h (by omega) (fun M2 b => qX12_readsLine_84 (by decide) b)
  refine R0.of (by decide +kernel) (Nat.le_of_ble_eq_true rfl) rfl (qX12_readsLine_0 h.1.1 (K0.wdT (i := 6) h.1 (by omega) (by decide +kernel) (by omega) (qX12_readsLine_7 h.1.1 (fun a => ?_) (fun a => nx 0 (by omega) (by unfold kDd; rw [if_pos (b2i_n.mp a)])) (fun a => fu 0 (by omega) (by unfold kDd; rw [if_pos (b2i_n.mp a)])))))
  have n6' : ¬ kW (lexT n t p) 6 = true := by rw [b2i_z.mp a]; decide
  refine K0.wdT (i := 7) h.1 (by omega) (by decide +kernel) (by omega) (qX12_readsLine_21 h.1.1 (fun a => ?_) (fun a => nx 1 (by omega) (by unfold kDd; rw [if_neg n6', if_pos (b2i_n.mp a)])) (fun a => fu 1 (by omega) (by unfold kDd; rw [if_neg n6', if_pos (b2i_n.mp a)])))
  have n7' : ¬ kW (lexT n t p) 7 = true := by rw [b2i_z.mp a]; decide
  refine K0.wdT (i := 8) h.1 (by omega) (by decide +kernel) (by omega) (qX12_readsLine_35 h.1.1 (fun a => ?_) (fun a => nx 2 (by omega) (by unfold kDd; rw [if_neg n6', if_neg n7', if_pos (b2i_n.mp a)])) (fun a => fu 2 (by omega) (by unfold kDd; rw [if_neg n6', if_neg n7', if_pos (b2i_n.mp a)])))
  have n8' : ¬ kW (lexT n t p) 8 = true := by rw [b2i_z.mp a]; decide
  refine K0.wdT (i := 9) h.1 (by omega) (by decide +kernel) (by omega) (qX12_readsLine_49 h.1.1 (fun a => ?_) (fun a => nx 3 (by omega) (by unfold kDd; rw [if_neg n6', if_neg n7', if_neg n8', if_pos (b2i_n.mp a)])) (fun a => fu 3 (by omega) (by unfold kDd; rw [if_neg n6', if_neg n7', if_neg n8', if_pos (b2i_n.mp a)])))
  have n9' : ¬ kW (lexT n t p) 9 = true := by rw [b2i_z.mp a]; decide
  have ek : kDd (lexT n t p) = 4 := by unfold kDd; rw [if_neg n6', if_neg n7', if_neg n8', if_neg n9']
  rw [if_neg (by omega)]
  exact K0.lf (k := 1) h (by omega) (fun M2 b => qX12_readsLine_67 (by decide) b)
def RRdQ (la lb pa pb0 rl n : Nat) (t : Nat → Nat) (D : DTs) (M : MM) : Option Value → MM → Prop := fun rv M2 => rv = some (.int (rndT n t D).2.1) ∧ Lay M2 la lb pa pb0 rl ∧ mi M2 130 1 = 0 ∧ mi M2 130 0 = 0 ∧ Fr inRl M M2 ∧ (∀ x, x ≠ 0 → x ≠ 1 → x ≠ 3 → x ≠ 4 → x ≠ 5 → x ≠ 6 → x ≠ 8 → x ≠ 9 → x ≠ 33 → mi M2 130 x = mi M 130 x) ∧ (∀ o p', o < 5 → p'.1 ≤ 40 → RLn M o p' → (o ≠ 0 ∨ (rndT n t D).1 = 1) → RLn M2 o p') ∧ ((rndT n t D).1 = 0 → RLn M2 0 (rndT n t D).2.2.2)
theorem RTl.ln {o : Nat} {p' : PP} (h : RTl B M) (ho : o < 5) (h4 : p'.1 ≤ 40) (Q : RLn B o p') : RLn M o p' := by
  obtain ⟨-, a2, a3, -⟩ := h
  refine ⟨by rw [a2 o (by omega)]; exact Q.1, fun i hi => ?_⟩
  rw [a3 155 (by omega) (by omega) _ (by omega), a3 156 (by omega) (by omega) _ (by omega), a3 157 (by omega) (by omega) _ (by omega), a3 158 (by omega) (by omega) _ (by omega)]
  exact Q.2 i hi
theorem rnd_loopR (hd : 4 ≤ d) (N : RNm B 0 D) (O : DOk D) (r : PLs) (k1 : ∀ M2, r.1 = 1 → mi M2 130 9 = r.2.1 → RTl B M2 → Lay M2 la lb pa pb0 rl → P (some (.int r.2.1)) M2) (k0 : ∀ M2, r.1 = 0 → RLI la lb pa pb0 rl n t B M2 r.2.2.1 r.2.2.2 → K0 g YX12_round YX12_laysLines d 41 [.ref 130, .int 5, .int 0] [] [] M2 P) : ∀ f p q M, n - p < f → RLI la lb pa pb0 rl n t B M p q → POk D q → pPl n t D f p q = r → E0 g YX12_round d 16 [(0, .ref 130)] [] M P
  | 0, p, q, M, hf, _, _, _ => by omega
  | f + 1, p, q, M, hf, h, Oq, hr => by
    have e0 := h.1.2.2.1.ty lexT_ty 0 0 rfl (by omega)
    rw [pPl] at hr
    refine qX12_round_16 h.1.1 (fun z => ?_) (fun z => ?_) <;> rw [e0] at z
    · rw [if_pos z] at hr
      exact k0 M (by rw [← hr]; rfl) (by rw [← hr]; exact h)
    · rw [if_neg z] at hr
      have gd := pLine_gd (t := t) h.1.2.2.2 O Oq z
      refine K0.set (d1 := d - 1) (by omega) (tX12_readsLine h N O Oq.1 (by omega)) ?_
      rintro rv M2 (⟨q1, rfl, q2⟩ | ⟨q1, rfl, q2, q3, q4⟩)
      · rw [if_pos q1] at hr
        rcases gd with ⟨g1, -⟩ | ⟨-, -, g2, g3, g4⟩
        · omega
        · exact qX12_round_27 q2.1.1 (fun _ => rnd_loopR hd N O r k1 k0 f _ _ M2 (by omega) q2 g4 hr) (fun y => absurd y (by decide))
      · rw [if_neg (by omega)] at hr
        rw [hr] at q1 q2
        refine qX12_round_27 q4 (fun y => absurd rfl y) (fun _ => ?_)
        rw [q2]
        exact k1 M2 q1 q2 q3 q4
theorem rndT_gd (hn : n ≤ 1000) (O : DOk D) : ((rndT n t D).1 = 1 ∧ FaC n t (rndT n t D).2.1) ∨ ((rndT n t D).1 = 0 ∧ (rndT n t D).2.1 = 0 ∧ POk D (rndT n t D).2.2.2) := by
  rcases pPl_gd (n := n) (t := t) O (n + 1) 0 pEmp (Nat.zero_le _) pEmp_ok with h | ⟨h1, h2, h3, h4⟩
  · exact .inl h
  · exact .inr ⟨h1, h2, h4⟩
theorem tX12_round (L : Lay M la lb pa pb0 rl) (T : RTp M n t) (N : RNm M 0 D) (O : DOk D) (hd : 5 ≤ d) : R0 g YX12_round d [.ref 130] M (RRdQ la lb pa pb0 rl n t D M) := by
  have F2 : Fr (fun b => b = 130 ∨ b = 154) M (wi (wi M 130 0 0) 154 5 0) := (Fr.rf.wi (.inl rfl)).wi (.inr rfl)
  have e130 : ∀ x, x ≠ 0 → mi (wi (wi M 130 0 0) 154 5 0) 130 x = mi M 130 x := fun x hx => by rw [wi_at, if_neg (by omega), wi_at, if_neg (fun y => hx y.2)]
  have T2 : RTp (wi (wi M 130 0 0) 154 5 0) n t := ⟨T.1, by rw [e130 1 (by omega)]; exact T.2.1, fun k hk => by rw [F2.i (by omega)]; exact T.2.2 k hk⟩
  refine R0.of (by decide +kernel) (Nat.le_of_ble_eq_true rfl) rfl (qX12_round_0 (M1 := wi M 130 0 0) (M2 := wi (wi M 130 0 0) 154 5 0) L rfl rfl (K0.set (d1 := d - 1) (by omega) (tX12_begins (F2.lay L) T2 (by omega)) ?_))
  rintro rv M3 ⟨rfl, I3, F3, b1, b2, -⟩
  have G3 : Fr (fun b => b = 130 ∨ b = 154) M M3 := F2.trans (F3.mono (fun b hb => .inl hb))
  have N3 : RNm M3 0 D := by
    unfold RNm
    rw [G3.i (by omega), G3.j (by omega), G3.j (by omega)]
    exact N
  have z0 : mi M3 130 0 = 0 := by rw [b2 0 (by omega) (by omega) (by omega) (by omega) (by omega) (by omega), wi_at, if_neg (by omega), wi_at, if_pos ⟨rfl, rfl⟩]
  have ln3 : ∀ o p', o < 5 → RLn M o p' → RLn M3 o p' := fun o p' ho Q => by
    refine ⟨?_, fun i hi => ?_⟩
    · rw [F3.i (by omega), wi_at, if_neg (by omega), wi_at, if_neg (by omega)]; exact Q.1
    · rw [G3.i (by omega), G3.i (by omega), G3.i (by omega), G3.i (by omega)]; exact Q.2 i hi
  have R3 : RLn M3 5 pEmp := ⟨by rw [F3.i (by omega), wi_at, if_pos ⟨rfl, rfl⟩]; rfl, fun i hi => absurd hi (Nat.not_lt_zero _)⟩
  refine rnd_loopR (B := M3) (by omega) N3 O (rndT n t D) (fun M4 r1 r2 r3 L4 => ?_) (fun M4 r1 r2 => ?_) (n + 1) 0 pEmp M3 (by omega) ⟨I3, R3, RTl.rf⟩ pEmp_ok rfl
  · refine ⟨rfl, L4, ?_, ?_, (G3.mono (fun b hb => by omega)).trans r3.1, fun x x0 x1 x3 x4 x5 x6 x8 x9 x33 => ?_, fun o p' ho hp Q _ => r3.ln ho hp (ln3 o p' ho Q), fun z => by omega⟩
    · rw [r3.2.2.2 1 (by omega) (by omega) (by omega) (by omega) (by omega) (by omega)]; exact b1
    · rw [r3.2.2.2 0 (by omega) (by omega) (by omega) (by omega) (by omega) (by omega)]; exact z0
    · rw [r3.2.2.2 x x4 x5 x6 x8 x9 x33, b2 x x1 x3 x4 x5 x6 x8, e130 x x0]
  · have O2 : POk D (rndT n t D).2.2.2 := by
      rcases rndT_gd (t := t) T.1 O with ⟨y, -⟩ | ⟨-, -, y⟩
      · omega
      · exact y
    have e0 : (rndT n t D).2.1 = 0 := by
      rcases rndT_gd (t := t) T.1 O with ⟨y, -⟩ | ⟨-, y, -⟩
      · omega
      · exact y
    refine K0.set (d1 := d - 1) (by omega) (tX12_laysLines (o1 := 5) (o2 := 0) r2.1.1 (by omega) (by omega) (by omega)) ?_
    rintro rv M5 ⟨rfl, c1, c2, c3, c4⟩
    have r3 := r2.2.2
    refine qX12_round_41 ⟨by rw [e0], c4.lay r2.1.1, ?_, ?_, (G3.mono (fun b hb => by omega)).trans (r3.1.trans (c4.mono (fun b hb => ?_))), fun x x0 x1 x3 x4 x5 x6 x8 x9 x33 => ?_, fun o p' ho hp Q z => ?_, fun _ => RLn.over r2.2.1 O2.1 c1 c3⟩
    · rw [c4.i (by omega), r3.2.2.2 1 (by omega) (by omega) (by omega) (by omega) (by omega) (by omega)]; exact b1
    · rw [c4.i (by omega), r3.2.2.2 0 (by omega) (by omega) (by omega) (by omega) (by omega) (by omega)]; exact z0
    · exact .inr hb
    · rw [c4.i (by omega), r3.2.2.2 x x4 x5 x6 x8 x9 x33, b2 x x1 x3 x4 x5 x6 x8, e130 x x0]
    · exact RLn.other (r3.ln ho hp (ln3 o p' ho Q)) hp (by omega) c2 c3
end RL
