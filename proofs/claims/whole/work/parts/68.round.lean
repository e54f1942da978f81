/-! ===== rounds, read by the class ===== -/
abbrev PLs : Type := Nat × Int32 × Nat × PP
def pEmp : PP := (0, fun _ => 0, fun _ => 0, fun _ => 0, fun _ => 0)
def plAdd (q : PP) (w x y s : Nat) : PP := (q.1 + 1, (fun j => if j = q.1 then w else q.2.1 j), (fun j => if j = q.1 then x else q.2.2.1 j), (fun j => if j = q.1 then y else q.2.2.2.1 j), (fun j => if j = q.1 then s else q.2.2.2.2 j))
def lOk (p : Nat) (q : PP) : PLs := (0, 0, p, q)
def lFl (c : Int32) : PLs := (1, c, 0, pEmp)
def kDd (K : TK) : Nat := if kW K 6 = true then 0 else if kW K 7 = true then 1 else if kW K 8 = true then 2 else if kW K 9 = true then 3 else 4
section PLN
variable (n : Nat) (t : Nat → Nat)
def chkL (fk p : Nat) (k : PLs) : PLs := if fk = 0 then k else lFl (fltC n t fk p)
def pShL (D : DTs) (w x y p : Nat) (q : PP) : PLs := chkL n t (toF (lexT n t p) (sIx n t D p)) p (chkL n t (smF (lexT n t (n1 n t p))) (n1 n t p) (lOk (n2 n t p) (plAdd q w x y (sIx n t D p).toNatClampNeg)))
def pHnd (D : DTs) (w p : Nat) (q : PP) : PLs := chkL n t (toF (lexT n t p) (hIx n t D p)) p (if w = 2 then (if kNm (lexT n t (n1 n t p)) = true ∧ hIx n t D (n1 n t p) = hIx n t D p then lFl (fltC n t 3 (n1 n t p)) else chkL n t (toF (lexT n t (n1 n t p)) (hIx n t D (n1 n t p))) (n1 n t p) (pShL n t D w (hIx n t D p).toNatClampNeg (hIx n t D (n1 n t p)).toNatClampNeg (n2 n t p) q)) else pShL n t D w (hIx n t D p).toNatClampNeg 0 (n1 n t p) q)
def pBar (w p : Nat) (q : PP) : PLs := chkL n t (smF (lexT n t p)) p (lOk (n1 n t p) (plAdd q w 0 0 0))
def pLine (p : Nat) (D : DTs) (q : PP) : PLs := if kDd (lexT n t p) < 4 then (if q.1 < 40 then (if kDd (lexT n t p) = 1 ∨ kDd (lexT n t p) = 2 then pHnd n t D (kDd (lexT n t p)) (n1 n t p) q else pBar n t (kDd (lexT n t p)) (n1 n t p) q) else lFl (fltC n t 5 p)) else lFl (fltC n t 1 p)
def pPl (D : DTs) : Nat → Nat → PP → PLs
  | 0, p, q => lOk p q
  | f + 1, p, q => if kty (lexT n t p) = 0 then lOk p q else if (pLine n t p D q).1 = 0 then pPl D f (pLine n t p D q).2.2.1 (pLine n t p D q).2.2.2 else pLine n t p D q
end PLN
/-- a round's lines are such as can be -/
def POk (D : DTs) (q : PP) : Prop := q.1 ≤ 40 ∧ ∀ i, i < q.1 → q.2.1 i < 4 ∧ (q.2.1 i = 1 ∨ q.2.1 i = 2 → q.2.2.1 i < dh D ∧ q.2.2.2.2 i < dn D) ∧ (q.2.1 i = 2 → q.2.2.2.1 i < dh D)
def PlO (M : MM) (a : Nat) (D : DTs) (q : PP) : Prop := ∃ v, PlIs M a v ∧ v.1 = q.1 ∧ PlRel (dn D) (dh D) v.2.1 v.2.2.1 v.2.2.2.1 v.2.2.2.2 q
theorem PlO.fr {S : Nat → Prop} {M M1 : MM} {a : Nat} {D : DTs} {q : PP} (h : PlO M a D q) (F : Fr S M M1) (hS : ∀ k, k < 5 → ¬ S (a + k)) : PlO M1 a D q := by
  obtain ⟨v, h1, h2⟩ := h
  exact ⟨v, h1.fr F hS, h2⟩
section PLS
variable {n : Nat} {t : Nat → Nat} {p : Nat} {D : DTs} {q : PP}
theorem chkL_0 {fk : Nat} {k : PLs} (h : fk = 0) : chkL n t fk p k = k := if_pos h
theorem chkL_n {fk : Nat} {k : PLs} (h : fk ≠ 0) : chkL n t fk p k = lFl (fltC n t fk p) := if_neg h
theorem kDd_kkw (K : TK) : (kDd K = 4 ∧ (kkw K < 6 ∨ ¬ kkw K ≤ 9)) ∨ ∃ k, k < 4 ∧ kkw K = nI (6 + k) ∧ kDd K = k := by
  have no : ∀ i, i < 21 → ¬ kkw K = nI i → kW K i = false := fun i hi h => by
    cases q : kW K i
    · rfl
    · exact absurd ((kkw_eq hi).mpr q) h
  rcases kkw_of K with ⟨a1, a2⟩ | ⟨y, y1, y2, y3, -⟩
  · refine .inl ⟨?_, .inl ?_⟩
    · unfold kDd
      rw [a2 6 (by decide), a2 7 (by decide), a2 8 (by decide), a2 9 (by decide)]; rfl
    · rw [a1]; decide
  · by_cases h : 6 ≤ y ∧ y ≤ 9
    · refine .inr ⟨y - 6, by omega, by rw [y3, show 6 + (y - 6) = y by omega], ?_⟩
      have one : ∀ i, i < 21 → kW K i = decide (y = i) := fun i hi => by
        by_cases e : y = i
        · rw [← e, y2, decide_eq_true rfl]
        · rw [decide_eq_false e]; exact no i hi (fun z => e (by rw [y3] at z; exact (nI_eq (by omega) (by omega)).mp z))
      unfold kDd
      rw [one 6 (by decide), one 7 (by decide), one 8 (by decide), one 9 (by decide)]
      obtain ⟨h1, h2⟩ := h
      have : y = 6 ∨ y = 7 ∨ y = 8 ∨ y = 9 := by omega
      rcases this with rfl | rfl | rfl | rfl <;> rfl
    · refine .inl ⟨?_, ?_⟩
      · have f : ∀ i, 6 ≤ i → i ≤ 9 → kW K i = false := fun i i1 i2 => no i (by omega) (fun z => by
          rw [y3] at z
          have := (nI_eq (by omega) (by omega)).mp z
          omega)
        unfold kDd
        rw [f 6 (by decide) (by decide), f 7 (by decide) (by decide), f 8 (by decide) (by decide), f 9 (by decide) (by decide)]; rfl
      · rw [y3, show (6 : Int32) = nI 6 from rfl, show (9 : Int32) = nI 9 from rfl, nI_ltI (by omega) (by decide), nI_leI (by omega) (by decide)]
        omega
def LGd (n : Nat) (t : Nat → Nat) (r : PLs) (G : Nat → PP → Prop) : Prop := (r.1 = 1 ∧ FaC n t r.2.1) ∨ (r.1 = 0 ∧ r.2.1 = 0 ∧ G r.2.2.1 r.2.2.2)
theorem LGd.fl {k q : Nat} {G : Nat → PP → Prop} (h1 : 1 ≤ k) (h2 : k ≤ 5) (h3 : q ≤ n) : LGd n t (lFl (fltC n t k q)) G := .inl ⟨rfl, k, q, h1, h2, h3, rfl⟩
theorem LGd.chk {fk q : Nat} {r : PLs} {G : Nat → PP → Prop} (h5 : fk ≤ 5) (hq : q ≤ n) (h : fk = 0 → LGd n t r G) : LGd n t (chkL n t fk q r) G := by
  by_cases z : fk = 0
  · rw [chkL_0 z]; exact h z
  · rw [chkL_n z]; exact LGd.fl (by omega) h5 hq
theorem LGd.ok {m : Nat} {G : Nat → PP → Prop} (h : G m q) : LGd n t (lOk m q) G := .inr ⟨rfl, rfl, h⟩
abbrev NxL (n p : Nat) (D : DTs) : Nat → PP → Prop := fun m q => p < m ∧ m ≤ n ∧ POk D q
theorem plAdd_ok {w x y s : Nat} (O : POk D q) (h4 : q.1 < 40) (hw : w < 4) (h1 : w = 1 ∨ w = 2 → x < dh D ∧ s < dn D) (h2 : w = 2 → y < dh D) : POk D (plAdd q w x y s) := by
  refine ⟨h4, fun i hi => ?_⟩
  have hi : i < q.1 + 1 := hi
  show (if i = q.1 then w else q.2.1 i) < 4 ∧ ((if i = q.1 then w else q.2.1 i) = 1 ∨ (if i = q.1 then w else q.2.1 i) = 2 → (if i = q.1 then x else q.2.2.1 i) < dh D ∧ (if i = q.1 then s else q.2.2.2.2 i) < dn D) ∧ ((if i = q.1 then w else q.2.1 i) = 2 → (if i = q.1 then y else q.2.2.2.1 i) < dh D)
  by_cases e : i = q.1
  · simp only [if_pos e]; exact ⟨hw, h1, h2⟩
  · simp only [if_neg e]; exact O.2 i (by omega)
theorem clamp_lt {x : Int32} {m : Nat} (h : ∃ k, k < m ∧ x = nI k) (hm : m ≤ 100) : x.toNatClampNeg < m := by
  obtain ⟨k, k1, rfl⟩ := h
  rw [nI_clamp (by omega)]; exact k1
theorem pShL_gd {w x y p0 : Nat} (hp : p ≤ n) (h0 : p0 < p) (O : DOk D) (hq : POk D q) (h4 : q.1 < 40) (hw : w < 4) (h1 : x < dh D) (h2 : w = 2 → y < dh D) : LGd n t (pShL n t D w x y p q) (NxL n p0 D) := by
  have a1 := nxT_le (t := t) hp
  have a2 := nxT_le (t := t) a1.2.1
  have := O.1
  unfold pShL
  exact LGd.chk toF_5 hp (fun f1 => LGd.chk smF_5 a1.2.1 (fun f2 => LGd.ok ⟨by show p0 < nxT n t (nxT n t p); omega, a2.2.1, plAdd_ok hq h4 hw (fun _ => ⟨h1, clamp_lt (sIx_of O (toF_0 f1).2) (by omega)⟩) h2⟩))
theorem pHnd_gd {w p0 : Nat} (hp : p ≤ n) (h0 : p0 < p) (O : DOk D) (hq : POk D q) (h4 : q.1 < 40) (hw : w < 4) : LGd n t (pHnd n t D w p q) (NxL n p0 D) := by
  have a1 := nxT_le (t := t) hp
  have a2 := nxT_le (t := t) a1.2.1
  have := O.2.1
  unfold pHnd
  refine LGd.chk toF_5 hp (fun f1 => ?_)
  have g1 := clamp_lt (hIx_of O (toF_0 f1).2) (by omega)
  by_cases e : w = 2
  · rw [if_pos e]
    split
    · exact LGd.fl (by omega) (by omega) a1.2.1
    · exact LGd.chk toF_5 a1.2.1 (fun f2 => pShL_gd a2.2.1 (by show p0 < nxT n t (nxT n t p); omega) O hq h4 hw g1 (fun _ => clamp_lt (hIx_of O (toF_0 f2).2) (by omega)))
  · rw [if_neg e]
    exact pShL_gd a1.2.1 (by show p0 < nxT n t p; omega) O hq h4 hw g1 (fun z => absurd z e)
theorem pLine_gd (hp : p ≤ n) (O : DOk D) (hq : POk D q) (hk : kty (lexT n t p) ≠ 0) : LGd n t (pLine n t p D q) (NxL n p D) := by
  have a1 := nxT_le (t := t) hp
  have a2 := nxT_le (t := t) a1.2.1
  have hlt := a1.2.2.1 hk
  unfold pLine
  split
  · rename_i h4
    split
    · rename_i h40
      split
      · exact pHnd_gd a1.2.1 hlt O hq h40 h4
      · rename_i hn
        unfold pBar
        exact LGd.chk smF_5 a1.2.1 (fun f => LGd.ok ⟨by show p < nxT n t (nxT n t p); omega, a2.2.1, plAdd_ok hq h40 h4 (fun z => absurd z hn) (fun z => absurd (.inr z) hn)⟩)
    · exact LGd.fl (by omega) (by omega) hp
  · exact LGd.fl (by omega) (by omega) hp
theorem pPl_gd (O : DOk D) : ∀ f p q, p ≤ n → POk D q → LGd n t (pPl n t D f p q) (fun m q2 => m ≤ n ∧ POk D q2)
  | 0, p, q, hp, hq => LGd.ok ⟨hp, hq⟩
  | f + 1, p, q, hp, hq => by
    unfold pPl
    by_cases hk : kty (lexT n t p) = 0
    · rw [if_pos hk]; exact LGd.ok ⟨hp, hq⟩
    · rw [if_neg hk]
      rcases pLine_gd hp O hq hk with ⟨h1, h2⟩ | ⟨h1, h2, h3, h4, h5⟩
      · rw [if_neg (by omega)]; exact .inl ⟨h1, h2⟩
      · rw [if_pos h1]; exact pPl_gd O f _ _ h4 h5
theorem pEmp_ok : POk D pEmp := ⟨Nat.zero_le _, fun i hi => absurd hi (Nat.not_lt_zero _)⟩
def rndT (n : Nat) (t : Nat → Nat) (D : DTs) : PLs := pPl n t D (n + 1) 0 pEmp
end PLS
abbrev noQ : Nat → Prop := fun _ => False
section PLC
variable {g : GG} {d : Nat} {M M1 M2 : MM} {la lb pa pb0 rl n p a : Nat} {t : Nat → Nat} {D : DTs} {q : PP}
def LRes (la lb pa pb0 rl n : Nat) (t : Nat → Nat) (a : Nat) (M : MM) (D : DTs) (r : PLs) : Option Value → MM → Prop := fun rv M2 => (r.1 = 0 ∧ rv = some (.int 1) ∧ SWq (inP a) la lb pa pb0 rl n t M M2 r.2.2.1 D [] ∧ PlO M2 a D r.2.2.2) ∨ (r.1 = 1 ∧ rv = some (.int 0) ∧ mi M2 28 2 = r.2.1 ∧ Fr (inWq (inP a)) M M2 ∧ Lay M2 la lb pa pb0 rl)
theorem LRes.bad {c : Int32} (q1 : mi M2 28 2 = c) (q2 : Fr (inWq noQ) M M2) (q3 : Lay M2 la lb pa pb0 rl) : LRes la lb pa pb0 rl n t a M D (lFl c) (some (.int 0)) M2 := .inr ⟨rfl, rfl, q1, q2.mono (fun b hb => by rcases hb with z | z | z; exact .inl z; exact .inr (.inl z); exact z.elim), q3⟩
/-- a line more -/
theorem cPlAdd {w x y s : Nat} {fx fy fs : Int32} {Y : YY} {pc : Nat} (h : SWq noQ la lb pa pb0 rl n t M M1 p D []) (Pq : PlO M a D q) (ha : a = 29 ∨ a = 34) (h4 : q.1 < 40) (hw : w < 4) (h1 : w = 1 ∨ w = 2 → fx = nI x ∧ x < dh D ∧ fs = nI s ∧ s < dn D) (h2 : w = 2 → fy = nI y ∧ y < dh D) (hd : 1 ≤ d) (k : ∀ M2, LRes la lb pa pb0 rl n t a M D (lOk p (plAdd q w x y s)) (some (.int 1)) M2 → E0 g Y d pc [] [] M2 (LRes la lb pa pb0 rl n t a M D (lOk p (plAdd q w x y s)))) : K0 g Y YX5_add d pc [.ref a, .int (nI w), .int fx, .int fy, .int fs] [] [] M1 (LRes la lb pa pb0 rl n t a M D (lOk p (plAdd q w x y s))) := by
  have hrl := h.r
  obtain ⟨v, v1, v2, v3⟩ := Pq.fr h.2.2.2.1 (fun k hk z => by rcases z with z | z | z; omega; omega; exact z)
  have C : Pln M1 a := by rcases ha with rfl | rfl; exact h.L.pA; exact h.L.pB
  refine K0.set (d1 := d - 1) (by omega) (tX5_add C v1 (by omega)) ?_
  rintro rv M2 ⟨rfl, q1, F2⟩
  have nP : ∀ b, (b = 25 ∨ b = 26 ∨ b = 27 ∨ b = 28 ∨ b ≤ 24) → ¬ inP a b := fun b hb z => by rcases z with z | z | z | z | z <;> omega
  obtain ⟨⟨b1, b2, b3, b4, b5, b6⟩, c2, c3, c4, c5⟩ := h
  have F12 : Fr (inWq (inP a)) M M2 := (c4.mono (fun b hb => by rcases hb with z | z | z; exact .inl z; exact .inr (.inl z); exact z.elim)).trans (F2.mono (fun b hb => .inr (.inr hb)))
  refine k M2 (.inl ⟨rfl, rfl, ⟨⟨F2.lay b1, fun i hi => by rw [F2.j (nP 26 (by omega))]; exact b2 i hi, b3.fr F2 (nP 25 (by omega)) (nP 27 (by omega)), b4.fr F2 (nP 25 (by omega)), b5, by rw [F2.i (nP (rl + 7) (by omega))]; exact b6⟩, c2.fr F2 (fun k hk => nP _ (by omega)), trivial, F12, by rw [F2.i (nP 28 (by omega))]; exact c5⟩, ⟨_, q1, by show v.1 + 1 = q.1 + 1; rw [v2], fun i hi => ?_⟩⟩)
  have hi : i < q.1 + 1 := hi
  show (if i = v.1 then nI w else v.2.1 i) = nI (if i = q.1 then w else q.2.1 i) ∧ (if i = q.1 then w else q.2.1 i) < 4 ∧ ((if i = q.1 then w else q.2.1 i) = 1 ∨ (if i = q.1 then w else q.2.1 i) = 2 → (if i = v.1 then fx else v.2.2.1 i) = nI (if i = q.1 then x else q.2.2.1 i) ∧ (if i = q.1 then x else q.2.2.1 i) < dh D ∧ (if i = v.1 then fs else v.2.2.2.2 i) = nI (if i = q.1 then s else q.2.2.2.2 i) ∧ (if i = q.1 then s else q.2.2.2.2 i) < dn D) ∧ ((if i = q.1 then w else q.2.1 i) = 2 → (if i = v.1 then fy else v.2.2.2.1 i) = nI (if i = q.1 then y else q.2.2.2.1 i) ∧ (if i = q.1 then y else q.2.2.2.1 i) < dh D)
  rw [v2]
  by_cases e : i = q.1
  · simp only [if_pos e]; exact ⟨trivial, hw, h1, h2⟩
  · simp only [if_neg e]; exact v3 i (by omega)
theorem tX7_readBare {w : Nat} (h : SWq noQ la lb pa pb0 rl n t M M1 p D []) (Pq : PlO M a D q) (ha : a = 29 ∨ a = 34) (h4 : q.1 < 40) (hw : w < 4) (hn : ¬ (w = 1 ∨ w = 2)) (hd : 4 ≤ d) : R0 g YX7_readBare d [.ref 28, .ref a, .int (nI w)] M1 (LRes la lb pa pb0 rl n t a M D (pBar n t w p q)) := by
  unfold pBar
  refine R0.of (by decide +kernel) (Nat.le_of_ble_eq_true rfl) rfl (qX7_readBare_0 h.L (K0.tk (by omega) (tX7_takeSemicolon h (by omega)) (fun f1 M2 h2 => ?_) (fun f1 M2 q1 q2 q3 => ?_)))
  · rw [chkL_0 f1]
    have C : Pln M2 a := by rcases ha with rfl | rfl; exact h2.L.pA; exact h2.L.pB
    exact qX7_readBare_4 C (fun _ => cPlAdd h2 Pq ha h4 hw (fun z => absurd z hn) (fun z => absurd (.inr z) hn) (by omega) (fun M3 k => qX7_readBare_17 k)) (fun z => absurd z (by decide))
  · rw [chkL_n f1]
    have C : Pln M2 a := by rcases ha with rfl | rfl; exact q3.pA; exact q3.pB
    exact qX7_readBare_4 C (fun z => absurd rfl z) (fun _ => LRes.bad q1 q2 q3)
theorem toF_h {x : Int32} {K : TK} (h : kNm K = true → x = nmL (dhn D) (kws K) (dh D) 0) : toF K x = toF K (nmL (dhn D) (kws K) (dh D) 0) := by
  by_cases q : kNm K = true
  · rw [← h q]
  · unfold toF; rw [if_neg q, if_neg q]
theorem tX7_readHandling {w : Nat} (h : SWq noQ la lb pa pb0 rl n t M M1 p D []) (O : DOk D) (Pq : PlO M a D q) (ha : a = 29 ∨ a = 34) (h4 : q.1 < 40) (hw : w = 1 ∨ w = 2) (hd : 4 ≤ d) : R0 g YX7_readHandling d [.ref 28, .ref a, .int (nI w)] M1 (LRes la lb pa pb0 rl n t a M D (pHnd n t D w p q)) := by
  have h10 := O.1
  have h6 := O.2.1
  unfold pHnd
  have Cp : ∀ M2, Lay M2 la lb pa pb0 rl → Pln M2 a := fun M2 z => by rcases ha with rfl | rfl; exact z.pA; exact z.pB
  -- the shot and what follows
  have shot : ∀ (M2 : MM) (p2 x y : Nat) (fx fy : Int32), SWq noQ la lb pa pb0 rl n t M M2 p2 D [] → (w = 1 ∨ w = 2 → fx = nI x ∧ x < dh D) → (w = 2 → fy = nI y ∧ y < dh D) → K0 g YX7_readHandling YX0_shotNamed d 93 [.ref rl, .long (mj M2 25 6)] [(0, .ref 28), (1, .ref a), (2, .int (nI w)), (3, .int fx), (4, .int fy)] [] M2 (LRes la lb pa pb0 rl n t a M D (pShL n t D w x y p2 q)) := fun M2 p2 x y fx fy h2 hx hy => by
    unfold pShL
    refine K0.ans (d1 := d - 1) (by omega) (tX0_shotNamed h2.L.crl h2.2.1.1 O.1) ?_
    have e1 : toF (lexT n t p2) (sNm (mj M2 (rl + 1)) (mj M2 25 6) (dn D) 0) = toF (lexT n t p2) (sIx n t D p2) := by
      by_cases z : kNm (lexT n t p2) = true
      · rw [h2.shotNm O z]
      · unfold toF; rw [if_neg z, if_neg z]
    refine qX7_readHandling_93 h2.L (K0.tk (by omega) (tX7_takeTold h2 (by omega)) (fun f1 M3 h3 => ?_) (fun f1 M3 q1 q2 q3 => ?_))
    · rw [e1] at f1
      rw [chkL_0 f1]
      obtain ⟨m1, m2⟩ := toF_0 f1
      rw [h2.shotNm O m1]
      obtain ⟨s, s1, s2⟩ := sIx_of O m2
      rw [s2, nI_clamp (by omega)]
      refine qX7_readHandling_101 h3.L (fun z => absurd z (by decide)) (fun _ => K0.tk (by omega) (tX7_takeSemicolon h3 (by omega)) (fun f2 M4 h4' => ?_) (fun f2 M4 q1 q2 q3 => ?_))
      · rw [chkL_0 f2]
        exact qX7_readHandling_108 (Cp M4 h4'.L) (fun _ => cPlAdd h4' Pq ha h4 (by omega) (fun z => ⟨(hx z).1, (hx z).2, rfl, s1⟩) hy (by omega) (fun M5 k => qX7_readHandling_123 k)) (fun z => absurd z (by decide))
      · rw [chkL_n f2]
        exact qX7_readHandling_108 (Cp M4 q3) (fun z => absurd rfl z) (fun _ => LRes.bad q1 q2 q3)
    · rw [e1] at f1 q1
      rw [chkL_n f1]
      exact qX7_readHandling_101 q3 (fun _ => LRes.bad q1 q2 q3) (fun z => absurd rfl z)
  refine R0.of (by decide +kernel) (Nat.le_of_ble_eq_true rfl) rfl (qX7_readHandling_0 h.L (K0.ans (d1 := d - 1) (by omega) (tX0_hallNamed h.L.crl h.2.1.2.1 O.2.1) (qX7_readHandling_14 h.L (K0.tk (by omega) (tX7_takeTold h (by omega)) (fun f1 M2 h2 => ?_) (fun f1 M2 q1 q2 q3 => ?_)))))
  · rw [toF_h (fun z => h.hallNm O z)] at f1
    rw [chkL_0 f1]
    obtain ⟨m1, m2⟩ := toF_0 f1
    rw [h.hallNm O m1]
    obtain ⟨x, x1, x2⟩ := hIx_of (n := n) (t := t) (p := p) O m2
    rw [x2, nI_clamp (by omega)]
    have w2 : nI w = 2 ↔ w = 2 := by rw [show (2 : Int32) = nI 2 from rfl]; exact nI_eq (by omega) (by decide)
    refine qX7_readHandling_20 h2.L (fun _ z => ?_) (fun _ z => ?_) (fun z => absurd z (by decide)) <;> rw [w2] at z
    · rw [if_neg z]
      exact shot M2 _ x 0 _ _ h2 (fun _ => ⟨rfl, x1⟩) (fun y => absurd y z)
    · rw [if_pos z]
      refine K0.ans (d1 := d - 1) (by omega) (tX0_hallNamed h2.L.crl h2.2.1.2.1 O.2.1) (qX7_readHandling_47 h2.L (K0.ans (d1 := d - 1) (by omega) (tX7_isName h2.L h2.K lexT_ty) ?_))
      have told : (kNm (lexT n t (n1 n t p)) = true → ¬ hIx n t D (n1 n t p) = nI x) → K0 g YX7_readHandling YX7_takeTold d 74 [.ref 28, .int (sNm (mj M2 (rl + 5)) (mj M2 25 6) (dh D) 0)] [(0, .ref 28), (1, .ref a), (2, .int (nI w)), (3, .int (nI x)), (4, .int (sNm (mj M2 (rl + 5)) (mj M2 25 6) (dh D) 0))] [] M2 (LRes la lb pa pb0 rl n t a M D (if kNm (lexT n t (n1 n t p)) = true ∧ hIx n t D (n1 n t p) = nI x then lFl (fltC n t 3 (n1 n t p)) else chkL n t (toF (lexT n t (n1 n t p)) (hIx n t D (n1 n t p))) (n1 n t p) (pShL n t D w x (hIx n t D (n1 n t p)).toNatClampNeg (n2 n t p) q))) := fun hne => by
        rw [if_neg (fun y => hne y.1 y.2)]
        refine K0.tk (by omega) (tX7_takeTold h2 (by omega)) (fun f2 M3 h3 => ?_) (fun f2 M3 q1 q2 q3 => ?_)
        · rw [toF_h (fun z => h2.hallNm O z)] at f2
          rw [chkL_0 f2]
          obtain ⟨m3, m4⟩ := toF_0 f2
          rw [h2.hallNm O m3]
          obtain ⟨y, y1, y2⟩ := hIx_of (n := n) (t := t) (p := n1 n t p) O m4
          rw [y2, nI_clamp (by omega)]
          exact qX7_readHandling_74 h3.L (fun _ => shot M3 _ x y _ _ h3 (fun _ => ⟨rfl, x1⟩) (fun _ => ⟨rfl, y1⟩)) (fun z => absurd z (by decide))
        · rw [toF_h (fun z => h2.hallNm O z)] at f2 q1
          rw [chkL_n f2]
          exact qX7_readHandling_74 q3 (fun z => absurd rfl z) (fun _ => LRes.bad q1 q2 q3)
      refine qX7_readHandling_53 h2.L (fun y => ?_) (fun y1 y2 => ?_) (fun y1 y2 => ?_)
      · rw [b2i_z] at y
        exact told (fun z => by rw [y] at z; exact absurd z (by decide))
      · have y1 := b2i_n.mp y1
        refine told (fun _ z => y2 ?_)
        rw [h2.hallNm O y1]; exact z
      · have y1 := b2i_n.mp y1
        rw [h2.hallNm O y1] at y2
        rw [if_pos ⟨y1, y2⟩]
        exact K0.failS (k := 3) h2 (by omega) (fun M4 q1 q2 q3 => qX7_readHandling_67 (by decide) (LRes.bad q1 q2 q3))
  · rw [toF_h (fun z => h.hallNm O z)] at f1 q1
    rw [chkL_n f1]
    exact qX7_readHandling_20 q3 (fun z => absurd rfl z) (fun z => absurd rfl z) (fun _ => LRes.bad q1 q2 q3)
theorem tX7_readPlanLine (h : SWq noQ la lb pa pb0 rl n t M M p D []) (O : DOk D) (Pq : PlO M a D q) (ha : a = 29 ∨ a = 34) (hd : 5 ≤ d) : R0 g YX7_readPlanLine d [.ref 28, .ref a] M (LRes la lb pa pb0 rl n t a M D (pLine n t p D q)) := by
  have C : Pln M a := by rcases ha with rfl | rfl; exact h.L.pA; exact h.L.pB
  obtain ⟨v, v1, v2, v3⟩ := id Pq
  have e40 : mi M a 0 < 40 ↔ q.1 < 40 := by
    rw [v1.2.1, v2]
    exact ltl 40 rfl (by decide) (by have := v1.1; omega)
  unfold pLine
  have k7 : mi M 25 7 = kkw (lexT n t p) := h.kw
  rcases kDd_kkw (lexT n t p) with ⟨z1, z2⟩ | ⟨k, z1, z2, z3⟩
  · have fl : K0 g YX7_readPlanLine YX7_fail d 25 [.ref 28, .int 1] [] [] M (LRes la lb pa pb0 rl n t a M D (if kDd (lexT n t p) < 4 then (if q.1 < 40 then (if kDd (lexT n t p) = 1 ∨ kDd (lexT n t p) = 2 then pHnd n t D (kDd (lexT n t p)) (n1 n t p) q else pBar n t (kDd (lexT n t p)) (n1 n t p) q) else lFl (fltC n t 5 p)) else lFl (fltC n t 1 p))) := by
      rw [if_neg (by omega)]
      exact K0.failS (k := 1) h (by omega) (fun M4 q1 q2 q3 => qX7_readPlanLine_25 (by decide) (LRes.bad q1 q2 q3))
    have nb : ¬ (¬ mi M 25 7 < 6 ∧ mi M 25 7 ≤ 9) := fun y => by
      rw [k7] at y
      rcases z2 with z2 | z2
      · exact y.1 z2
      · exact z2 y.2
    exact R0.of (by decide +kernel) (Nat.le_of_ble_eq_true rfl) rfl (qX7_readPlanLine_0 h.L C (fun _ => fl) (fun y1 y2 => absurd ⟨y1, y2⟩ nb) (fun y1 y2 => absurd ⟨y1, y2⟩ nb) (fun _ _ => fl))
  · have c6 : ¬ mi M 25 7 < 6 := by rw [k7, z2, show (6 : Int32) = nI 6 from rfl, nI_ltI (by omega) (by decide)]; omega
    have c9 : mi M 25 7 ≤ 9 := by rw [k7, z2, show (9 : Int32) = nI 9 from rfl, nI_leI (by omega) (by decide)]; omega
    rw [z3, if_pos z1]
    refine R0.of (by decide +kernel) (Nat.le_of_ble_eq_true rfl) rfl (qX7_readPlanLine_0 h.L C (fun y => absurd y c6) (fun _ _ y => ?_) (fun _ _ y => ?_) (fun _ y => absurd c9 y)) <;> rw [e40] at y
    · rw [if_pos y, k7, z2]
      refine K0.advS h (by omega) (fun M2 h2 => ?_)
      have ek : (nI (6 + k) - 6) + 0 = nI k := by
        rcases (show k = 0 ∨ k = 1 ∨ k = 2 ∨ k = 3 by omega) with rfl | rfl | rfl | rfl <;> rfl
      have one : nI k = 1 ↔ k = 1 := by rw [show (1 : Int32) = nI 1 from rfl]; exact nI_eq (by omega) (by decide)
      have two : nI k = 2 ↔ k = 2 := by rw [show (2 : Int32) = nI 2 from rfl]; exact nI_eq (by omega) (by decide)
      have b01 : ∀ {r : PLs} {rv : Option Value} {M3 : MM}, LRes la lb pa pb0 rl n t a M D r rv M3 → ∃ s, rv = some (.int s) ∧ s &&& 1 = s := fun z => by
        rcases z with ⟨-, z, -⟩ | ⟨-, z, -⟩
        · exact ⟨1, z, by decide⟩
        · exact ⟨0, z, by decide⟩
      have hnd : k = 1 ∨ k = 2 → K0 g YX7_readPlanLine YX7_readHandling d 71 [.ref 28, .ref a, .int (nI k)] [] [] M2 (LRes la lb pa pb0 rl n t a M D (if k = 1 ∨ k = 2 then pHnd n t D k (n1 n t p) q else pBar n t k (n1 n t p) q)) := fun hk => by
        rw [if_pos hk]
        refine K0.set (d1 := d - 1) (by omega) (tX7_readHandling h2 O Pq ha y hk (by omega)) (fun rv M3 z => ?_)
        obtain ⟨s, rfl, s2⟩ := b01 z
        exact qX7_readPlanLine_71 (qX7_readPlanLine_80 s2 z)
      refine qX7_readPlanLine_48 h2.L (fun r => ?_) (fun r1 r2 => ?_) (fun r1 r2 => ?_) <;> rw [ek] at *
      · exact hnd (.inl (one.mp r))
      · rw [one] at r1
        rw [two] at r2
        rw [if_neg (by omega)]
        refine K0.set (d1 := d - 1) (by omega) (tX7_readBare h2 Pq ha y z1 (by omega) (by omega)) (fun rv M3 z => ?_)
        obtain ⟨s, rfl, s2⟩ := b01 z
        exact qX7_readPlanLine_80 s2 z
      · exact hnd (.inr (two.mp r2))
    · rw [if_neg y]
      exact K0.failS (k := 5) h (by omega) (fun M4 q1 q2 q3 => qX7_readPlanLine_40 (by decide) (LRes.bad q1 q2 q3))
def RdRes (la lb pa pb0 rl a : Nat) (M : MM) (D : DTs) (r : PLs) : Option Value → MM → Prop := fun rv M2 => rv = some (.int r.2.1) ∧ mi M2 25 2 = 0 ∧ (r.1 = 0 → PlO M2 a D r.2.2.2) ∧ Fr (inWq (inP a)) (wr M 28 1 (some rl)) M2 ∧ Lay M2 la lb pa pb0 rl
theorem rnd_loop {M0 B : MM} (r : PLs) (FB : Fr (inWq (inP a)) (wr M0 28 1 (some rl)) B) (O : DOk D) (ha : a = 29 ∨ a = 34) (hd : 6 ≤ d) : ∀ f p q i M1, n - p < f → i ≤ p → POk D q → PlO M1 a D q → SWq (inP a) la lb pa pb0 rl n t B M1 p D [] → mi M1 28 2 = 0 → pPl n t D f p q = r → E0 g YX7_readPlan d 14 [(0, .ref 28), (2, .ref a), (3, .int 1), (4, .int (nI i))] [] M1 (RdRes la lb pa pb0 rl a M0 D r)
  | 0, p, q, i, M1, h, _, _, _, _, _, _ => absurd h (by omega)
  | f + 1, p, q, i, M1, hf, hi, hq, Pq, S, h2, hr => by
    have hrl := S.r
    have hn := S.T.1
    have ple := S.ple
    have ty : mi M1 25 5 = 0 ↔ kty (lexT n t p) = 0 := by
      rw [S.K.2.2.1, show (0 : Int32) = nI 0 from rfl]
      exact nI_eq (by have := lexT_ty (n := n) (t := t) (p := p); omega) (by decide)
    have fin : kty (lexT n t p) = 0 → RdRes la lb pa pb0 rl a M0 D r (some (.int (mi (wi M1 25 2 0) 28 2))) (wi M1 25 2 0) := fun z => by
      have e : r = lOk p q := by rw [← hr]; unfold pPl; rw [if_pos z]
      have F : Fr in25 M1 (wi M1 25 2 0) := Fr.rf.wi rfl
      refine ⟨?_, by rw [wi_at, if_pos ⟨rfl, rfl⟩], fun _ => ?_, FB.trans (S.2.2.2.1.trans (F.mono (fun b hb => .inl hb))), F.lay S.L⟩
      · rw [wi_at, if_neg (by omega), h2, e]; rfl
      · rw [e]; exact Pq.fr F (fun k hk => by omega)
    have S1 : SWq noQ la lb pa pb0 rl n t M1 M1 p D [] := ⟨S.1, S.2.1, S.2.2.1, Fr.rf, rfl⟩
    have i31 : i < 2 ^ 31 := by omega
    have lt : ¬ (1000 : Int32) ≤ nI i → i < 1000 := fun z => by rw [show (1000 : Int32) = nI 1000 from rfl, nI_leI (by decide) i31] at z; omega
    refine qX7_readPlan_14 S.L rfl rfl rfl (fun z => ?_) (fun _ z => absurd z (by decide)) (fun _ _ z => fin (ty.mp z)) (fun z1 _ z2 => ?_)
    · exact fin (far (CInv.start S.1) hi z)
    · rw [ty] at z2
      refine K0.set (d1 := d - 1) (by omega) (tX7_readPlanLine S1 O Pq ha (by omega)) (fun rv M2 w => ?_)
      rcases pLine_gd (t := t) ple O hq z2 with ⟨g1, g2⟩ | ⟨g1, g2, g3, g4, g5⟩
      · rcases w with ⟨q1, -⟩ | ⟨q1, rfl, q3, q4, q5⟩
        · omega
        · have e : r = pLine n t p D q := by rw [← hr]; unfold pPl; rw [if_neg z2, if_neg (by omega)]
          have F : Fr in25 M2 (wi M2 25 2 0) := Fr.rf.wi rfl
          have bad : RdRes la lb pa pb0 rl a M0 D r (some (.int (mi (wi M2 25 2 0) 28 2))) (wi M2 25 2 0) := by
            refine ⟨?_, by rw [wi_at, if_pos ⟨rfl, rfl⟩], fun z => ?_, FB.trans ((S.2.2.2.1.trans q4).trans (F.mono (fun b hb => .inl hb))), F.lay q5⟩
            · rw [wi_at, if_neg (by omega), q3, e]
            · rw [e] at z; omega
          exact qX7_readPlan_41 (qX7_readPlan_14 q5 rfl rfl rfl (fun _ => bad) (fun _ _ => bad) (fun _ z => absurd rfl z) (fun _ z => absurd rfl z))
      · rcases w with ⟨q1, rfl, q3, q4⟩ | ⟨q1, -⟩
        · refine qX7_readPlan_41 ?_
          rw [nI_1]
          refine rnd_loop r FB O ha hd f _ _ (i + 1) M2 (by omega) (by omega) g5 q4 ⟨q3.1, q3.2.1, q3.2.2.1, S.2.2.2.1.trans q3.2.2.2.1, ?_⟩ ?_ ?_
          · rw [q3.2.2.2.2]; exact S.2.2.2.2
          · rw [q3.2.2.2.2]; exact h2
          · rw [← hr]
            show _ = pPl n t D (f + 1) p q
            rw [pPl, if_neg z2, if_pos g1]
        · omega
theorem DrIs.wrr {x y : Nat} {v : Option Nat} (H : DrIs M a D) : DrIs (wr M x y v) a D := ⟨H.1, H.2.1, H.2.2.1, fun k hk => ⟨(H.2.2.2 k hk).1, (H.2.2.2 k hk).2.1, (H.2.2.2 k hk).2.2.1, SegIs.to (M := M) (M1 := wr M x y v) rfl (H.2.2.2 k hk).2.2.2⟩⟩
theorem tX7_readPlan (L : Lay M la lb pa pb0 rl) (W : WdOk M) (T : TapeIs M n t) (H : DrIs M la D) (O : DOk D) (hm : mi M (la + 7) 1 = nI (eD D)) (ha : a = 29 ∨ a = 34) (hd : 6 ≤ d) : R0 g YX7_readPlan d [.ref 28, .ref la, .ref a] M (RdRes la lb pa pb0 la a M D (rndT n t D)) := by
  have hla : la = 1 ∨ la = 13 := by have := L.2.2.2.1; omega
  refine R0.of (by decide +kernel) (Nat.le_of_ble_eq_true rfl) rfl (qX7_readPlan_0 L (K0.set (d1 := d - 1) (by omega) (tX7_begin L W T hla (by omega)) ?_))
  rintro rv M1 ⟨rfl, k1, k2, k3, F1⟩
  have L1 : Lay M1 la lb pa pb0 la := F1.lay (L.rd hla)
  have C1 : Pln M1 a := by rcases ha with rfl | rfl; exact L1.pA; exact L1.pB
  refine qX7_readPlan_5 C1 (K0.set (d1 := d - 1) (by omega) (tX5_clear (v := (0, fun _ => 0, fun _ => 0, fun _ => 0, fun _ => 0)) C1) ?_)
  rintro rv M2 ⟨rfl, Q2, F2⟩
  have nP : ∀ b, b ≤ 28 → ¬ inP a b := fun b hb z => by rcases z with z | z | z | z | z <;> omega
  have T1 : TapeIs M1 n t := ⟨T.1, k2, fun k hk => by rw [F1.i (by omega)]; exact T.2.2 k hk⟩
  have H0 : DrIs (wr M 28 1 (some la)) la D := H.wrr
  refine qX7_readPlan_9 (rnd_loop (rndT n t D) ((F1.mono (fun b hb => by omega)).trans (F2.mono (fun b hb => .inr (.inr hb)))) O ha hd (n + 1) 0 pEmp 0 _ (by omega) (Nat.le_refl _) pEmp_ok ⟨_, Q2, rfl, fun i hi => absurd hi (Nat.not_lt_zero _)⟩ ⟨⟨F2.lay L1, ?_, T1.fr F2 (nP _ (by omega)) (nP _ (by omega)), k1.fr F2 (nP _ (by omega)), Nat.zero_le _, ?_⟩, (H0.fr F1 (fun k hk => by omega)).fr F2 (fun k hk => nP _ (by omega)), trivial, Fr.rf, rfl⟩ ?_ rfl)
  · intro i hi
    rw [F2.j (nP _ (by omega)), F1.j (by omega)]
    exact W i hi
  · rw [F2.i (nP _ (by omega)), F1.i (by omega)]; exact hm
  · rw [F2.i (nP _ (by omega))]; exact k3
end PLC
