/-! ===== counties and rounds, read ===== -/
/-- what is told: shots, halls, names of shots and of halls, sorts, lengths, needs, kinds, laws -/
abbrev DTs : Type := Nat × Nat × (Nat → List Nat) × (Nat → List Nat) × (Nat → Nat) × (Nat → Nat) × (Nat → Int32) × (Nat → Nat) × (Nat → PRs)
abbrev dn (D : DTs) : Nat := D.1
abbrev dh (D : DTs) : Nat := D.2.1
abbrev dsn (D : DTs) : Nat → List Nat := D.2.2.1
abbrev dhn (D : DTs) : Nat → List Nat := D.2.2.2.1
abbrev dso (D : DTs) : Nat → Nat := D.2.2.2.2.1
abbrev dle (D : DTs) : Nat → Nat := D.2.2.2.2.2.1
abbrev dnd (D : DTs) : Nat → Int32 := D.2.2.2.2.2.2.1
abbrev dki (D : DTs) : Nat → Nat := D.2.2.2.2.2.2.2.1
abbrev dlw (D : DTs) : Nat → PRs := D.2.2.2.2.2.2.2.2
def eNl (lw : Nat → PRs) : Nat → Nat
  | 0 => 0
  | k + 1 => eNl lw k + (rcc (lw k)).length
abbrev eD (D : DTs) : Nat := eNl (dlw D) (dh D)
def DrIs (M : MM) (a : Nat) (D : DTs) : Prop := mi M a 0 = nI (dn D) ∧ mi M a 5 = nI (dh D) ∧ (∀ k, k < dn D → mj M (a + 1) k = lJ (hRx 32 (dsn D k)) ∧ mi M (a + 2) k = nI (dso D k) ∧ mi M (a + 3) k = nI (dle D k) ∧ mi M (a + 4) k = dnd D k) ∧ (∀ k, k < dh D → mj M (a + 5) k = lJ (hRx 32 (dhn D k)) ∧ mi M (a + 6) k = nI (dki D k) ∧ mi M (a + 7 + 2) k = nI (eNl (dlw D) (k + 1)) ∧ SegIs M (a + 7) (eNl (dlw D) k) (rcc (dlw D k)))
def LwOk (r : PRs) : Prop := ∃ n t f p, r = pEx n t f 4 0 p prOut ∧ rst r = 0
def DOk (D : DTs) : Prop := dn D ≤ 10 ∧ dh D ≤ 6 ∧ (∀ k, k < dn D → WOk (dsn D k) ∧ dso D k ≤ 9 ∧ 1 ≤ dle D k ∧ dle D k ≤ 60 ∧ ∀ i, i < 32 → bt (dnd D k) i = true → i < dn D) ∧ (∀ k, k < dh D → WOk (dhn D k) ∧ dki D k ≤ 3 ∧ LwOk (dlw D k))
def dAddS (D : DTs) (w : List Nat) (s l : Nat) : DTs := (dn D + 1, dh D, (fun k => if k = dn D then w else dsn D k), dhn D, (fun k => if k = dn D then s else dso D k), (fun k => if k = dn D then l else dle D k), (fun k => if k = dn D then 0 else dnd D k), dki D, dlw D)
def dAddN (D : DTs) (a b : Nat) : DTs := (dn D, dh D, dsn D, dhn D, dso D, dle D, (fun k => if k = a then dnd D k ||| ((1 : Int32) <<< (nI b &&& 31)) else dnd D k), dki D, dlw D)
def dAddH (D : DTs) (w : List Nat) (kd : Nat) (r : PRs) : DTs := (dn D, dh D + 1, dsn D, (fun k => if k = dh D then w else dhn D k), dso D, dle D, dnd D, (fun k => if k = dh D then kd else dki D k), (fun k => if k = dh D then r else dlw D k))
def dEmp : DTs := (0, 0, fun _ => [], fun _ => [], fun _ => 0, fun _ => 0, fun _ => 0, fun _ => 0, fun _ => prOut)
def nmL (nm : Nat → List Nat) (x : List Nat) : Nat → Nat → Int32
  | 0, _ => -1
  | j + 1, i => if nm i = x then nI i else nmL nm x j (i + 1)
def noKw (K : TK) : Nat → Bool
  | 0 => true
  | k + 1 => !kW K k && noKw K k
theorem noKw_all {K : TK} : ∀ {n}, noKw K n = true ↔ ∀ i, i < n → kW K i = false
  | 0 => ⟨fun _ i hi => absurd hi (by omega), fun _ => rfl⟩
  | n + 1 => by
    rw [noKw, Bool.and_eq_true, noKw_all (n := n), Bool.not_eq_true']
    constructor
    · rintro ⟨h1, h2⟩ i hi
      by_cases e : i = n
      · rw [e]; exact h1
      · exact h2 i (by omega)
    · intro h
      exact ⟨h n (by omega), fun i hi => h i (by omega)⟩
/-- a name: a word, but none of the first seventeen of the language -/
def kNm (K : TK) : Bool := decide (kty K = 1) && noKw K 17
def newF (D : DTs) (K : TK) : Nat := if kNm K = true then (if nmL (dsn D) (kws K) (dn D) 0 = -1 ∧ nmL (dhn D) (kws K) (dh D) 0 = -1 then 0 else 3) else 1
def kwF (K : TK) (i : Nat) : Nat := if kW K i = true then 0 else 1
def nuF (K : TK) (lo hi : Nat) : Nat := if kty K = 2 then (if lo ≤ knu K ∧ knu K ≤ hi then 0 else 4) else 1
def smF (K : TK) : Nat := if kIs K 59 = true then 0 else 1
def toF (K : TK) (ix : Int32) : Nat := if kNm K = true then (if ix = -1 then 2 else 0) else 1
abbrev SRs : Type := Nat × Int32 × Nat × DTs
def sOkS (p : Nat) (D : DTs) : SRs := (0, 0, p, D)
def sFlS (c : Int32) : SRs := (1, c, 0, dEmp)
def chkS (n : Nat) (t : Nat → Nat) (fk p : Nat) (k : SRs) : SRs := if fk = 0 then k else sFlS (fltC n t fk p)
section PST
variable (n : Nat) (t : Nat → Nat)
abbrev n1 (p : Nat) : Nat := nxT n t p
abbrev n2 (p : Nat) : Nat := nxT n t (nxT n t p)
abbrev n3 (p : Nat) : Nat := nxT n t (n2 n t p)
abbrev n4 (p : Nat) : Nat := nxT n t (n3 n t p)
abbrev n5 (p : Nat) : Nat := nxT n t (n4 n t p)
abbrev n6 (p : Nat) : Nat := nxT n t (n5 n t p)
abbrev n7 (p : Nat) : Nat := nxT n t (n6 n t p)
def pShot (p : Nat) (D : DTs) : SRs :=
  if dn D < 10 then
    chkS n t (newF D (lexT n t (n1 n t p))) (n1 n t p) (chkS n t (kwF (lexT n t (n2 n t p)) 1) (n2 n t p) (chkS n t (nuF (lexT n t (n3 n t p)) 0 9) (n3 n t p) (chkS n t (kwF (lexT n t (n4 n t p)) 2) (n4 n t p) (chkS n t (nuF (lexT n t (n5 n t p)) 1 60) (n5 n t p) (chkS n t (smF (lexT n t (n6 n t p))) (n6 n t p) (sOkS (n7 n t p) (dAddS D (kws (lexT n t (n1 n t p))) (knu (lexT n t (n3 n t p))) (knu (lexT n t (n5 n t p))))))))))
  else sFlS (fltC n t 5 p)
abbrev sIx (D : DTs) (p : Nat) : Int32 := nmL (dsn D) (kws (lexT n t p)) (dn D) 0
abbrev hIx (D : DTs) (p : Nat) : Int32 := nmL (dhn D) (kws (lexT n t p)) (dh D) 0
def pNeeds (p : Nat) (D : DTs) : SRs :=
  chkS n t (toF (lexT n t (n1 n t p)) (sIx n t D (n1 n t p))) (n1 n t p) (chkS n t (toF (lexT n t (n2 n t p)) (sIx n t D (n2 n t p))) (n2 n t p)
    (if sIx n t D (n2 n t p) = sIx n t D (n1 n t p) ∨ bt (dnd D (sIx n t D (n1 n t p)).toNatClampNeg) (sIx n t D (n2 n t p)).toNatClampNeg = true then sFlS (fltC n t 3 (n2 n t p))
    else chkS n t (smF (lexT n t (n3 n t p))) (n3 n t p) (sOkS (n4 n t p) (dAddN D (sIx n t D (n1 n t p)).toNatClampNeg (sIx n t D (n2 n t p)).toNatClampNeg))))
def kKd (K : TK) : Nat := if kW K 10 = true then 0 else if kW K 11 = true then 1 else if kW K 12 = true then 2 else if kW K 13 = true then 3 else 4
def fuX : Nat := 8 * n + 16
def pHall (p : Nat) (D : DTs) : SRs :=
  if dh D < 6 then
    chkS n t (newF D (lexT n t (n1 n t p))) (n1 n t p) (if kKd (lexT n t (n2 n t p)) < 4 then
      chkS n t (kwF (lexT n t (n3 n t p)) 5) (n3 n t p) (if rst (pEx n t (fuX n) 4 0 (n4 n t p) prOut) = 0 then
        chkS n t (smF (lexT n t (rpo (pEx n t (fuX n) 4 0 (n4 n t p) prOut)))) (rpo (pEx n t (fuX n) 4 0 (n4 n t p) prOut)) (sOkS (nxT n t (rpo (pEx n t (fuX n) 4 0 (n4 n t p) prOut))) (dAddH D (kws (lexT n t (n1 n t p))) (kKd (lexT n t (n2 n t p))) (pEx n t (fuX n) 4 0 (n4 n t p) prOut)))
      else sFlS (rfa (pEx n t (fuX n) 4 0 (n4 n t p) prOut)))
    else sFlS (fltC n t 1 (n2 n t p)))
  else sFlS (fltC n t 5 p)
def pStm (p : Nat) (D : DTs) : SRs := if kW (lexT n t p) 0 = true then pShot n t p D else if kW (lexT n t p) 3 = true then pNeeds n t p D else if kW (lexT n t p) 4 = true then pHall n t p D else sFlS (fltC n t 1 p)
def pCo : Nat → Nat → DTs → SRs
  | 0, p, D => sOkS p D
  | f + 1, p, D => if kty (lexT n t p) = 0 then sOkS p D else if (pStm n t p D).1 = 0 then pCo f (pStm n t p D).2.2.1 (pStm n t p D).2.2.2 else pStm n t p D
end PST
abbrev inWq (Q : Nat → Prop) : Nat → Prop := fun b => b = 25 ∨ b = 28 ∨ Q b
abbrev inW (rl : Nat) : Nat → Prop := inWq (fun b => rl ≤ b ∧ b ≤ rl + 9)
def SWq (Q : Nat → Prop) (la lb pa pb0 rl n : Nat) (t : Nat → Nat) (M M1 : MM) (p : Nat) (D : DTs) (x : List Int32) : Prop := RdOk M1 la lb pa pb0 rl n t p (eD D + x.length) ∧ DrIs M1 rl D ∧ SegIs M1 (rl + 7) (eD D) x ∧ Fr (inWq Q) M M1 ∧ mi M1 28 2 = mi M 28 2
abbrev SW (la lb pa pb0 rl n : Nat) (t : Nat → Nat) (M M1 : MM) (p : Nat) (D : DTs) (x : List Int32) : Prop := SWq (fun b => rl ≤ b ∧ b ≤ rl + 9) la lb pa pb0 rl n t M M1 p D x
def TRq (Q : Nat → Prop) (la lb pa pb0 rl n : Nat) (t : Nat → Nat) (M : MM) (p : Nat) (D : DTs) (x : List Int32) (fk : Nat) : Option Value → MM → Prop := fun rv M2 => (fk = 0 ∧ rv = some (.int 1) ∧ SWq Q la lb pa pb0 rl n t M M2 (nxT n t p) D x) ∨ (fk ≠ 0 ∧ rv = some (.int 0) ∧ mi M2 28 2 = fltC n t fk p ∧ Fr (inWq Q) M M2 ∧ Lay M2 la lb pa pb0 rl)
def SRes (la lb pa pb0 rl n : Nat) (t : Nat → Nat) (M : MM) (r : SRs) : Option Value → MM → Prop := fun rv M2 => (r.1 = 0 ∧ rv = some (.int 1) ∧ SW la lb pa pb0 rl n t M M2 r.2.2.1 r.2.2.2 []) ∨ (r.1 = 1 ∧ rv = some (.int 0) ∧ mi M2 28 2 = r.2.1 ∧ Fr (inW rl) M M2 ∧ Lay M2 la lb pa pb0 rl)
theorem DrIs.fr {S : Nat → Prop} {M M1 : MM} {a : Nat} {D : DTs} (h : DrIs M a D) (F : Fr S M M1) (hS : ∀ k, k < 10 → ¬ S (a + k)) : DrIs M1 a D := by
  obtain ⟨h1, h2, h3, h4⟩ := h
  refine ⟨by rw [show mi M1 a = mi M a from F.i (hS 0 (by omega))]; exact h1, by rw [show mi M1 a = mi M a from F.i (hS 0 (by omega))]; exact h2, fun k hk => ?_, fun k hk => ?_⟩
  · rw [F.j (hS 1 (by omega)), F.i (hS 2 (by omega)), F.i (hS 3 (by omega)), F.i (hS 4 (by omega))]; exact h3 k hk
  · obtain ⟨q1, q2, q3, q4⟩ := h4 k hk
    rw [F.j (hS 5 (by omega)), F.i (hS 6 (by omega)), show mi M1 (a + 7 + 2) = mi M (a + 7 + 2) from F.i (hS 9 (by omega))]
    exact ⟨q1, q2, q3, q4.to (F.i (hS 8 (by omega)))⟩
section STM
variable {g : GG} {d : Nat} {M M1 M2 : MM} {la lb pa pb0 rl n p : Nat} {t : Nat → Nat} {D : DTs} {x : List Int32} {Q : Nat → Prop}
theorem SWq.L (h : SWq Q la lb pa pb0 rl n t M M1 p D x) : Lay M1 la lb pa pb0 rl := h.1.L
theorem SWq.T (h : SWq Q la lb pa pb0 rl n t M M1 p D x) : TapeIs M1 n t := h.1.2.2.1
theorem SWq.K (h : SWq Q la lb pa pb0 rl n t M M1 p D x) : TkC M1 (lexT n t p) := h.1.2.2.2.1
theorem SWq.r (h : SWq Q la lb pa pb0 rl n t M M1 p D x) : rl = 1 ∨ rl = 13 := h.1.rlr
theorem SWq.ple (h : SWq Q la lb pa pb0 rl n t M M1 p D x) : p ≤ n := h.1.2.2.2.2.1
theorem SWq.kw (h : SWq Q la lb pa pb0 rl n t M M1 p D x) : mi M1 25 7 = kkw (lexT n t p) := h.K.2.2.2.1
variable {Y : YY} {pc : Nat} {lv : List (Nat × Value)} {st : List Value} {P : Option Value → MM → Prop}
theorem K0.advS (h : SWq Q la lb pa pb0 rl n t M M1 p D x) (hd : 3 ≤ d) (k : ∀ M2, SWq Q la lb pa pb0 rl n t M M2 (nxT n t p) D x → E0 g Y d pc lv st M2 P) : K0 g Y YX9_advance d pc [.ref 25] lv st M1 P := by
  have hrl := h.r
  obtain ⟨a1, a2, a3, a4, a5⟩ := h
  refine K0.set (d1 := d - 1) (by omega) (cAdv a1 (by omega)) ?_
  rintro rv M2 ⟨rfl, r2, F2⟩
  exact k M2 ⟨r2, a2.fr F2 (fun k hk => by omega), a3.to (F2.i (by omega)), a4.trans (F2.mono (fun b hb => .inl hb)), by rw [F2.i (by omega)]; exact a5⟩
theorem K0.failS {k : Nat} (h : SWq Q la lb pa pb0 rl n t M M1 p D x) (hd : 1 ≤ d) (kk : ∀ M2, mi M2 28 2 = fltC n t k p → Fr (inWq Q) M M2 → Lay M2 la lb pa pb0 rl → E0 g Y d pc lv (.int 0 :: st) M2 P) : K0 g Y YX7_fail d pc [.ref 28, .int (nI k)] lv st M1 P := by
  refine K0.set (d1 := d - 1) (by omega) (tX7_fail h.L h.K) ?_
  rintro rv M2 ⟨rfl, q2, F2⟩
  exact kk M2 q2 (h.2.2.2.1.trans (F2.mono (fun b hb => .inr (.inl hb)))) (F2.lay h.L)
theorem K0.tk {Z : YY} {av : List Value} {fk : Nat} (hd : 1 ≤ d) (hc : R0 g Z (d - 1) av M1 (TRq Q la lb pa pb0 rl n t M p D x fk)) (k0 : fk = 0 → ∀ M2, SWq Q la lb pa pb0 rl n t M M2 (nxT n t p) D x → E0 g Y d pc lv (.int 1 :: st) M2 P) (k1 : fk ≠ 0 → ∀ M2, mi M2 28 2 = fltC n t fk p → Fr (inWq Q) M M2 → Lay M2 la lb pa pb0 rl → E0 g Y d pc lv (.int 0 :: st) M2 P) : K0 g Y Z d pc av lv st M1 P := by
  refine K0.set (d1 := d - 1) (by omega) hc ?_
  rintro rv M2 (⟨q1, rfl, q2⟩ | ⟨q1, rfl, q2, q3, q4⟩)
  · exact k0 q1 M2 q2
  · exact k1 q1 M2 q2 q3 q4
theorem kNm_kkw {K : TK} : kNm K = true ↔ kty K = 1 ∧ (kkw K = -1 ∨ ¬ kkw K < 17) := by
  unfold kNm
  rw [Bool.and_eq_true, decide_eq_true_eq, noKw_all]
  refine and_congr_right fun h1 => ?_
  rcases kkw_of K with ⟨a1, a2⟩ | ⟨y, y1, y2, y3, -⟩
  · exact ⟨fun _ => .inl a1, fun _ i hi => a2 i (by omega)⟩
  · rw [y3, show (17 : Int32) = nI 17 from rfl, nI_ltI (by omega) (by decide)]
    constructor
    · intro q
      right
      intro z
      rw [q y z] at y2
      exact absurd y2 (by decide)
    · rintro (q | q)
      · exact absurd q (nI_m1 (by omega))
      · intro i i1
        cases i2 : kW K i
        · rfl
        · have := kW_one (by omega) y1 i2 y2
          omega
theorem tX7_isName (L : Lay M1 la lb pa pb0 rl) {K : TK} (H : TkC M1 K) (h4 : kty K ≤ 4) : R0 g YX7_isName d [.ref 28] M1 (Ans (b2i (kNm K)) M1) := by
  have e1 : mi M1 25 5 = 1 ↔ kty K = 1 := by rw [H.2.2.1, show (1 : Int32) = nI 1 from rfl]; exact nI_eq (by omega) (by decide)
  have e7 : mi M1 25 7 = kkw K := H.2.2.2.1
  have no : ¬ (kty K = 1 ∧ (kkw K = -1 ∨ ¬ kkw K < 17)) → kNm K = false := fun q => by
    cases z : kNm K
    · rfl
    · exact absurd (kNm_kkw.mp z) q
  refine R0.of (by decide +kernel) (Nat.le_of_ble_eq_true rfl) rfl (qX7_isName_0 L (fun r => ?_) (fun r1 r2 => ?_) (fun r1 r2 r3 => ?_) (fun r1 r2 r3 => ?_)) <;> rw [e7] at * <;> rw [e1] at *
  · rw [no (fun z => r z.1)]; exact ⟨rfl, rfl⟩
  · rw [kNm_kkw.mpr ⟨r1, .inl r2⟩]; exact ⟨rfl, rfl⟩
  · rw [no (fun z => by rcases z.2 with z | z; exact r2 z; exact z r3)]; exact ⟨rfl, rfl⟩
  · rw [kNm_kkw.mpr ⟨r1, .inr r3⟩]; exact ⟨rfl, rfl⟩
theorem nm_eq {nm : Nat → List Nat} {f : Nat → Int64} {l : List Nat} (hl : WOk l) {B : Nat} (hB : 27 ≤ B) (hB2 : B ≤ 32) : ∀ {j i : Nat}, (∀ k, i ≤ k → k < i + j → WOk (nm k) ∧ f k = lJ (hRx B (nm k))) → sNm f (lJ (hRx B l)) j i = nmL nm l j i
  | 0, i, _ => rfl
  | j + 1, i, h => by
    obtain ⟨h1, h2⟩ := h i (Nat.le_refl _) (by omega)
    unfold sNm nmL
    rw [h2, nm_eq hl hB hB2 (j := j) (i := i + 1) (fun k g1 g2 => h k (by omega) (by omega))]
    by_cases e : nm i = l
    · rw [if_pos e, if_pos ((word_eq h1 hl hB hB2).mpr e)]
    · rw [if_neg e, if_neg (fun z => e ((word_eq h1 hl hB hB2).mp z))]
theorem nmL_of (nm : Nat → List Nat) (l : List Nat) : ∀ j i, nmL nm l j i = -1 ∨ ∃ k, i ≤ k ∧ k < i + j ∧ nm k = l ∧ nmL nm l j i = nI k
  | 0, i => .inl rfl
  | j + 1, i => by
    unfold nmL
    split
    · exact .inr ⟨i, Nat.le_refl _, by omega, by assumption, rfl⟩
    · rcases nmL_of nm l j (i + 1) with h | ⟨k, h1, h2, h3, h4⟩
      · exact .inl h
      · exact .inr ⟨k, by omega, by omega, h3, h4⟩
theorem kNm_w (h : kNm (lexT n t p) = true) : kty (lexT n t p) = 1 ∧ WOk (kws (lexT n t p)) := by
  have := (kNm_kkw.mp h).1
  exact ⟨this, lexA_w this⟩
theorem SWq.shotNm (h : SWq Q la lb pa pb0 rl n t M M1 p D x) (O : DOk D) (hk : kNm (lexT n t p) = true) : sNm (mj M1 (rl + 1)) (mj M1 25 6) (dn D) 0 = sIx n t D p := by
  obtain ⟨k1, k2⟩ := kNm_w hk
  rw [h.K.2.2.2.2.1 k1]
  exact nm_eq k2 (by decide) (by decide) (fun k _ hk => ⟨(O.2.2.1 k (by omega)).1, (h.2.1.2.2.1 k (by omega)).1⟩)
theorem SWq.hallNm (h : SWq Q la lb pa pb0 rl n t M M1 p D x) (O : DOk D) (hk : kNm (lexT n t p) = true) : sNm (mj M1 (rl + 5)) (mj M1 25 6) (dh D) 0 = hIx n t D p := by
  obtain ⟨k1, k2⟩ := kNm_w hk
  rw [h.K.2.2.2.2.1 k1]
  exact nm_eq k2 (by decide) (by decide) (fun k _ hk => ⟨(O.2.2.2 k (by omega)).1, (h.2.1.2.2.2 k (by omega)).1⟩)
theorem tX7_takeNewName (h : SWq Q la lb pa pb0 rl n t M M1 p D x) (O : DOk D) (hd : 3 ≤ d) : R0 g YX7_takeNewName d [.ref 28] M1 (TRq Q la lb pa pb0 rl n t M p D x (newF D (lexT n t p))) := by
  refine R0.of (by decide +kernel) (Nat.le_of_ble_eq_true rfl) rfl (qX7_takeNewName_0 h.L (K0.ans (d1 := d - 1) (by omega) (tX7_isName h.L h.K lexT_ty) (qX7_takeNewName_4 h.L (fun r => ?_) (fun r => ?_))))
  · rw [b2i_n] at r
    have e3 : ¬ (sIx n t D p = -1 ∧ hIx n t D p = -1) → newF D (lexT n t p) = 3 := fun q => by unfold newF; rw [if_pos r, if_neg q]
    have fl : ¬ (sIx n t D p = -1 ∧ hIx n t D p = -1) → K0 g YX7_takeNewName YX7_fail d 54 [.ref 28, .int 3] [] [] M1 (TRq Q la lb pa pb0 rl n t M p D x (newF D (lexT n t p))) := fun q => by
      rw [e3 q]
      exact K0.failS (k := 3) h (by omega) (fun M2 q1 q2 q3 => qX7_takeNewName_54 (by decide) (.inr ⟨by decide, rfl, q1, q2, q3⟩))
    refine K0.ans (d1 := d - 1) (by omega) (tX0_shotNamed h.L.crl h.2.1.1 O.1) ?_
    rw [h.shotNm O r]
    refine qX7_takeNewName_27 h.L (fun q => fl (fun z => q z.1)) (fun q => K0.ans (d1 := d - 1) (by omega) (tX0_hallNamed h.L.crl h.2.1.2.1 O.2.1) ?_)
    rw [h.hallNm O r]
    refine qX7_takeNewName_45 h.L (fun q2 => ?_) (fun q2 => fl (fun z => q2 z.2))
    have e0 : newF D (lexT n t p) = 0 := by unfold newF; rw [if_pos r, if_pos ⟨q, q2⟩]
    rw [e0]
    exact K0.advS h (by omega) (fun M2 h2 => qX7_takeNewName_62 (.inl ⟨rfl, rfl, h2⟩))
  · rw [b2i_z] at r
    have e1 : newF D (lexT n t p) = 1 := by unfold newF; rw [if_neg (by rw [r]; decide)]
    rw [e1]
    exact K0.failS (k := 1) h (by omega) (fun M2 q1 q2 q3 => qX7_takeNewName_12 (by decide) (.inr ⟨by decide, rfl, q1, q2, q3⟩))
theorem tX7_takeKeyword {i : Nat} (h : SWq Q la lb pa pb0 rl n t M M1 p D x) (hi : i < 21) (hd : 3 ≤ d) : R0 g YX7_takeKeyword d [.ref 28, .int (nI i)] M1 (TRq Q la lb pa pb0 rl n t M p D x (kwF (lexT n t p) i)) := by
  refine R0.of (by decide +kernel) (Nat.le_of_ble_eq_true rfl) rfl (qX7_takeKeyword_0 h.L (fun r => ?_) (fun r => ?_))
  · rw [h.kw, kkw_eq hi] at r
    have e0 : kwF (lexT n t p) i = 0 := if_pos r
    rw [e0]
    exact K0.advS h (by omega) (fun M2 h2 => qX7_takeKeyword_24 (.inl ⟨rfl, rfl, h2⟩))
  · rw [h.kw, kkw_eq hi] at r
    have e0 : kwF (lexT n t p) i = 1 := if_neg r
    rw [e0]
    exact K0.failS (k := 1) h (by omega) (fun M2 q1 q2 q3 => qX7_takeKeyword_16 (by decide) (.inr ⟨by decide, rfl, q1, q2, q3⟩))
theorem tX7_takeSemicolon (h : SWq Q la lb pa pb0 rl n t M M1 p D x) (hd : 3 ≤ d) : R0 g YX7_takeSemicolon d [.ref 28] M1 (TRq Q la lb pa pb0 rl n t M p D x (smF (lexT n t p))) := by
  refine R0.of (by decide +kernel) (Nat.le_of_ble_eq_true rfl) rfl (qX7_takeSemicolon_0 h.L (K0.ans (d1 := d - 1) (by omega) (tX9_isSign (x := 59) h.L h.K lexT_ty (lexT_sg h.T) (by omega)) (qX7_takeSemicolon_9 h.L (fun r => ?_) (fun r => ?_))))
  · rw [b2i_n] at r
    have e0 : smF (lexT n t p) = 0 := if_pos r
    rw [e0]
    exact K0.advS h (by omega) (fun M2 h2 => qX7_takeSemicolon_25 (.inl ⟨rfl, rfl, h2⟩))
  · rw [b2i_z] at r
    have e0 : smF (lexT n t p) = 1 := if_neg (by rw [r]; decide)
    rw [e0]
    exact K0.failS (k := 1) h (by omega) (fun M2 q1 q2 q3 => qX7_takeSemicolon_17 (by decide) (.inr ⟨by decide, rfl, q1, q2, q3⟩))
theorem tX7_takeTold {ix : Int32} (h : SWq Q la lb pa pb0 rl n t M M1 p D x) (hd : 3 ≤ d) : R0 g YX7_takeTold d [.ref 28, .int ix] M1 (TRq Q la lb pa pb0 rl n t M p D x (toF (lexT n t p) ix)) := by
  refine R0.of (by decide +kernel) (Nat.le_of_ble_eq_true rfl) rfl (qX7_takeTold_0 h.L (K0.ans (d1 := d - 1) (by omega) (tX7_isName h.L h.K lexT_ty) (qX7_takeTold_4 h.L (fun r r2 => ?_) (fun r r2 => ?_) (fun r => ?_))))
  · rw [b2i_n] at r
    have e0 : toF (lexT n t p) ix = 0 := by unfold toF; rw [if_pos r, if_neg r2]
    rw [e0]
    exact K0.advS h (by omega) (fun M2 h2 => qX7_takeTold_31 (.inl ⟨rfl, rfl, h2⟩))
  · rw [b2i_n] at r
    have e0 : toF (lexT n t p) ix = 2 := by unfold toF; rw [if_pos r, if_pos r2]
    rw [e0]
    exact K0.failS (k := 2) h (by omega) (fun M2 q1 q2 q3 => qX7_takeTold_23 (by decide) (.inr ⟨by decide, rfl, q1, q2, q3⟩))
  · rw [b2i_z] at r
    have e0 : toF (lexT n t p) ix = 1 := by unfold toF; rw [if_neg (by rw [r]; decide)]
    rw [e0]
    exact K0.failS (k := 1) h (by omega) (fun M2 q1 q2 q3 => qX7_takeTold_12 (by decide) (.inr ⟨by decide, rfl, q1, q2, q3⟩))
theorem nuR_lt (t : Nat → Nat) (a : Nat) : ∀ k, (∀ i, i < k → isDc (t (a + i)) = true) → nuR t a k < 10 ^ k
  | 0, _ => by rw [nuR]; exact Nat.one_pos
  | k + 1, h => by
    have ih := nuR_lt t a k (fun i hi => h i (by omega))
    have hk := h k (by omega)
    unfold isDc at hk
    simp only [Bool.and_eq_true, decide_eq_true_eq] at hk
    rw [nuR, Nat.pow_succ]
    omega
theorem lexA_nu {a : Nat} (h : kty (lexA n t a) = 2) : knu (lexA n t a) < 10000 := by
  unfold lexA at h ⊢
  by_cases q : a < n
  · rw [if_pos q] at h ⊢
    by_cases q1 : isLc (t a) = true
    · rw [if_pos q1] at h
      have h : (if 8 < runW isLc t (n - a) a - a then 4 else 1) = 2 := h
      split at h <;> omega
    · rw [if_neg q1] at h ⊢
      by_cases q2 : isDc (t a) = true
      · rw [if_pos q2] at h ⊢
        have h : (if 4 < runW isDc t (n - a) a - a then 4 else 2) = 2 := h
        have h4 : ¬ 4 < runW isDc t (n - a) a - a := fun z => by rw [if_pos z] at h; omega
        show nuR t a (runW isDc t (n - a) a - a) < 10000
        have h1 := nuR_lt t a (runW isDc t (n - a) a - a) (fun i hi => runW_all isDc t (n - a) a _ (by omega) (by omega))
        exact Nat.lt_of_lt_of_le h1 (Nat.pow_le_pow_right (by decide) (show runW isDc t (n - a) a - a ≤ 4 by omega))
      · rw [if_neg q2] at h
        have h : (if isSgc (t a) = true then 3 else 4) = 2 := h
        split at h <;> omega
  · rw [if_neg q] at h
    have h : (0 : Nat) = 2 := h
    omega
theorem lexT_nu (h : kty (lexT n t p) = 2) : knu (lexT n t p) < 10000 := lexA_nu h
theorem tX7_takeNumber {lo hi : Nat} (h : SWq Q la lb pa pb0 rl n t M M1 p D x) (hlo : lo < 100) (hhi : hi < 100) (hd : 3 ≤ d) : R0 g YX7_takeNumber d [.ref 28, .int (nI lo), .int (nI hi)] M1 (TRq Q la lb pa pb0 rl n t M p D x (nuF (lexT n t p) lo hi)) := by
  have h4 := lexT_ty (n := n) (t := t) (p := p)
  have e2 : mi M1 25 5 = 2 ↔ kty (lexT n t p) = 2 := by rw [h.K.2.2.1, show (2 : Int32) = nI 2 from rfl]; exact nI_eq (by omega) (by decide)
  have ev : kty (lexT n t p) = 2 → (mi M1 25 8 < nI lo ↔ knu (lexT n t p) < lo) ∧ (mi M1 25 8 ≤ nI hi ↔ knu (lexT n t p) ≤ hi) := fun q => by
    have hn := lexT_nu q
    rw [h.K.2.2.2.2.2.1 q]
    exact ⟨nI_ltI (by omega) (by omega), nI_leI (by omega) (by omega)⟩
  have fl4 : kty (lexT n t p) = 2 → ¬ (lo ≤ knu (lexT n t p) ∧ knu (lexT n t p) ≤ hi) → K0 g YX7_takeNumber YX7_fail d 44 [.ref 28, .int 4] [] [] M1 (TRq Q la lb pa pb0 rl n t M p D x (nuF (lexT n t p) lo hi)) := fun q q2 => by
    have e0 : nuF (lexT n t p) lo hi = 4 := by unfold nuF; rw [if_pos q, if_neg q2]
    rw [e0]
    exact K0.failS (k := 4) h (by omega) (fun M2 q1 q2 q3 => qX7_takeNumber_44 (by decide) (.inr ⟨by decide, rfl, q1, q2, q3⟩))
  refine R0.of (by decide +kernel) (Nat.le_of_ble_eq_true rfl) rfl (qX7_takeNumber_0 h.L (fun r1 r2 => ?_) (fun r1 r2 r3 => ?_) (fun r1 r2 r3 => ?_) (fun r1 => ?_)) <;> rw [e2] at r1
  · rw [(ev r1).1] at r2
    exact fl4 r1 (by omega)
  · rw [(ev r1).1] at r2
    rw [(ev r1).2] at r3
    have e0 : nuF (lexT n t p) lo hi = 0 := by unfold nuF; rw [if_pos r1, if_pos ⟨by omega, r3⟩]
    rw [e0]
    exact K0.advS h (by omega) (fun M2 h2 => qX7_takeNumber_52 (.inl ⟨rfl, rfl, h2⟩))
  · rw [(ev r1).2] at r3
    exact fl4 r1 (by omega)
  · have e0 : nuF (lexT n t p) lo hi = 1 := if_neg r1
    rw [e0]
    exact K0.failS (k := 1) h (by omega) (fun M2 q1 q2 q3 => qX7_takeNumber_16 (by decide) (.inr ⟨by decide, rfl, q1, q2, q3⟩))
end STM
