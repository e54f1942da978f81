/-! ===== counties, read by the class ===== -/
theorem rst_no {a k : Nat} (h : (RST.all fun q => !(decide (q.1 = a) && decide (q.2.1 = k))) = true) {M : MM} {v : Option Nat} {q : Nat × Nat × Nat} (hq : q ∈ RST) : mr (wr M a k v) q.1 q.2.1 = mr M q.1 q.2.1 := by
  have h1 := List.all_eq_true.mp h q hq
  refine if_neg (fun z => ?_)
  rw [decide_eq_true z.1, decide_eq_true z.2] at h1
  exact absurd h1 (by decide)
theorem mr_ne {M : MM} {a k b j : Nat} {v : Option Nat} (h : ¬ (b = a ∧ j = k)) : mr (wr M a k v) b j = mr M b j := if_neg h
theorem mr_eq {M : MM} {a k : Nat} {v : Option Nat} : mr (wr M a k v) a k = v := if_pos ⟨rfl, rfl⟩
theorem Lay.rd {M : MM} {la lb pa pb0 rl a : Nat} (L : Lay M la lb pa pb0 rl) (ha : a = 1 ∨ a = 13) : Lay (wr M 28 1 (some a)) la lb pa pb0 a := by
  obtain ⟨l1, l2, l3, l4, l5, l6, l7, l8, l9, l10, l11⟩ := L
  refine ⟨l1, l2, fun q hq => by rw [rst_no (by decide +kernel) hq]; exact l3 q hq, l4, l5, ?_, ?_, ?_, ?_, mr_eq, ha⟩
  · rw [mr_ne (by omega)]; exact l6
  · rw [mr_ne (by omega)]; exact l7
  · rw [mr_ne (by omega)]; exact l8
  · rw [mr_ne (by omega)]; exact l9
theorem Lay.sw {M : MM} {la lb pa pb0 rl : Nat} (L : Lay M la lb pa pb0 rl) : Lay (wr (wr M 0 2 (some lb)) 0 3 (some la)) lb la pa pb0 rl := by
  obtain ⟨l1, l2, l3, l4, l5, l6, l7, l8, l9, l10, l11⟩ := L
  refine ⟨l1, l2, fun q hq => by rw [rst_no (by decide +kernel) hq, rst_no (by decide +kernel) hq]; exact l3 q hq, by omega, l5, ?_, mr_eq, ?_, ?_, ?_, l11⟩
  · rw [mr_ne (by omega)]; exact mr_eq
  · rw [mr_ne (by omega), mr_ne (by omega)]; exact l8
  · rw [mr_ne (by omega), mr_ne (by omega)]; exact l9
  · rw [mr_ne (by omega), mr_ne (by omega)]; exact l10
theorem Lay.sp {M : MM} {la lb pa pb0 rl : Nat} (L : Lay M la lb pa pb0 rl) : Lay (wr (wr M 0 4 (some pb0)) 0 5 (some pa)) la lb pb0 pa rl := by
  obtain ⟨l1, l2, l3, l4, l5, l6, l7, l8, l9, l10, l11⟩ := L
  refine ⟨l1, l2, fun q hq => by rw [rst_no (by decide +kernel) hq, rst_no (by decide +kernel) hq]; exact l3 q hq, l4, by omega, ?_, ?_, ?_, mr_eq, ?_, l11⟩
  · rw [mr_ne (by omega), mr_ne (by omega)]; exact l6
  · rw [mr_ne (by omega), mr_ne (by omega)]; exact l7
  · rw [mr_ne (by omega)]; exact mr_eq
  · rw [mr_ne (by omega), mr_ne (by omega)]; exact l10
section PURE67
variable {n : Nat} {t : Nat → Nat} {p : Nat} {D : DTs}
def FaC (n : Nat) (t : Nat → Nat) (c : Int32) : Prop := ∃ k q, 1 ≤ k ∧ k ≤ 5 ∧ q ≤ n ∧ c = fltC n t k q
theorem FaC.nz {c : Int32} (h : FaC n t c) (hn : n ≤ 1000) : c ≠ 0 := by
  obtain ⟨k, q, k1, k2, q1, rfl⟩ := h
  have := (lexT_at (t := t) q1).2
  unfold fltC
  intro z
  have := (nI_eq (a := k + 16 * kat (lexT n t q)) (b := 0) (by omega) (by omega)).mp z
  omega
def FaOk (n : Nat) (t : Nat → Nat) (r : PRs) : Prop := rst r = 0 ∨ rst r = 2 ∨ (rst r = 1 ∧ FaC n t (rfa r))
theorem FaOk.ok {p : Nat} {cc rc : List Int32} {f : (Nat → Int32) → Int32} : FaOk n t (prOk p cc rc f) := .inl rfl
theorem FaOk.fl {k q : Nat} (h1 : 1 ≤ k) (h2 : k ≤ 5) (h3 : q ≤ n) : FaOk n t (prFl (fltC n t k q)) := .inr (.inr ⟨rfl, k, q, h1, h2, h3, rfl⟩)
theorem FaOk.and {r : PRs} {k : PRs → PRs} (h : FaOk n t r) (h2 : rst r = 0 → FaOk n t (k r)) : FaOk n t (andT r k) := by
  by_cases q : rst r = 0
  · rw [andT_e q]; exact h2 q
  · rw [andT_f q]; exact h
theorem pEx_fa : ∀ f lvl dp p acc, p ≤ n → FaOk n t (pEx n t f lvl dp p acc)
  | 0, lvl, dp, p, acc, _ => .inr (.inl rfl)
  | f + 1, lvl, dp, p, acc, hp => by
    have hnx := nxT_le (t := t) hp
    have ln : ∀ lvl dp p acc, p ≤ n → rst (pEx n t f lvl dp p acc) = 0 → rpo (pEx n t f lvl dp p acc) ≤ n := fun lvl dp p acc h1 h2 => (pEx_len f lvl dp p acc h1 h2).2.1
    have tl : ∀ l1 l2 (acc : PRs) c e, FaOk n t (tlT n t f l1 l2 dp p acc c e) := fun l1 l2 acc c e => (pEx_fa f l1 dp _ _ hnx.2.1).and (fun z => pEx_fa f l2 dp _ _ (ln _ _ _ _ hnx.2.1 z))
    have fst : ∀ l1 l2, FaOk n t (andT (pEx n t f l1 dp p prOut) (fun r => pEx n t f l2 dp (rpo r) r)) := fun l1 l2 => (pEx_fa f l1 dp p _ hp).and (fun z => pEx_fa f l2 dp _ _ (ln _ _ _ _ hp z))
    unfold pEx
    by_cases l0 : lvl = 0
    · rw [if_pos l0]
      split
      · split
        · exact FaOk.fl (by omega) (by omega) hp
        · split
          · exact FaOk.ok
          · split
            · exact FaOk.ok
            · split
              · refine (pEx_fa f 4 (dp + 1) _ _ hnx.2.1).and (fun z => ?_)
                show FaOk n t (if _ then _ else _)
                split
                · exact FaOk.ok
                · exact FaOk.fl (by omega) (by omega) (ln _ _ _ _ hnx.2.1 z)
              · exact (pEx_fa f 0 (dp + 1) _ _ hnx.2.1).and (fun z => FaOk.ok)
      · exact FaOk.fl (by omega) (by omega) hp
    · rw [if_neg l0]
      by_cases l1 : lvl = 1
      · rw [if_pos l1]; exact fst 0 5
      · rw [if_neg l1]
        by_cases l5 : lvl = 5
        · rw [if_pos l5]
          split
          · exact tl 0 5 acc (-12) 22
          · exact FaOk.ok
        · rw [if_neg l5]
          by_cases l2 : lvl = 2
          · rw [if_pos l2]; exact fst 1 6
          · rw [if_neg l2]
            by_cases l6 : lvl = 6
            · rw [if_pos l6]
              split
              · exact tl 1 6 acc (-10) 20
              · split
                · exact tl 1 6 acc (-11) 21
                · exact FaOk.ok
            · rw [if_neg l6]
              by_cases l3 : lvl = 3
              · rw [if_pos l3]
                refine (pEx_fa f 2 dp p _ hp).and (fun z => ?_)
                have h1 := ln _ _ _ _ hp z
                have h2 := nxT_le (t := t) h1
                show FaOk n t (if _ then _ else _)
                split
                · exact (pEx_fa f 2 dp _ _ h2.2.1).and (fun z => FaOk.ok)
                · split
                  · exact (pEx_fa f 2 dp _ _ h2.2.1).and (fun z => FaOk.ok)
                  · exact pEx_fa f 2 dp p _ hp
              · rw [if_neg l3]
                by_cases l4 : lvl = 4
                · rw [if_pos l4]; exact fst 3 7
                · rw [if_neg l4]
                  split
                  · exact tl 3 7 acc (-6) 26
                  · split
                    · exact tl 3 7 acc (-7) 27
                    · exact FaOk.ok
/-- a statement's result: bad with a fault, or good and further on -/
def SGd (n : Nat) (t : Nat → Nat) (r : SRs) (G : Nat → DTs → Prop) : Prop := (r.1 = 1 ∧ FaC n t r.2.1) ∨ (r.1 = 0 ∧ r.2.1 = 0 ∧ G r.2.2.1 r.2.2.2)
theorem SGd.fl {k q : Nat} {G : Nat → DTs → Prop} (h1 : 1 ≤ k) (h2 : k ≤ 5) (h3 : q ≤ n) : SGd n t (sFlS (fltC n t k q)) G := .inl ⟨rfl, k, q, h1, h2, h3, rfl⟩
theorem SGd.chk {fk q : Nat} {r : SRs} {G : Nat → DTs → Prop} (h5 : fk ≤ 5) (hq : q ≤ n) (h : fk = 0 → SGd n t r G) : SGd n t (chkS n t fk q r) G := by
  by_cases z : fk = 0
  · rw [chkS_0 z]; exact h z
  · rw [chkS_n z]; exact SGd.fl (by omega) h5 hq
theorem SGd.ok {q : Nat} {G : Nat → DTs → Prop} (h : G q D) : SGd n t (sOkS q D) G := .inr ⟨rfl, rfl, h⟩
theorem newF_5 {K : TK} : newF D K ≤ 5 := by unfold newF; repeat (first | split | omega)
theorem kwF_5 {K : TK} {i : Nat} : kwF K i ≤ 5 := by unfold kwF; split <;> omega
theorem nuF_5 {K : TK} {a b : Nat} : nuF K a b ≤ 5 := by unfold nuF; repeat (first | split | omega)
theorem smF_5 {K : TK} : smF K ≤ 5 := by unfold smF; split <;> omega
theorem toF_5 {K : TK} {i : Int32} : toF K i ≤ 5 := by unfold toF; repeat (first | split | omega)
abbrev NxD (n p : Nat) : Nat → DTs → Prop := fun q D => p < q ∧ q ≤ n ∧ DOk D ∧ eD D ≤ q
theorem pShot_gd (hp : p ≤ n) (O : DOk D) (hE : eD D ≤ p) (hk : kty (lexT n t p) ≠ 0) : SGd n t (pShot n t p D) (NxD n p) := by
  have a1 := nxT_le (t := t) hp
  have a2 := nxT_le (t := t) a1.2.1
  have a3 := nxT_le (t := t) a2.2.1
  have a4 := nxT_le (t := t) a3.2.1
  have a5 := nxT_le (t := t) a4.2.1
  have a6 := nxT_le (t := t) a5.2.1
  have a7 := nxT_le (t := t) a6.2.1
  have := a1.2.2.1 hk
  obtain ⟨o1, o2, o3, o4⟩ := O
  unfold pShot
  by_cases h : dn D < 10
  · rw [if_pos h]
    refine SGd.chk newF_5 a1.2.1 (fun f1 => SGd.chk kwF_5 a2.2.1 (fun f2 => SGd.chk nuF_5 a3.2.1 (fun f3 => SGd.chk kwF_5 a4.2.1 (fun f4 => SGd.chk nuF_5 a5.2.1 (fun f5 => SGd.chk smF_5 a6.2.1 (fun f6 => SGd.ok ⟨by show p < nxT n t (nxT n t (nxT n t (nxT n t (nxT n t (nxT n t (nxT n t p)))))); omega, a7.2.1, ⟨h, o2, fun k hk => ?_, o4⟩, ?_⟩))))))
    · have hk : k < dn D + 1 := hk
      show WOk (if k = dn D then _ else _) ∧ (if k = dn D then _ else _) ≤ 9 ∧ 1 ≤ (if k = dn D then _ else _) ∧ (if k = dn D then _ else _) ≤ 60 ∧ ∀ i, i < 32 → bt (if k = dn D then _ else _) i = true → i < dn D + 1
      by_cases e : k = dn D
      · simp only [if_pos e]
        have n3 := nuF_0 f3
        have n5 := nuF_0 f5
        exact ⟨(kNm_w (newF_0 f1).1).2, n3.2.2, n5.2.1, n5.2.2, fun i _ q => by rw [b_0] at q; exact absurd q (by decide)⟩
      · simp only [if_neg e]
        obtain ⟨q1, q2, q3, q4, q5⟩ := o3 k (by omega)
        exact ⟨q1, q2, q3, q4, fun i hi z => by have := q5 i hi z; omega⟩
    · show eD D ≤ nxT n t (nxT n t (nxT n t (nxT n t (nxT n t (nxT n t (nxT n t p))))))
      omega
  · rw [if_neg h]; exact SGd.fl (by omega) (by omega) hp
theorem pNeeds_gd (hp : p ≤ n) (O : DOk D) (hE : eD D ≤ p) (hk : kty (lexT n t p) ≠ 0) : SGd n t (pNeeds n t p D) (NxD n p) := by
  have a1 := nxT_le (t := t) hp
  have a2 := nxT_le (t := t) a1.2.1
  have a3 := nxT_le (t := t) a2.2.1
  have a4 := nxT_le (t := t) a3.2.1
  have := a1.2.2.1 hk
  have O2 := O
  obtain ⟨o1, o2, o3, o4⟩ := O
  unfold pNeeds
  refine SGd.chk toF_5 a1.2.1 (fun f1 => SGd.chk toF_5 a2.2.1 (fun f2 => ?_))
  split
  · exact SGd.fl (by omega) (by omega) a2.2.1
  · refine SGd.chk smF_5 a3.2.1 (fun f3 => SGd.ok ⟨by show p < nxT n t (nxT n t (nxT n t (nxT n t p))); omega, a4.2.1, ⟨o1, o2, fun k hk => ?_, o4⟩, ?_⟩)
    · obtain ⟨b, b1, b2⟩ := sIx_of O2 (toF_0 f2).2
      obtain ⟨q1, q2, q3, q4, q5⟩ := o3 k hk
      refine ⟨q1, q2, q3, q4, fun i hi z => ?_⟩
      have z : bt (if k = (sIx n t D (n1 n t p)).toNatClampNeg then dnd D k ||| ((1 : Int32) <<< (nI (sIx n t D (n2 n t p)).toNatClampNeg &&& 31)) else dnd D k) i = true := z
      show i < dn D
      rw [b2, nI_clamp (by omega)] at z
      split at z
      · rw [b_or, b_one (by omega) hi] at z
        cases y : bt (dnd D k) i
        · rw [y] at z
          have : i = b := by simpa using z
          omega
        · exact q5 i hi y
      · exact q5 i hi z
    · show eD D ≤ nxT n t (nxT n t (nxT n t (nxT n t p)))
      omega
theorem pHall_gd (hp : p ≤ n) (O : DOk D) (hE : eD D ≤ p) (hk : kty (lexT n t p) ≠ 0) : SGd n t (pHall n t p D) (NxD n p) := by
  have a1 := nxT_le (t := t) hp
  have a2 := nxT_le (t := t) a1.2.1
  have a3 := nxT_le (t := t) a2.2.1
  have a4 := nxT_le (t := t) a3.2.1
  have := a1.2.2.1 hk
  obtain ⟨o1, o2, o3, o4⟩ := O
  unfold pHall
  by_cases h : dh D < 6
  · rw [if_pos h]
    refine SGd.chk newF_5 a1.2.1 (fun f1 => ?_)
    by_cases hkd : kKd (lexT n t (n2 n t p)) < 4
    · rw [if_pos hkd]
      refine SGd.chk kwF_5 a3.2.1 (fun f2 => ?_)
      by_cases hr : rst (pEx n t (fuX n) 4 0 (n4 n t p) prOut) = 0
      · rw [if_pos hr]
        have hl := pEx_len (fuX n) 4 0 (n4 n t p) prOut a4.2.1 hr
        rw [if_neg (by omega)] at hl
        have a5 := nxT_le (t := t) hl.2.1
        refine SGd.chk smF_5 hl.2.1 (fun f3 => SGd.ok ⟨?_, a5.2.1, ⟨o1, h, o3, fun k hk => ?_⟩, ?_⟩)
        · have := hl.2.2.2 (by omega)
          have : n4 n t p = nxT n t (nxT n t (nxT n t (nxT n t p))) := rfl
          omega
        · have hk : k < dh D + 1 := hk
          show WOk (if k = dh D then _ else _) ∧ (if k = dh D then _ else _) ≤ 3 ∧ LwOk (if k = dh D then _ else _)
          by_cases e : k = dh D
          · simp only [if_pos e]
            exact ⟨(kNm_w (newF_0 f1).1).2, by omega, ⟨n, t, fuX n, _, rfl, hr⟩⟩
          · simp only [if_neg e]
            exact o4 k (by omega)
        · have e1 : eD (dAddH D (kws (lexT n t (n1 n t p))) (kKd (lexT n t (n2 n t p))) (pEx n t (fuX n) 4 0 (n4 n t p) prOut)) = eD D + (rcc (pEx n t (fuX n) 4 0 (n4 n t p) prOut)).length := by
            have e2 : eNl (dlw (dAddH D (kws (lexT n t (n1 n t p))) (kKd (lexT n t (n2 n t p))) (pEx n t (fuX n) 4 0 (n4 n t p) prOut))) (dh D) = eNl (dlw D) (dh D) := eNl_cong (fun i hi => show (if i = dh D then _ else _) = _ from if_neg (by omega))
            show eNl _ (dh D + 1) = _
            rw [eNl, e2]
            show _ + (rcc (if dh D = dh D then _ else _)).length = _
            rw [if_pos rfl]
          have e4 : n4 n t p = nxT n t (nxT n t (nxT n t (nxT n t p))) := rfl
          rw [e1]
          omega
      · rw [if_neg hr]
        have h2 := pEx_fuel (t := t) (fuX n) 4 0 (n4 n t p) prOut a4.2.1 (by omega) (by unfold fuX; omega)
        rcases pEx_fa (t := t) (fuX n) 4 0 (n4 n t p) prOut a4.2.1 with q | q | q
        · exact absurd q hr
        · exact absurd q h2
        · exact .inl ⟨rfl, q.2⟩
    · rw [if_neg hkd]; exact SGd.fl (by omega) (by omega) a2.2.1
  · rw [if_neg h]; exact SGd.fl (by omega) (by omega) hp
theorem pStm_gd (hp : p ≤ n) (O : DOk D) (hE : eD D ≤ p) (hk : kty (lexT n t p) ≠ 0) : SGd n t (pStm n t p D) (NxD n p) := by
  unfold pStm
  split
  · exact pShot_gd hp O hE hk
  · split
    · exact pNeeds_gd hp O hE hk
    · split
      · exact pHall_gd hp O hE hk
      · exact SGd.fl (by omega) (by omega) hp
theorem pCo_gd : ∀ f p D, p ≤ n → DOk D → eD D ≤ p → SGd n t (pCo n t f p D) (fun q D2 => q ≤ n ∧ DOk D2 ∧ eD D2 ≤ q)
  | 0, p, D, hp, O, hE => SGd.ok ⟨hp, O, hE⟩
  | f + 1, p, D, hp, O, hE => by
    unfold pCo
    by_cases hk : kty (lexT n t p) = 0
    · rw [if_pos hk]; exact SGd.ok ⟨hp, O, hE⟩
    · rw [if_neg hk]
      rcases pStm_gd hp O hE hk with ⟨h1, h2⟩ | ⟨h1, h2, h3, h4, h5, h6⟩
      · rw [if_neg (by omega)]; exact .inl ⟨h1, h2⟩
      · rw [if_pos h1]; exact pCo_gd f _ _ h4 h5 h6
theorem dEmp_ok : DOk dEmp := ⟨Nat.zero_le _, Nat.zero_le _, fun k hk => absurd hk (Nat.not_lt_zero _), fun k hk => absurd hk (Nat.not_lt_zero _)⟩
end PURE67
section CTY67
variable {g : GG} {d : Nat} {M M1 M2 : MM} {la lb pa pb0 rl n p a : Nat} {t : Nat → Nat} {D : DTs}
theorem tX7_begin (L : Lay M la lb pa pb0 rl) (W : WdOk M) (T : TapeIs M n t) (ha : a = 1 ∨ a = 13) (hd : 4 ≤ d) : R0 g YX7_begin d [.ref 28, .ref a] M (fun rv M1 => rv = none ∧ TkC M1 (lexT n t 0) ∧ mi M1 25 2 = nI n ∧ mi M1 28 2 = 0 ∧ Fr (fun b => b = 25 ∨ b = 28) (wr M 28 1 (some a)) M1) := by
  have L1 : Lay (wi (wr M 28 1 (some a)) 28 2 0) la lb pa pb0 a := (L.rd ha).to rfl rfl rfl
  have W1 : WdOk (wi (wr M 28 1 (some a)) 28 2 0) := W
  have T1 : TapeIs (wi (wr M 28 1 (some a)) 28 2 0) n t := by
    refine ⟨T.1, ?_, fun k hk => ?_⟩
    · rw [wi_at, if_neg (by omega)]; exact T.2.1
    · rw [wi_at, if_neg (by omega)]; exact T.2.2 k hk
  refine R0.of (by decide +kernel) (Nat.le_of_ble_eq_true rfl) rfl (qX7_begin_0 (M1 := wr M 28 1 (some a)) (b28_0_M1 := 25) L rfl rfl ((L.rd ha).r 34 rfl) (L.s rfl (by decide)) (K0.set (d1 := d - 1) (by omega) (tX9_start L1 W1 T1 (by omega)) ?_))
  rintro rv M2 ⟨rfl, k1, k2, F2⟩
  refine qX7_begin_17 ⟨rfl, k1, k2, ?_, ?_⟩
  · rw [F2.i (show ¬ in25 28 by omega), wi_at, if_pos ⟨rfl, rfl⟩]
  · exact (Fr.rf.wi (.inr rfl)).trans (F2.mono (fun b hb => .inl hb))
/-- a county, read into the draft -/
def CtRes (la lb pa pb0 a : Nat) (M : MM) (r : SRs) : Option Value → MM → Prop := fun rv M2 => rv = some (.int r.2.1) ∧ mi M2 25 2 = 0 ∧ (r.1 = 0 → DrIs M2 a r.2.2.2 ∧ mi M2 (a + 7) 1 = nI (eD r.2.2.2)) ∧ Fr (inW a) (wr M 28 1 (some a)) M2 ∧ Lay M2 la lb pa pb0 a
theorem cty_loop {M0 B : MM} (r : SRs) (FB : Fr (inW a) (wr M0 28 1 (some a)) B) (hd : 39 ≤ d) : ∀ f p D i M1, n - p < f → i ≤ p → DOk D → eD D ≤ p → SW la lb pa pb0 a n t B M1 p D [] → mi M1 28 2 = 0 → pCo n t f p D = r → E0 g YX7_readCounty d 13 [(0, .ref 28), (2, .int 1), (3, .int (nI i))] [] M1 (CtRes la lb pa pb0 a M0 r)
  | 0, p, D, i, M1, h, _, _, _, _, _, _ => absurd h (by omega)
  | f + 1, p, D, i, M1, hf, hi, O, hE, S, h2, hr => by
    have hrl := S.r
    have hn := S.T.1
    have ple := S.ple
    have ty : mi M1 25 5 = 0 ↔ kty (lexT n t p) = 0 := by
      rw [S.K.2.2.1, show (0 : Int32) = nI 0 from rfl]
      exact nI_eq (by have := lexT_ty (n := n) (t := t) (p := p); omega) (by decide)
    have fin : kty (lexT n t p) = 0 → CtRes la lb pa pb0 a M0 r (some (.int (mi (wi M1 25 2 0) 28 2))) (wi M1 25 2 0) := fun z => by
      have e : r = sOkS p D := by rw [← hr]; unfold pCo; rw [if_pos z]
      have F : Fr in25 M1 (wi M1 25 2 0) := Fr.rf.wi rfl
      refine ⟨?_, by rw [wi_at, if_pos ⟨rfl, rfl⟩], fun _ => ?_, FB.trans (S.2.2.2.1.trans (F.mono (fun b hb => .inl hb))), F.lay S.L⟩
      · rw [wi_at, if_neg (by omega), h2, e]; rfl
      · rw [e]; exact ⟨S.2.1.fr F (fun k hk => by omega), by rw [F.i (by omega)]; exact S.1.2.2.2.2.2⟩
    -- behind a statement
    have next : kty (lexT n t p) ≠ 0 → i < 1000 → ∀ rv M2, SRes la lb pa pb0 a n t M1 (pStm n t p D) rv M2 → ∃ s0, rv = some (.int s0) ∧ E0 g YX7_readCounty d 13 [(0, .ref 28), (2, .int s0), (3, .int (nI i + 1))] [] M2 (CtRes la lb pa pb0 a M0 r) := fun hk hi2 rv M2 q => by
      rw [nI_1]
      rcases pStm_gd (t := t) ple O hE hk with ⟨g1, g2⟩ | ⟨g1, g2, g3, g4, g5, g6⟩
      · rcases q with ⟨q1, -⟩ | ⟨q1, rfl, q3, q4, q5⟩
        · omega
        · have e : r = pStm n t p D := by rw [← hr]; unfold pCo; rw [if_neg hk, if_neg (by omega)]
          have F : Fr in25 M2 (wi M2 25 2 0) := Fr.rf.wi rfl
          have bad : CtRes la lb pa pb0 a M0 r (some (.int (mi (wi M2 25 2 0) 28 2))) (wi M2 25 2 0) := by
            refine ⟨?_, by rw [wi_at, if_pos ⟨rfl, rfl⟩], fun z => ?_, FB.trans ((S.2.2.2.1.trans q4).trans (F.mono (fun b hb => .inl hb))), F.lay q5⟩
            · rw [wi_at, if_neg (by omega), q3, e]
            · rw [e] at z; omega
          exact ⟨0, rfl, qX7_readCounty_13 q5 rfl rfl rfl (fun _ => bad) (fun _ _ => bad) (fun _ z => absurd rfl z) (fun _ z => absurd rfl z) (fun _ z => absurd rfl z) (fun _ z => absurd rfl z) (fun _ z => absurd rfl z) (fun _ z => absurd rfl z) (fun _ z => absurd rfl z)⟩
      · rcases q with ⟨q1, rfl, q3⟩ | ⟨q1, -⟩
        · refine ⟨1, rfl, cty_loop r FB hd f _ _ (i + 1) M2 (by omega) (by omega) g5 g6 ⟨q3.1, q3.2.1, q3.2.2.1, S.2.2.2.1.trans q3.2.2.2.1, ?_⟩ ?_ ?_⟩
          · rw [q3.2.2.2.2]; exact S.2.2.2.2
          · rw [q3.2.2.2.2]; exact h2
          · rw [← hr]
            show _ = pCo n t (f + 1) p D
            rw [pCo, if_neg hk, if_pos g1]
        · omega
    have S1 : SW la lb pa pb0 a n t M1 M1 p D [] := ⟨S.1, S.2.1, S.2.2.1, Fr.rf, rfl⟩
    have i31 : i < 2 ^ 31 := by omega
    have lt : ¬ (1000 : Int32) ≤ nI i → i < 1000 := fun z => by rw [show (1000 : Int32) = nI 1000 from rfl, nI_leI (by decide) i31] at z; omega
    have bad1 : kty (lexT n t p) ≠ 0 → i < 1000 → pStm n t p D = sFlS (fltC n t 1 p) → K0 g YX7_readCounty YX7_fail d 105 [.ref 28, .int 1] [(0, .ref 28), (3, .int (nI i))] [] M1 (CtRes la lb pa pb0 a M0 r) := fun z1 z2 z3 => by
      refine K0.failS (k := 1) S1 (by omega) (fun M2 q1 q2 q3 => ?_)
      obtain ⟨s0, w1, w2⟩ := next z1 z2 (some (.int 0)) M2 (by rw [z3]; exact SRes.bad q1 q2 q3)
      cases w1
      exact qX7_readCounty_105 w2
    have kwI : ∀ x : Nat, x < 21 → ((mi M1 25 7 : Int32).toInt = (x : Int) ↔ kW (lexT n t p) x = true) := fun x hx => by
      rw [S.kw, ← kkw_eq hx, ← Int32.toInt_inj, nI_toInt (show x < 2 ^ 31 by omega)]
    have other : kW (lexT n t p) 0 = false → kW (lexT n t p) 3 = false → kW (lexT n t p) 4 = false → pStm n t p D = sFlS (fltC n t 1 p) := fun z1 z2 z3 => by
      unfold pStm; rw [z1, z2, z3]; rfl
    have no : ∀ x y : Nat, x < 21 → y < 21 → x ≠ y → (mi M1 25 7 : Int32).toInt = (y : Int) → kW (lexT n t p) x = false := fun x y hx hy e z => by
      cases q : kW (lexT n t p) x
      · rfl
      · exact absurd (kW_one hx hy q ((kwI y hy).mp z)) e
    refine qX7_readCounty_13 S.L rfl rfl rfl (fun z => ?_) (fun _ z => absurd z (by decide)) (fun _ _ z => fin (ty.mp z)) (fun z1 _ z2 z3 => ?_) (fun z1 _ z2 z3 => ?_) (fun z1 _ z2 z3 => ?_) (fun z1 _ z2 z3 => ?_) (fun z1 _ z2 z3 => ?_) (fun z1 _ z2 z3 => ?_)
    · exact fin (far (CInv.start S.1) hi z)
    · have f : ∀ x : Nat, x < 5 → kW (lexT n t p) x = false := fun x hx => by
        cases q : kW (lexT n t p) x
        · rfl
        · have := (kwI x (by omega)).mpr q
          omega
      exact bad1 (fun z => z2 (ty.mpr z)) (lt z1) (other (f 0 (by decide)) (f 3 (by decide)) (f 4 (by decide)))
    · have k0 := (kwI 0 (by decide)).mp z3
      have e : pStm n t p D = pShot n t p D := by unfold pStm; rw [if_pos k0]
      refine K0.set (d1 := d - 1) (by omega) (tX7_readShot S1 O (by omega)) (fun rv M2 q => ?_)
      rw [← e] at q
      obtain ⟨s0, w1, w2⟩ := next (fun z => z2 (ty.mpr z)) (lt z1) rv M2 q
      rw [w1]
      exact qX7_readCounty_80 w2
    · exact bad1 (fun z => z2 (ty.mpr z)) (lt z1) (other (no 0 1 (by decide) (by decide) (by decide) z3) (no 3 1 (by decide) (by decide) (by decide) z3) (no 4 1 (by decide) (by decide) (by decide) z3))
    · exact bad1 (fun z => z2 (ty.mpr z)) (lt z1) (other (no 0 2 (by decide) (by decide) (by decide) z3) (no 3 2 (by decide) (by decide) (by decide) z3) (no 4 2 (by decide) (by decide) (by decide) z3))
    · have k0 := (kwI 3 (by decide)).mp z3
      have e : pStm n t p D = pNeeds n t p D := by unfold pStm; rw [no 0 3 (by decide) (by decide) (by decide) z3, if_neg (by decide), if_pos k0]
      refine K0.set (d1 := d - 1) (by omega) (tX7_readNeeds S1 O (by omega)) (fun rv M2 q => ?_)
      rw [← e] at q
      obtain ⟨s0, w1, w2⟩ := next (fun z => z2 (ty.mpr z)) (lt z1) rv M2 q
      rw [w1]
      exact qX7_readCounty_88 w2
    · have k0 := (kwI 4 (by decide)).mp z3
      have e : pStm n t p D = pHall n t p D := by unfold pStm; rw [no 0 4 (by decide) (by decide) (by decide) z3, if_neg (by decide), no 3 4 (by decide) (by decide) (by decide) z3, if_neg (by decide), if_pos k0]
      refine K0.set (d1 := d - 1) (by omega) (tX7_readHall S1 O hE (by omega)) (fun rv M2 q => ?_)
      rw [← e] at q
      obtain ⟨s0, w1, w2⟩ := next (fun z => z2 (ty.mpr z)) (lt z1) rv M2 q
      rw [w1]
      exact qX7_readCounty_96 w2
def ctyT (n : Nat) (t : Nat → Nat) : SRs := pCo n t (n + 1) 0 dEmp
theorem tX7_readCounty (L : Lay M la lb pa pb0 rl) (W : WdOk M) (T : TapeIs M n t) (ha : a = 1 ∨ a = 13) (hd : 39 ≤ d) : R0 g YX7_readCounty d [.ref 28, .ref a] M (CtRes la lb pa pb0 a M (ctyT n t)) := by
  refine R0.of (by decide +kernel) (Nat.le_of_ble_eq_true rfl) rfl (qX7_readCounty_0 L (K0.set (d1 := d - 1) (by omega) (tX7_begin L W T ha (by omega)) ?_))
  rintro rv M1 ⟨rfl, k1, k2, k3, F1⟩
  have L1 : Lay M1 la lb pa pb0 a := F1.lay (L.rd ha)
  have C1 : Cty M1 a := L1.crl
  refine qX7_readCounty_5 C1 ⟨d - 1, (fun rv M2 => rv = none ∧ M2 = wi (wi (wi M1 a 0 0) a 5 0) (a + 7) 1 0), by omega, R0.of (by decide +kernel) (Nat.le_of_ble_eq_true rfl) rfl (qX0_clear_0 C1 rfl rfl rfl ⟨rfl, rfl⟩), ?_⟩
  rintro rv M2 ⟨rfl, rfl⟩
  have F2 : Fr (fun b => b = a ∨ b = a + 7) M1 (wi (wi (wi M1 a 0 0) a 5 0) (a + 7) 1 0) := ((Fr.rf.wi (.inl rfl)).wi (.inl rfl)).wi (.inr rfl)
  have T1 : TapeIs M1 n t := ⟨T.1, k2, fun k hk => by rw [F1.i (by omega)]; exact T.2.2 k hk⟩
  refine qX7_readCounty_9 (cty_loop (ctyT n t) ((F1.mono (fun b hb => by omega)).trans (F2.mono (fun b hb => by omega))) hd (n + 1) 0 dEmp 0 _ (by omega) (Nat.le_refl _) dEmp_ok (Nat.le_refl _) ⟨⟨F2.lay L1, ?_, T1.fr F2 (by omega) (by omega), k1.fr F2 (by omega), Nat.zero_le _, ?_⟩, ⟨?_, ?_, fun k hk => absurd hk (Nat.not_lt_zero _), fun k hk => absurd hk (Nat.not_lt_zero _)⟩, trivial, Fr.rf, rfl⟩ ?_ rfl)
  · intro i hi
    rw [F2.j (by omega), F1.j (by omega)]
    exact W i hi
  · rw [wi_at, if_pos ⟨rfl, rfl⟩]; rfl
  · rw [wi_at, if_neg (by omega), wi_at, if_neg (by omega), wi_at, if_pos ⟨rfl, rfl⟩]; rfl
  · rw [wi_at, if_neg (by omega), wi_at, if_pos ⟨rfl, rfl⟩]; rfl
  · rw [F2.i (by omega)]; exact k3
end CTY67
