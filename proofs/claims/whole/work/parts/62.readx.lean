/-! ===== the class's reader: laws ===== -/
theorem SegIs.pres {M M1 : MM} {a : Nat} : ∀ {i cc}, SegIs M a i cc → (∀ j, i ≤ j → j < i + cc.length → mi M1 (a + 1) j = mi M (a + 1) j) → SegIs M1 a i cc
  | _, [], _, _ => trivial
  | i, c :: cc, q, h => ⟨by rw [h i (Nat.le_refl _) (by simp)]; exact q.1, SegIs.pres q.2 (fun j h1 h2 => h j (by omega) (by simp; omega))⟩
theorem SegIs.app {M : MM} {a : Nat} : ∀ {i c1 c2}, SegIs M a i c1 → SegIs M a (i + c1.length) c2 → SegIs M a i (c1 ++ c2)
  | _, [], _, _, h => h
  | i, c :: c1, c2, q, h => ⟨q.1, SegIs.app q.2 (by rw [show i + 1 + c1.length = i + (c :: c1).length by simp; omega]; exact h)⟩
abbrev inR (rl : Nat) : Nat → Prop := fun b => b = 25 ∨ b = 28 ∨ b = rl + 7 ∨ b = rl + 8
def RdOk (M : MM) (la lb pa pb0 rl n : Nat) (t : Nat → Nat) (p m : Nat) : Prop := Lay M la lb pa pb0 rl ∧ WdOk M ∧ TapeIs M n t ∧ TkC M (lexT n t p) ∧ p ≤ n ∧ mi M (rl + 7) 1 = nI m
def CInv (la lb pa pb0 rl n : Nat) (t : Nat → Nat) (M M1 : MM) (m p : Nat) (cc : List Int32) : Prop := Fr (inR rl) M M1 ∧ RdOk M1 la lb pa pb0 rl n t p (m + cc.length) ∧ (∀ j, j < m → mi M1 (rl + 7 + 1) j = mi M (rl + 7 + 1) j) ∧ SegIs M1 (rl + 7) m cc ∧ mi M1 28 2 = mi M 28 2
def CRes (la lb pa pb0 rl n : Nat) (t : Nat → Nat) (M : MM) (m : Nat) (r : PRs) : Option Value → MM → Prop := fun rv M1 => (rst r = 0 ∧ rv = some (.int 1) ∧ CInv la lb pa pb0 rl n t M M1 m (rpo r) (rcc r)) ∨ (rst r = 1 ∧ rv = some (.int 0) ∧ mi M1 28 2 = rfa r ∧ Fr (inR rl) M M1)
theorem lexT_ty {n : Nat} {t : Nat → Nat} {p : Nat} : kty (lexT n t p) ≤ 4 := lexA_ty.1
theorem lexT_sg {M : MM} {n : Nat} {t : Nat → Nat} {p : Nat} (T : TapeIs M n t) : ksg (lexT n t p) < 127 := lexA_sg (fun k hk => (T.2.2 k hk).2)
theorem lexT_at1 {n : Nat} {t : Nat → Nat} {p : Nat} (h : p ≤ n) (hk : kty (lexT n t p) ≠ 0) : kat (lexT n t p) < n := by
  have e : kat (lexT n t p) = skipB t (n - p) p := by unfold lexT; rw [lexA_at]
  have h3 := lexA_ty (n := n) (t := t) (a := skipB t (n - p) p)
  rcases Nat.lt_or_ge (skipB t (n - p) p) n with q | q
  · omega
  · exact absurd (h3.2.mpr q) hk
section RX
variable {g : GG} {d : Nat} {M M1 M2 : MM} {la lb pa pb0 rl n m p : Nat} {t : Nat → Nat} {cc : List Int32}
theorem RdOk.L (h : RdOk M la lb pa pb0 rl n t p m) : Lay M la lb pa pb0 rl := h.1
theorem RdOk.rlr (h : RdOk M la lb pa pb0 rl n t p m) : rl = 1 ∨ rl = 13 := h.1.2.2.2.2.2.2.2.2.2.2
theorem CInv.start (h : RdOk M la lb pa pb0 rl n t p m) : CInv la lb pa pb0 rl n t M M m p [] := ⟨Fr.rf, h, fun _ _ => rfl, trivial, rfl⟩
theorem CInv.trans {p2 : Nat} {c2 : List Int32} (h : CInv la lb pa pb0 rl n t M M1 m p cc) (h2 : CInv la lb pa pb0 rl n t M1 M2 (m + cc.length) p2 c2) : CInv la lb pa pb0 rl n t M M2 m p2 (cc ++ c2) := by
  obtain ⟨a1, a2, a3, a4, a5⟩ := h
  obtain ⟨b1, b2, b3, b4, b5⟩ := h2
  refine ⟨a1.trans b1, ?_, fun j hj => (b3 j (by omega)).trans (a3 j hj), SegIs.app (a4.pres (fun j h1 h2 => b3 j h2)) b4, b5.trans a5⟩
  rw [List.length_append, ← Nat.add_assoc]
  exact b2
theorem cAdv (h : RdOk M la lb pa pb0 rl n t p m) (hd : 2 ≤ d) : R0 g YX9_advance d [.ref 25] M (fun rv M1 => rv = none ∧ RdOk M1 la lb pa pb0 rl n t (nxT n t p) m ∧ Fr in25 M M1) := by
  obtain ⟨L, W, T, K, hp, hm⟩ := h
  have hrl := L.2.2.2.2.2.2.2.2.2.2
  have hn := nxT_le (t := t) hp
  refine RT.to (tX9_advance (g := g) (d := d) (p := nxT n t p) L W T hn.2.1 K.2.1 hd) (fun rv M1 q => ?_)
  obtain ⟨rfl, K1, S1, F1⟩ := q
  refine ⟨rfl, ⟨F1.lay L, fun i hi => by rw [F1.j (show ¬ in25 26 by omega)]; exact W i hi, ⟨T.1, S1, fun k hk => by rw [F1.i (show ¬ in25 27 by omega)]; exact T.2.2 k hk⟩, K1, hn.2.1, by rw [F1.i (show ¬ in25 (rl + 7) by omega)]; exact hm⟩, F1⟩
variable {Y : YY} {pc : Nat} {lv : List (Nat × Value)} {st : List Value} {P : Option Value → MM → Prop}
theorem K0.adv (h : CInv la lb pa pb0 rl n t M M1 m p cc) (hd : 3 ≤ d) (k : ∀ M2, CInv la lb pa pb0 rl n t M M2 m (nxT n t p) cc → E0 g Y d pc lv st M2 P) : K0 g Y YX9_advance d pc [.ref 25] lv st M1 P := by
  obtain ⟨a1, a2, a3, a4, a5⟩ := h
  have hrl := a2.rlr
  refine K0.set (d1 := d - 1) (by omega) (cAdv a2 (by omega)) ?_
  rintro rv M2 ⟨rfl, r2, F2⟩
  have e8 : mi M2 (rl + 7 + 1) = mi M1 (rl + 7 + 1) := F2.i (by omega)
  exact k M2 ⟨a1.trans (F2.mono (fun b hb => .inl hb)), r2, fun j hj => by rw [e8]; exact a3 j hj, a4.to e8, by rw [F2.i (by omega)]; exact a5⟩
theorem tX2_add {a : Nat} {c : Int32} (C : Lws M a) (hm : mi M a 1 = nI m) (h : m < 1000) : R0 g YX2_add d [.ref a, .int c] M (fun rv M1 => rv = none ∧ mi M1 a 1 = nI (m + 1) ∧ (∀ j, mi M1 (a + 1) j = if j = m then c else mi M (a + 1) j) ∧ Fr (fun b => b = a ∨ b = a + 1) M M1) := by
  have hn : ¬ (1000 : Int32) ≤ mi M a 1 := by rw [hm]; exact ngl 1000 rfl (by decide) h
  refine R0.of (by decide +kernel) (Nat.le_of_ble_eq_true rfl) rfl (qX2_add_0 C rfl rfl (fun _ => by rw [hm]; exact vi h (by decide)) (fun r => absurd r hn) (fun _ => ⟨rfl, ?_, fun j => ?_, (Fr.rf.wi (.inr rfl)).wi (.inl rfl)⟩))
  · rw [wi_at, if_pos ⟨rfl, rfl⟩, wi_at, if_neg (by omega), hm, nI_1]
  · rw [wi_at, if_neg (by omega), wi_at, hm, nI_clamp (by omega)]
    by_cases e : j = m
    · rw [if_pos ⟨rfl, e⟩, if_pos e]
    · rw [if_neg (fun z => e z.2), if_neg e]
theorem K0.add {c : Int32} (h : CInv la lb pa pb0 rl n t M M1 m p cc) (hlt : m + cc.length < 1000) (hd : 1 ≤ d) (k : ∀ M2, CInv la lb pa pb0 rl n t M M2 m p (cc ++ [c]) → E0 g Y d pc lv st M2 P) : K0 g Y YX2_add d pc [.ref (rl + 7), .int c] lv st M1 P := by
  obtain ⟨a1, a2, a3, a4, a5⟩ := h
  have hrl := a2.rlr
  obtain ⟨L, W, T, K, hp, hm⟩ := a2
  refine K0.set (d1 := d - 1) (by omega) (tX2_add L.crl.a8 hm hlt) ?_
  rintro rv M2 ⟨rfl, s2, q2, F2⟩
  refine k M2 ⟨a1.trans (F2.mono (fun b hb => by omega)), ⟨F2.lay L, fun i hi => by rw [F2.j (by omega)]; exact W i hi, T.fr F2 (by omega) (by omega), K.fr F2 (by omega), hp, ?_⟩, fun j hj => ?_, ?_, by rw [F2.i (by omega)]; exact a5⟩
  · rw [s2, List.length_append]; rfl
  · rw [q2, if_neg (by omega)]; exact a3 j hj
  · refine SegIs.app (a4.pres (fun j h1 h2 => by rw [q2, if_neg (by omega)])) ⟨by rw [q2, if_pos rfl], trivial⟩
theorem tX7_fail {k : Nat} (L : Lay M la lb pa pb0 rl) (K : TkC M (lexT n t p)) : R0 g YX7_fail d [.ref 28, .int (nI k)] M (fun rv M1 => rv = some (.int 0) ∧ mi M1 28 2 = fltC n t k p ∧ Fr (fun b => b = 28) M M1) := by
  refine R0.of (by decide +kernel) (Nat.le_of_ble_eq_true rfl) rfl (qX7_fail_0 L rfl ⟨rfl, ?_, Fr.rf.wi rfl⟩)
  rw [wi_at, if_pos ⟨rfl, rfl⟩, K.1]
  unfold fltC
  rw [show (16 : Int32) = nI 16 from rfl, pk_mul, nI_add]
theorem K0.failX {k : Nat} {r : PRs} (h : CInv la lb pa pb0 rl n t M M1 m p cc) (hr : r = prFl (fltC n t k p)) (hd : 1 ≤ d) (kk : ∀ M2, CRes la lb pa pb0 rl n t M m r (some (.int 0)) M2 → E0 g Y d pc lv (.int 0 :: st) M2 P) : K0 g Y YX7_fail d pc [.ref 28, .int (nI k)] lv st M1 P := by
  obtain ⟨a1, a2, a3, a4, a5⟩ := h
  refine K0.set (d1 := d - 1) (by omega) (tX7_fail a2.L a2.2.2.2.1) ?_
  rintro rv M2 ⟨rfl, q2, F2⟩
  exact kk M2 (.inr ⟨by rw [hr]; rfl, rfl, by rw [q2, hr]; rfl, a1.trans (F2.mono (fun b hb => .inr (.inl hb)))⟩)
theorem K0.sgn {x : Nat} (h : CInv la lb pa pb0 rl n t M M1 m p cc) (hx : x < 127) (hd : 1 ≤ d) (k : E0 g Y d pc lv (.int (b2i (kIs (lexT n t p) x)) :: st) M1 P) : K0 g Y YX9_isSign d pc [.ref 25, .int (nI x)] lv st M1 P :=
  K0.ans (d1 := d - 1) (by omega) (tX9_isSign h.2.1.L h.2.1.2.2.2.1 lexT_ty (lexT_sg h.2.1.2.2.1) hx) k
/-- a part that is read from what is there already -/
theorem K0.sub {Z : YY} {av : List Value} {r : PRs} (h : CInv la lb pa pb0 rl n t M M1 m p cc) (hd : 1 ≤ d) (hc : R0 g Z (d - 1) av M1 (CRes la lb pa pb0 rl n t M1 (m + cc.length) r)) (k0 : rst r = 0 → ∀ M2, CInv la lb pa pb0 rl n t M M2 m (rpo r) (cc ++ rcc r) → E0 g Y d pc lv (.int 1 :: st) M2 P) (k1 : rst r = 1 → ∀ M2, Lay M2 la lb pa pb0 rl → mi M2 28 2 = rfa r → Fr (inR rl) M M2 → E0 g Y d pc lv (.int 0 :: st) M2 P) : K0 g Y Z d pc av lv st M1 P := by
  refine K0.set (d1 := d - 1) (by omega) hc ?_
  rintro rv M2 (⟨q1, rfl, q2⟩ | ⟨q1, rfl, q2, q3⟩)
  · exact k0 q1 M2 (h.trans q2)
  · exact k1 q1 M2 (q3.lay h.2.1.L) q2 (h.1.trans q3)
theorem CRes.fail {r r2 : PRs} {M2 : MM} (h : rst r = 1) (hr : r2 = r) (hf : mi M2 28 2 = rfa r) (F : Fr (inR rl) M M2) : CRes la lb pa pb0 rl n t M m r2 (some (.int 0)) M2 := by
  subst hr
  exact .inr ⟨h, rfl, hf, F⟩
theorem CRes.good {r : PRs} {M2 : MM} (h : rst r = 0) (hr : CInv la lb pa pb0 rl n t M M2 m (rpo r) (rcc r)) : CRes la lb pa pb0 rl n t M m r (some (.int 1)) M2 := .inl ⟨h, rfl, hr⟩
/-! which word -/
theorem kwX_of {l : List Nat} : ∀ j i, (kwX l j i = -1 ∧ ∀ x, i ≤ x → x < i + j → kwL x ≠ l) ∨ ∃ x, i ≤ x ∧ x < i + j ∧ kwL x = l ∧ kwX l j i = nI x
  | 0, i => .inl ⟨rfl, fun x h1 h2 => by omega⟩
  | j + 1, i => by
    unfold kwX
    split
    · exact .inr ⟨i, Nat.le_refl _, by omega, by assumption, rfl⟩
    · rename_i q
      rcases kwX_of (l := l) j (i + 1) with ⟨h1, h2⟩ | ⟨x, h1, h2, h3, h4⟩
      · refine .inl ⟨h1, fun x g1 g2 => ?_⟩
        by_cases e : x = i
        · rw [e]; exact q
        · exact h2 x (by omega) (by omega)
      · exact .inr ⟨x, by omega, by omega, h3, h4⟩
theorem kkw_of (K : TK) : (kkw K = -1 ∧ ∀ x, x < 21 → kW K x = false) ∨ ∃ x, x < 21 ∧ kW K x = true ∧ kkw K = nI x ∧ kty K = 1 := by
  unfold kkw
  by_cases h : kty K = 1
  · rw [if_pos h]
    rcases kwX_of (l := kws K) 21 0 with ⟨h1, h2⟩ | ⟨x, h1, h2, h3, h4⟩
    · refine .inl ⟨h1, fun x hx => ?_⟩
      unfold kW
      have : ¬ kws K = kwL x := fun z => h2 x (Nat.zero_le _) (by omega) z.symm
      simp [this]
    · refine .inr ⟨x, by omega, ?_, h4, h⟩
      unfold kW
      simp [h, h3]
  · rw [if_neg h]
    refine .inl ⟨rfl, fun x _ => ?_⟩
    unfold kW
    simp [h]
theorem kkw_eq {K : TK} {i : Nat} (hi : i < 21) : kkw K = nI i ↔ kW K i = true := by
  rcases kkw_of K with ⟨h1, h2⟩ | ⟨x, h1, h2, h3, -⟩
  · rw [h1, h2 i hi]
    constructor
    · intro z; exact absurd z.symm (nI_m1 (by omega))
    · intro z; exact absurd z (by decide)
  · rw [h3, nI_eq (by omega) (by omega)]
    constructor
    · intro z; rw [← z]; exact h2
    · intro z; exact kW_one h1 hi h2 z
end RX
