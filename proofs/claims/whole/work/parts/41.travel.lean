/-! ===== contracts of CountyPrint$Travel ===== -/
/-- where the shots are: the print, the drawers, whether the order is turned, the next hall, tours -/
abbrev TV : Type := Int32 × (Nat → Int32) × Bool × Int32 × Int32
abbrev tp (v : TV) : Int32 := v.1
abbrev td (v : TV) : Nat → Int32 := v.2.1
abbrev tu (v : TV) : Bool := v.2.2.1
abbrev tx (v : TV) : Int32 := v.2.2.2.1
abbrev tt (v : TV) : Int32 := v.2.2.2.2
def TrIs (M : MM) (t : Nat) (v : TV) : Prop := mi M t 0 = tp v ∧ (∀ h, h < 6 → mi M (t + 1) h = td v h) ∧ mi M t 2 = b2i (tu v) ∧ mi M t 3 = tx v ∧ mi M t 4 = tt v
abbrev inT (t : Nat) : Nat → Prop := fun b => b = t ∨ b = t + 1
theorem TrIs.fr {S : Nat → Prop} {M M1 : MM} {t : Nat} {v : TV} (h : TrIs M t v) (F : Fr S M M1) (h1 : ¬ S t) (h2 : ¬ S (t + 1)) : TrIs M1 t v := by
  unfold TrIs at h ⊢
  rw [F.i h1, F.i h2]
  exact h
def dOr (dr : Nat → Int32) : Nat → Int32
  | 0 => 0
  | k + 1 => dOr dr k ||| dr k
/-- whether hall i's drawer has shot s -/
def tHas (dr : Nat → Int32) (i s : Int32) : Bool := sIn i 6 && decide (((dr i.toNatClampNeg >>> (s &&& 31)) &&& 1) = 1)
def tHold (dr : Nat → Int32) (s : Int32) : Nat → Nat → Int32
  | 0, _ => -1
  | j + 1, i => if tHas dr (nI i) s then nI i else tHold dr s j (i + 1)
section TX10
variable {g : GG} {d : Nat} {M : MM} {a t n : Nat} {v : TV}
theorem tX10_begin {f : Int32} (C : Trv M t) : R0 g YX10_begin d [.ref t, .int f] M (fun rv M1 => rv = none ∧ TrIs M1 t (f, fun _ => 0, false, 0, 0) ∧ Fr (inT t) M M1) := by
  refine R0.of (by decide +kernel) (Nat.le_of_ble_eq_true rfl) rfl (qX10_begin_0 C rfl ?_)
  refine up0 (p := fun i => ∀ M1, Fr (inT t) M M1 → mi M1 t 0 = f → (∀ h, h < i → mi M1 (t + 1) h = 0) → E0 g YX10_begin d 7 [(0, .ref t), (2, .int (nI i))] [] M1 _) 6 (fun M1 F h1 h2 => ?_) (fun i hi ih M1 F h1 h2 => ?_) _ (Fr.rf.wi (Or.inl rfl)) (mu_s _ _ _ _) (fun h hh => absurd hh (Nat.not_lt_zero _))
  · refine qX10_begin_7 (F.trv C) rfl rfl rfl rfl (fun c => absurd (by decide) c) (fun _ => ⟨rfl, ?_, ((F.wi (Or.inl rfl)).wi (Or.inl rfl)).wi (Or.inl rfl)⟩) (fun c => absurd (by decide) c)
    refine ⟨?_, fun h hh => ?_, ?_, ?_, ?_⟩
    · simp [wi_at, h1]
    · simp [wi_at, h2 h hh]
    · simp [wi_at, b2i]
    · simp [wi_at]
    · simp [wi_at]
  · have c6 : ¬ (6 : Int32) ≤ nI i := ngl 6 rfl (by decide) hi
    refine qX10_begin_7 (F.trv C) rfl rfl rfl rfl (fun _ => vi hi (by decide)) (fun c => absurd c c6) (fun _ => ?_)
    rw [nI_1, nI_clamp (by omega)]
    refine ih _ (F.wi (Or.inr rfl)) ?_ (fun h hh => ?_)
    · simp [wi_at, h1]
    · by_cases e : h = i
      · simp [wi_at, e]
      · simp [wi_at, e, h2 h (by omega)]
theorem tX10_copy (C : Trv M t) (C1 : Trv M a) (hv : TrIs M a v) (ha : a ≠ t ∧ a ≠ t + 1 ∧ a + 1 ≠ t) : R0 g YX10_copy d [.ref t, .ref a] M (fun rv M1 => rv = none ∧ TrIs M1 t v ∧ Fr (inT t) M M1) := by
  have na : ¬ inT t a := fun q => by rcases q with q | q <;> omega
  have na1 : ¬ inT t (a + 1) := fun q => by rcases q with q | q <;> omega
  refine R0.of (by decide +kernel) (Nat.le_of_ble_eq_true rfl) rfl (qX10_copy_0 C C1 rfl ?_)
  refine up0 (p := fun i => ∀ M1, Fr (inT t) M M1 → mi M1 t 0 = tp v → (∀ h, h < i → mi M1 (t + 1) h = td v h) → E0 g YX10_copy d 10 [(0, .ref t), (1, .ref a), (2, .int (nI i))] [] M1 _) 6 (fun M1 F h1 h2 => ?_) (fun i hi ih M1 F h1 h2 => ?_) _ (Fr.rf.wi (Or.inl rfl)) ((mu_s _ _ _ _).trans hv.1) (fun h hh => absurd hh (Nat.not_lt_zero _))
  · have ea : mi M1 a = mi M a := F.i na
    have e2 := hv.2.2.1
    have e3 := hv.2.2.2.1
    have e4 := hv.2.2.2.2
    refine qX10_copy_10 (F.trv C) (F.trv C1) rfl rfl rfl rfl (fun _ => by rw [ea, e2]; exact nb) (fun c => absurd (by decide) c) (fun c => absurd (by decide) c) (fun _ => ⟨rfl, ?_, ((F.wi (Or.inl rfl)).wi (Or.inl rfl)).wi (Or.inl rfl)⟩) (fun c => absurd (by decide) c)
    refine ⟨?_, fun h hh => ?_, ?_, ?_, ?_⟩
    · simp [wi_at, h1]
    · simp [wi_at, h2 h hh]
    · simp [wi_at, ha.1, ea, e2]
    · simp [wi_at, ha.1, ea, e3]
    · simp [wi_at, ha.1, ea, e4]
  · have c6 : ¬ (6 : Int32) ≤ nI i := ngl 6 rfl (by decide) hi
    have ea : mi M1 (a + 1) = mi M (a + 1) := F.i na1
    refine qX10_copy_10 (F.trv C) (F.trv C1) rfl rfl rfl rfl (fun c => absurd c c6) (fun _ => vi hi (by decide)) (fun _ => vi hi (by decide)) (fun c => absurd c c6) (fun _ => ?_)
    rw [nI_1, nI_clamp (by omega)]
    refine ih _ (F.wi (Or.inr rfl)) ?_ (fun h hh => ?_)
    · simp [wi_at, h1]
    · by_cases e : h = i
      · subst e; simp [wi_at, ea, hv.2.1 h hi]
      · simp [wi_at, e, h2 h (by omega)]
theorem tX10_swapPlace {x : Int32} (C : Trv M t) (C1 : Cty M a) (hv : mi M t 2 = b2i (tu v)) : R0 g YX10_swapPlace d [.ref t, .ref a, .int x] M (Ans (if tu v then (mi M a 5 - 1) - x else x) M) := by
  refine R0.of (by decide +kernel) (Nat.le_of_ble_eq_true rfl) rfl (qX10_swapPlace_0 C C1 (fun c => ?_) (fun c => ?_))
  · rw [hv, b2i_z] at c
    rw [c]; exact ⟨rfl, rfl⟩
  · rw [hv, b2i_n] at c
    rw [c]; exact ⟨rfl, rfl⟩
theorem tX10_drawn (C : Trv M t) : R0 g YX10_drawn d [.ref t] M (Ans (dOr (mi M (t + 1)) 6) M) := by
  refine R0.of (by decide +kernel) (Nat.le_of_ble_eq_true rfl) rfl (qX10_drawn_0 ?_)
  refine up0 (p := fun i => E0 g YX10_drawn d 4 [(0, .ref t), (1, .int (dOr (mi M (t + 1)) i)), (2, .int (nI i))] [] M _) 6 ?_ (fun i hi ih => ?_)
  · exact qX10_drawn_4 C (fun c => absurd (by decide) c) (fun _ => ⟨rfl, rfl⟩) (fun c => absurd (by decide) c)
  · have c6 : ¬ (6 : Int32) ≤ nI i := ngl 6 rfl (by decide) hi
    refine qX10_drawn_4 C (fun _ => vi hi (by decide)) (fun c => absurd c c6) (fun _ => ?_)
    rw [nI_1, nI_clamp (by omega)]; exact ih
theorem tX10_holds {i s : Int32} (C : Trv M t) : R0 g YX10_holds d [.ref t, .int i, .int s] M (Ans (b2i (tHas (mi M (t + 1)) i s)) M) := by
  refine R0.of (by decide +kernel) (Nat.le_of_ble_eq_true rfl) rfl (qX10_holds_0 C (fun c1 c2 => ?_) (fun c => ?_) (fun c1 c2 => ?_) (fun c1 c2 c3 => ?_) (fun c1 c2 c3 => ?_))
  · obtain ⟨j, hj, rfl⟩ := nI_of c1
    rw [gel (c := 6) 6 rfl (by decide) hj] at c2
    exact vi (by omega) (by decide)
  · have : tHas (mi M (t + 1)) i s = false := by simp [tHas, sIn, c]
    rw [this]; exact ⟨rfl, rfl⟩
  · have : tHas (mi M (t + 1)) i s = false := by simp [tHas, sIn, c2]
    rw [this]; exact ⟨rfl, rfl⟩
  · have : tHas (mi M (t + 1)) i s = false := by simp [tHas, sIn, c3]
    rw [this]; exact ⟨rfl, rfl⟩
  · have : tHas (mi M (t + 1)) i s = true := by simp [tHas, sIn, c1, c2, c3]
    rw [this]; exact ⟨rfl, rfl⟩
theorem tX10_holderOf {s : Int32} (C : Trv M t) (hd : 1 ≤ d) : R0 g YX10_holderOf d [.ref t, .int s] M (Ans (tHold (mi M (t + 1)) s 6 0) M) := by
  refine R0.of (by decide +kernel) (Nat.le_of_ble_eq_true rfl) rfl (qX10_holderOf_0 ?_)
  refine up0 (p := fun i => E0 g YX10_holderOf d 2 [(0, .ref t), (1, .int s), (2, .int (nI i))] [] M (Ans (tHold (mi M (t + 1)) s (6 - i) i) M)) 6 ?_ (fun i hi ih => ?_)
  · exact qX10_holderOf_2 C (fun _ => ⟨rfl, rfl⟩) (fun c => absurd (by decide) c)
  · have c6 : ¬ (6 : Int32) ≤ nI i := ngl 6 rfl (by decide) hi
    have e : 6 - i = (6 - (i + 1)) + 1 := by omega
    rw [e, tHold]
    refine qX10_holderOf_2 C (fun c => absurd c c6) (fun _ => K0.ans (d1 := d - 1) (by omega) (tX10_holds C) (qX10_holderOf_14 (fun c => ?_) (fun c => ?_)))
    · rw [b2i_z] at c
      rw [c, nI_1]; exact ih
    · rw [b2i_n] at c
      rw [c]; exact ⟨rfl, rfl⟩
theorem tX10_turnRound (C : Trv M t) (hv : TrIs M t v) : R0 g YX10_turnRound d [.ref t] M (fun rv M1 => rv = none ∧ TrIs M1 t (tp v, td v, !tu v, tx v, tt v) ∧ Fr (inT t) M M1) := by
  have e2 := hv.2.2.1
  refine R0.of (by decide +kernel) (Nat.le_of_ble_eq_true rfl) rfl (qX10_turnRound_0 C rfl rfl (fun c => ⟨rfl, ?_, Fr.rf.wi (Or.inl rfl)⟩) (fun c => ⟨rfl, ?_, Fr.rf.wi (Or.inl rfl)⟩))
  · rw [e2, b2i_n] at c
    refine ⟨?_, fun h hh => ?_, ?_, ?_, ?_⟩ <;> simp [wi_at, hv.1, hv.2.1, hv.2.2.2.1, hv.2.2.2.2, c, b2i]
    exact hv.2.1 h hh
  · rw [e2, b2i_z] at c
    refine ⟨?_, fun h hh => ?_, ?_, ?_, ?_⟩ <;> simp [wi_at, hv.1, hv.2.1, hv.2.2.2.1, hv.2.2.2.2, c, b2i]
    exact hv.2.1 h hh
end TX10
/-! ===== the deeds ===== -/
/-- what a hall does with what comes: tk is what it takes out -/
def vShow (v : TV) (hl : Nat) (tk : Int32) : TV := (tp v &&& (tk ^^^ (-1)), (fun k => if k = hl then td v k ||| tk else td v k), tu v, tx v, tt v)
/-- the next hall, behind a show: h halls -/
def vNext (v : TV) (h : Nat) : TV :=
  let q := (if tu v then (nI h - 1) - tx v else tx v) + 1
  if q < nI h then (tp v, td v, tu v, (if tu v then (nI h - 1) - q else q), tt v) else (tp v, td v, tu v, (if tu v then (nI h - 1) - 0 else 0), tt v + 1)
def vGive (v : TV) (hl : Nat) (k : Int32) : TV := (tp v ||| ((1 : Int32) <<< (k &&& 31)), (fun j => if j = hl then td v j &&& (((1 : Int32) <<< (k &&& 31)) ^^^ (-1)) else td v j), tu v, tx v, tt v)
def vHand (v : TV) (hl ho : Nat) (k : Int32) : TV := (tp v, (fun j => if j = ho then (if ho = hl then td v j &&& (((1 : Int32) <<< (k &&& 31)) ^^^ (-1)) else td v j) ||| ((1 : Int32) <<< (k &&& 31)) else if j = hl then td v j &&& (((1 : Int32) <<< (k &&& 31)) ^^^ (-1)) else td v j), tu v, tx v, tt v)
section TX10b
variable {g : GG} {d : Nat} {M : MM} {a t n h : Nat} {v : TV}
theorem tX10_showAt {hl : Nat} (C : Trv M t) (C1 : Cty M a) (hv : TrIs M t v) (hn : mi M a 0 = nI n) (h10 : n ≤ 10) (hh : mi M a 5 = nI h) (h6 : h ≤ 6) (h1 : hl < h) (hd : 4 ≤ d) : R0 g YX10_showAt d [.ref t, .ref a, .int (nI hl)] M (fun rv M1 => rv = none ∧ TrIs M1 t (vShow v hl (sTk n (mi M (a + 6) hl) (sHat (mi M (a + 2)) (mi M (a + 11)) hl (tp v) n).1 (tp v))) ∧ Fr (inT t) M M1) := by
  refine R0.of (by decide +kernel) (Nat.le_of_ble_eq_true rfl) rfl (qX10_showAt_0 C C1 (fun c => absurd c (nI_pos (by omega))) (fun _ c => absurd c (ngl 6 rfl (by decide) (by omega))) (fun _ _ => K0.ans (d1 := d - 1) (by omega) (tX0_takenOut C1 hn h10 hh h6 h1 (by omega)) ?_))
  refine qX10_showAt_19 C rfl rfl (vi (by omega) (by decide)) ⟨rfl, ?_, (Fr.rf.wi (Or.inr rfl)).wi (Or.inl rfl)⟩
  rw [hv.1, nI_clamp (by omega)]
  refine ⟨?_, fun k hk => ?_, ?_, ?_, ?_⟩
  · simp [wi_at, vShow, tp, td, tu, tx, tt, hv.1]
  · by_cases e : k = hl
    · subst e; simp [wi_at, vShow, tp, td, tu, tx, tt, hv.2.1 k hk]
    · simp [wi_at, vShow, tp, td, tu, tx, tt, e, hv.2.1 k hk]
  · simp [wi_at, vShow, tp, td, tu, tx, tt, hv.2.2.1]
  · simp [wi_at, vShow, tp, td, tu, tx, tt, hv.2.2.2.1]
  · simp [wi_at, vShow, tp, td, tu, tx, tt, hv.2.2.2.2]
theorem tX10_showNext {hl : Nat} (C : Trv M t) (C1 : Cty M a) (hv : TrIs M t v) (hx : tx v = nI hl) (hn : mi M a 0 = nI n) (h10 : n ≤ 10) (hh : mi M a 5 = nI h) (h6 : h ≤ 6) (h1 : hl < h) (ha : ¬ inT t a) (hd : 5 ≤ d) : R0 g YX10_showNext d [.ref t, .ref a] M (fun rv M1 => rv = some (.int (tp v &&& (sTk n (mi M (a + 6) hl) (sHat (mi M (a + 2)) (mi M (a + 11)) hl (tp v) n).1 (tp v) ^^^ (-1)))) ∧ TrIs M1 t (vNext (vShow v hl (sTk n (mi M (a + 6) hl) (sHat (mi M (a + 2)) (mi M (a + 11)) hl (tp v) n).1 (tp v))) h) ∧ Fr (inT t) M M1) := by
  generalize htk : sTk n (mi M (a + 6) hl) (sHat (mi M (a + 2)) (mi M (a + 11)) hl (tp v) n).1 (tp v) = tk
  have e3 : mi M t 3 = nI hl := hv.2.2.2.1.trans hx
  refine R0.of (by decide +kernel) (Nat.le_of_ble_eq_true rfl) rfl (qX10_showNext_0 C ?_)
  rw [e3]
  refine K0.set (d1 := d - 1) (by omega) (tX10_showAt C C1 hv hn h10 hh h6 h1 (by omega)) ?_
  rintro rv M1 ⟨rfl, hv1, F⟩
  rw [htk] at hv1
  have C' := F.trv C
  have C1' := F.cty C1
  have eh : mi M1 a 5 = nI h := by rw [F.i ha]; exact hh
  refine qX10_showNext_9 C' (K0.ans (d1 := d - 1) (by omega) (tX10_swapPlace (v := vShow v hl tk) C' C1' hv1.2.2.1) ?_)
  rw [eh, hv1.2.2.2.1]
  have eu : tu (vShow v hl tk) = tu v := rfl
  have ex : tx (vShow v hl tk) = tx v := rfl
  refine qX10_showNext_18 C' C1' rfl (fun c => ?_) (fun c => ?_)
  · rw [eh] at c
    refine K0.ans (d1 := d - 1) (by omega) (tX10_swapPlace (v := vShow v hl tk) C' C1' hv1.2.2.1) ?_
    rw [eh]
    refine qX10_showNext_48 C' rfl C'.o ⟨?_, ?_, F.wi (Or.inl rfl)⟩
    · simp [wi_at, hv1.1, vShow, tp]
    · have en : vNext (vShow v hl tk) h = (tp (vShow v hl tk), td (vShow v hl tk), tu v, (if tu v then (nI h - 1) - ((if tu v then (nI h - 1) - tx v else tx v) + 1) else ((if tu v then (nI h - 1) - tx v else tx v) + 1)), tt v) := by
        unfold vNext; exact if_pos c
      rw [en]
      refine ⟨?_, fun k hk => ?_, ?_, ?_, ?_⟩
      · simp [wi_at, hv1.1]
      · simp [wi_at, hv1.2.1 k hk]
      · simp [wi_at, hv1.2.2.1, eu]
      · simp [wi_at, eu, ex]
      · simp [wi_at, hv1.2.2.2.2, vShow, tt]
  · rw [eh] at c
    have C2 := (Fr.wi (k := 4) (v := mi M1 t 4 + 1) F (Or.inl rfl)).trv C
    have C12 := (Fr.wi (k := 4) (v := mi M1 t 4 + 1) F (Or.inl rfl)).cty C1
    refine K0.ans (d1 := d - 1) (by omega) (tX10_swapPlace (v := vShow v hl tk) C2 C12 (by simp [wi_at, hv1.2.2.1])) ?_
    have eh2 : mi (wi M1 t 4 (mi M1 t 4 + 1)) a 5 = nI h := by
      have : ¬ a = t := fun q => ha (Or.inl q)
      simp [wi_at, this, eh]
    rw [eh2]
    refine qX10_showNext_48 C2 rfl C2.o ⟨?_, ?_, (F.wi (Or.inl rfl)).wi (Or.inl rfl)⟩
    · simp [wi_at, hv1.1, vShow, tp]
    · have en : vNext (vShow v hl tk) h = (tp (vShow v hl tk), td (vShow v hl tk), tu v, (if tu v then (nI h - 1) - 0 else 0), tt v + 1) := by
        unfold vNext; exact if_neg c
      rw [en]
      refine ⟨?_, fun k hk => ?_, ?_, ?_, ?_⟩
      · simp [wi_at, hv1.1]
      · simp [wi_at, hv1.2.1 k hk]
      · simp [wi_at, hv1.2.2.1, eu]
      · simp [wi_at, eu]
      · simp [wi_at, hv1.2.2.2.2, vShow, tt]
theorem tHas_eq {dr dr2 : Nat → Int32} (h : ∀ k, k < 6 → dr k = dr2 k) (i s : Int32) : tHas dr i s = tHas dr2 i s := by
  unfold tHas
  rw [show (6 : Int32) = nI 6 from rfl]
  cases e : sIn i (nI 6) with
  | false => rw [Bool.false_and, Bool.false_and]
  | true =>
    obtain ⟨k, hk, rfl⟩ := sIn_of (n := 6) (by omega) e
    rw [nI_clamp (by omega), h k hk]
theorem tX10_giveBack {hl : Nat} {k : Int32} (C : Trv M t) (hv : TrIs M t v) (h1 : hl < 6) (hs : tHas (td v) (nI hl) k = true) (hd : 1 ≤ d) : R0 g YX10_giveBack d [.ref t, .int (nI hl), .int k] M (fun rv M1 => rv = none ∧ TrIs M1 t (vGive v hl k) ∧ Fr (inT t) M M1) := by
  refine R0.of (by decide +kernel) (Nat.le_of_ble_eq_true rfl) rfl (qX10_giveBack_0 C (K0.ans (d1 := d - 1) (by omega) (tX10_holds C) ?_))
  rw [tHas_eq hv.2.1, hs]
  refine qX10_giveBack_6 C rfl rfl (fun _ => vi h1 (by decide)) (fun c => absurd c (by decide)) (fun _ => ⟨rfl, ?_, (Fr.rf.wi (Or.inr rfl)).wi (Or.inl rfl)⟩)
  rw [nI_clamp (by omega)]
  refine ⟨?_, fun j hj => ?_, ?_, ?_, ?_⟩
  · simp [wi_at, vGive, tp, td, tu, tx, tt, hv.1]
  · by_cases e : j = hl
    · subst e; simp [wi_at, vGive, tp, td, tu, tx, tt, hv.2.1 j hj]
    · simp [wi_at, vGive, tp, td, tu, tx, tt, e, hv.2.1 j hj]
  · simp [wi_at, vGive, tp, td, tu, tx, tt, hv.2.2.1]
  · simp [wi_at, vGive, tp, td, tu, tx, tt, hv.2.2.2.1]
  · simp [wi_at, vGive, tp, td, tu, tx, tt, hv.2.2.2.2]
theorem tX10_handOver {hl ho : Nat} {k : Int32} (C : Trv M t) (hv : TrIs M t v) (h1 : hl < 6) (h2 : ho < 6) (hs : tHas (td v) (nI hl) k = true) (hd : 1 ≤ d) : R0 g YX10_handOver d [.ref t, .int (nI hl), .int (nI ho), .int k] M (fun rv M1 => rv = none ∧ TrIs M1 t (vHand v hl ho k) ∧ Fr (inT t) M M1) := by
  refine R0.of (by decide +kernel) (Nat.le_of_ble_eq_true rfl) rfl (qX10_handOver_0 C (K0.ans (d1 := d - 1) (by omega) (tX10_holds C) ?_))
  rw [tHas_eq hv.2.1, hs]
  refine qX10_handOver_6 C rfl rfl (fun _ _ _ => vi h1 (by decide)) (fun _ _ _ => vi h2 (by decide)) (fun c => absurd c (by decide)) (fun _ c => absurd c (nI_pos (by omega))) (fun _ _ c => absurd c (ngl 6 rfl (by decide) h2)) (fun _ _ _ => ⟨rfl, ?_, (Fr.rf.wi (Or.inr rfl)).wi (Or.inr rfl)⟩)
  rw [nI_clamp (by omega), nI_clamp (by omega)]
  refine ⟨?_, fun j hj => ?_, ?_, ?_, ?_⟩
  · simp [wi_at, vHand, tp, td, tu, tx, tt, hv.1]
  · by_cases e : j = ho
    · subst e
      by_cases e2 : j = hl
      · subst e2; simp [wi_at, vHand, tp, td, tu, tx, tt, hv.2.1 j hj]
      · simp [wi_at, vHand, tp, td, tu, tx, tt, e2, hv.2.1 j hj]
    · by_cases e2 : j = hl
      · subst e2; simp [wi_at, vHand, tp, td, tu, tx, tt, e, hv.2.1 j hj]
      · simp [wi_at, vHand, tp, td, tu, tx, tt, e, e2, hv.2.1 j hj]
  · simp [wi_at, vHand, tp, td, tu, tx, tt, hv.2.2.1]
  · simp [wi_at, vHand, tp, td, tu, tx, tt, hv.2.2.2.1]
  · simp [wi_at, vHand, tp, td, tu, tx, tt, hv.2.2.2.2]
end TX10b
