/-! ===== contracts of $Plan (deeds), $Mark, $Past, $Draws ===== -/
def pPos (h : Nat) (v : TV) (q : PV) (i : Nat) : Bool := if (q.2.1 i).toInt = 0 then decide (¬ nI h ≤ 0) else if (q.2.1 i).toInt = 3 then true else tHas (td v) (q.2.2.1 i) (q.2.2.2.2 i)
section TX5b
variable {g : GG} {d : Nat} {M : MM} {a t p n h i : Nat} {v : TV} {q : PV}
theorem tX5_isPossible (C : Pln M p) (hq : PlIs M p q) (C2 : Cty M a) (hh : mi M a 5 = nI h) (h6 : h ≤ 6) (C3 : Trv M t) (hv : TrIs M t v) (hi : i < q.1) (hd : 1 ≤ d) : R0 g YX5_isPossible d [.ref p, .int (nI i), .ref a, .ref t] M (Ans (b2i (pPos h v q i)) M) := by
  obtain ⟨h4, e0, ek⟩ := hq
  obtain ⟨e1, e2, e3, e4⟩ := ek i hi
  have ec : (nI i).toNatClampNeg = i := nI_clamp (by omega)
  have lt : nI i < mi M p 0 := by rw [e0, nI_ltI (by omega) (by omega)]; exact hi
  have vv : vp_in (nI i) 40 := vi (by omega) (by decide)
  refine R0.of (by decide +kernel) (Nat.le_of_ble_eq_true rfl) rfl (qX5_isPossible_0 C C2 C3 (fun _ _ => vv) (fun _ _ _ => vv) (fun _ _ _ => vv) (fun c => absurd c (nI_pos (by omega))) (fun _ _ c c2 => ?_) (fun _ _ c c2 => ?_) (fun _ _ c => ?_) (fun _ _ c => ?_) (fun _ c => absurd lt c))
  · rw [ec, e1] at c
    rw [hh] at c2
    simp [Ans, pPos, c, c2, b2i]
  · rw [ec, e1] at c
    rw [hh] at c2
    simp [Ans, pPos, c, c2, b2i]
  · rw [ec, e1] at c
    simp [Ans, pPos, c, b2i]
  · rw [ec, e1] at c
    rw [ec, e2, e4]
    refine K0.ans (d1 := d - 1) (by omega) (tX10_holds C3) (qX5_isPossible_79 (b2i_1 _) ⟨?_, rfl⟩)
    rw [tHas_eq hv.2.1]
    simp [pPos, c.1, c.2]
theorem tX5_followT (C : Pln M p) (hq : PlIs M p q) (C3 : Trv M t) (hv : TrIs M t v) (hi : i < q.1) (hk : (q.2.1 i).toInt = 3) (hd : 1 ≤ d) : R0 g YX5_follow d [.ref p, .int (nI i), .ref a, .ref t] M (fun rv M1 => rv = none ∧ TrIs M1 t (tp v, td v, !tu v, tx v, tt v) ∧ Fr (inT t) M M1) := by
  obtain ⟨h4, e0, ek⟩ := hq
  obtain ⟨e1, e2, e3, e4⟩ := ek i hi
  have ec : (nI i).toNatClampNeg = i := nI_clamp (by omega)
  have lt : nI i < mi M p 0 := by rw [e0, nI_ltI (by omega) (by omega)]; exact hi
  have vv : vp_in (nI i) 40 := vi (by omega) (by decide)
  refine R0.of (by decide +kernel) (Nat.le_of_ble_eq_true rfl) rfl (qX5_follow_0 C C3 (fun _ _ => vv) (fun _ _ _ => vv) (fun _ _ _ => vv) (fun _ _ _ => vv) (fun _ _ _ => vv) (fun _ _ _ => vv) (fun c => absurd c (nI_pos (by omega))) (fun _ _ c => ?_) (fun _ _ c => ?_) (fun _ _ c => ?_) (fun _ _ c => ?_) (fun _ c => absurd lt c))
  · exact K0.set (d1 := d - 1) (by omega) (tX10_turnRound C3 hv) (fun rv M1 r => by obtain ⟨rfl, r2⟩ := r; exact qX5_follow_101 ⟨rfl, r2⟩)
  all_goals (rw [ec, e1] at c; omega)
theorem tX5_followS {hl : Nat} (C : Pln M p) (hq : PlIs M p q) (C1 : Cty M a) (C3 : Trv M t) (hv : TrIs M t v) (hx : tx v = nI hl) (hn : mi M a 0 = nI n) (h10 : n ≤ 10) (hh : mi M a 5 = nI h) (h6 : h ≤ 6) (h1 : hl < h) (ha : ¬ inT t a) (hi : i < q.1) (hk : (q.2.1 i).toInt = 0) (hd : 6 ≤ d) : R0 g YX5_follow d [.ref p, .int (nI i), .ref a, .ref t] M (fun rv M1 => rv = none ∧ TrIs M1 t (vNext (vShow v hl (sTk n (mi M (a + 6) hl) (sHat (mi M (a + 2)) (mi M (a + 11)) hl (tp v) n).1 (tp v))) h) ∧ Fr (inT t) M M1) := by
  obtain ⟨h4, e0, ek⟩ := hq
  obtain ⟨e1, e2, e3, e4⟩ := ek i hi
  have ec : (nI i).toNatClampNeg = i := nI_clamp (by omega)
  have lt : nI i < mi M p 0 := by rw [e0, nI_ltI (by omega) (by omega)]; exact hi
  have vv : vp_in (nI i) 40 := vi (by omega) (by decide)
  refine R0.of (by decide +kernel) (Nat.le_of_ble_eq_true rfl) rfl (qX5_follow_0 C C3 (fun _ _ => vv) (fun _ _ _ => vv) (fun _ _ _ => vv) (fun _ _ _ => vv) (fun _ _ _ => vv) (fun _ _ _ => vv) (fun c => absurd c (nI_pos (by omega))) (fun _ _ c => ?_) (fun _ _ c => ?_) (fun _ _ c => ?_) (fun _ _ c => ?_) (fun _ c => absurd lt c))
  · rw [ec, e1] at c; omega
  · exact K0.set (d1 := d - 1) (by omega) (tX10_showNext C3 C1 hv hx hn h10 hh h6 h1 ha (by omega)) (fun rv M1 r => by obtain ⟨rfl, r2⟩ := r; exact qX5_follow_49 (qX5_follow_101 ⟨rfl, r2⟩))
  all_goals (rw [ec, e1] at c; omega)
theorem tX5_followG {hl : Nat} (C : Pln M p) (hq : PlIs M p q) (C3 : Trv M t) (hv : TrIs M t v) (hi : i < q.1) (hk : (q.2.1 i).toInt = 1) (hg : q.2.2.1 i = nI hl) (h1 : hl < 6) (hs : tHas (td v) (nI hl) (q.2.2.2.2 i) = true) (hd : 2 ≤ d) : R0 g YX5_follow d [.ref p, .int (nI i), .ref a, .ref t] M (fun rv M1 => rv = none ∧ TrIs M1 t (vGive v hl (q.2.2.2.2 i)) ∧ Fr (inT t) M M1) := by
  obtain ⟨h4, e0, ek⟩ := hq
  obtain ⟨e1, e2, e3, e4⟩ := ek i hi
  have ec : (nI i).toNatClampNeg = i := nI_clamp (by omega)
  have lt : nI i < mi M p 0 := by rw [e0, nI_ltI (by omega) (by omega)]; exact hi
  have vv : vp_in (nI i) 40 := vi (by omega) (by decide)
  refine R0.of (by decide +kernel) (Nat.le_of_ble_eq_true rfl) rfl (qX5_follow_0 C C3 (fun _ _ => vv) (fun _ _ _ => vv) (fun _ _ _ => vv) (fun _ _ _ => vv) (fun _ _ _ => vv) (fun _ _ _ => vv) (fun c => absurd c (nI_pos (by omega))) (fun _ _ c => ?_) (fun _ _ c => ?_) (fun _ _ c => ?_) (fun _ _ c => ?_) (fun _ c => absurd lt c))
  · rw [ec, e1] at c; omega
  · rw [ec, e1] at c; omega
  · rw [ec, e2, e4, hg]
    exact K0.set (d1 := d - 1) (by omega) (tX10_giveBack C3 hv h1 hs (by omega)) (fun rv M1 r => by obtain ⟨rfl, r2⟩ := r; exact qX5_follow_69 (qX5_follow_101 ⟨rfl, r2⟩))
  · rw [ec, e1] at c; omega
theorem tX5_followH {hl ho : Nat} (C : Pln M p) (hq : PlIs M p q) (C3 : Trv M t) (hv : TrIs M t v) (hi : i < q.1) (hk : (q.2.1 i).toInt = 2) (hg : q.2.2.1 i = nI hl) (h1 : hl < 6) (hgo : q.2.2.2.1 i = nI ho) (h2 : ho < 6) (hs : tHas (td v) (nI hl) (q.2.2.2.2 i) = true) (hd : 2 ≤ d) : R0 g YX5_follow d [.ref p, .int (nI i), .ref a, .ref t] M (fun rv M1 => rv = none ∧ TrIs M1 t (vHand v hl ho (q.2.2.2.2 i)) ∧ Fr (inT t) M M1) := by
  obtain ⟨h4, e0, ek⟩ := hq
  obtain ⟨e1, e2, e3, e4⟩ := ek i hi
  have ec : (nI i).toNatClampNeg = i := nI_clamp (by omega)
  have lt : nI i < mi M p 0 := by rw [e0, nI_ltI (by omega) (by omega)]; exact hi
  have vv : vp_in (nI i) 40 := vi (by omega) (by decide)
  refine R0.of (by decide +kernel) (Nat.le_of_ble_eq_true rfl) rfl (qX5_follow_0 C C3 (fun _ _ => vv) (fun _ _ _ => vv) (fun _ _ _ => vv) (fun _ _ _ => vv) (fun _ _ _ => vv) (fun _ _ _ => vv) (fun c => absurd c (nI_pos (by omega))) (fun _ _ c => ?_) (fun _ _ c => ?_) (fun _ _ c => ?_) (fun _ _ c => ?_) (fun _ c => absurd lt c))
  · rw [ec, e1] at c; omega
  · rw [ec, e1] at c; omega
  · rw [ec, e1] at c; omega
  · rw [ec, e2, e3, e4, hg, hgo]
    exact K0.set (d1 := d - 1) (by omega) (tX10_handOver C3 hv h1 h2 hs (by omega)) (fun rv M1 r => by obtain ⟨rfl, r2⟩ := r; exact qX5_follow_94 (qX5_follow_101 ⟨rfl, r2⟩))
end TX5b
section TX3
variable {g : GG} {d : Nat} {M : MM} {t p s m : Nat} {v : TV} {q : PV} {w : SV}
abbrev inM (m : Nat) : Nat → Prop := fun b => m ≤ b ∧ b ≤ m + 10
theorem tX3_lay (C : Mrk M m) (Ct : Trv M t) (Cp : Pln M p) (Cs : Sgt M s) (hv : TrIs M t v) (hq : PlIs M p q) (hw : SgIs M s w) (lt : t + 1 < m) (lp : p + 4 < m) (ls : s + 2 < m) (hd : 1 ≤ d) : R0 g YX3_lay d [.ref m, .ref t, .ref p, .ref s] M (fun rv M1 => rv = none ∧ mi M1 m 0 = 1 ∧ TrIs M1 (m + 1) v ∧ PlIs M1 (m + 3) q ∧ SgIs M1 (m + 8) w ∧ Fr (inM m) M M1) := by
  refine R0.of (by decide +kernel) (Nat.le_of_ble_eq_true rfl) rfl (qX3_lay_0 C (K0.set (d1 := d - 1) (by omega) (tX10_copy C.a1 Ct hv ⟨by omega, by omega, by omega⟩) ?_))
  rintro rv M1 ⟨rfl, v1, F1⟩
  have G1 : Fr (inM m) M M1 := F1.mono (fun b hb => by rcases hb with rfl | rfl <;> constructor <;> omega)
  have q1 : PlIs M1 p q := hq.fr F1 (fun k hk hb => by rcases hb with hb | hb <;> omega)
  have w1 : SgIs M1 s w := hw.fr F1 (fun hb => by rcases hb with hb | hb <;> omega) (fun hb => by rcases hb with hb | hb <;> omega) (fun hb => by rcases hb with hb | hb <;> omega)
  refine qX3_lay_8 (F1.mrk C) (K0.set (d1 := d - 1) (by omega) (tX5_copy (F1.mrk C).a2 (F1.pln Cp) q1 (fun i j _ _ => by omega)) ?_)
  rintro rv M2 ⟨rfl, q2, F2⟩
  have G2 : Fr (inM m) M M2 := G1.trans (F2.mono (fun b hb => by rcases hb with rfl | rfl | rfl | rfl | rfl <;> constructor <;> omega))
  have v2 : TrIs M2 (m + 1) v := v1.fr F2 (fun hb => by rcases hb with hb | hb | hb | hb | hb <;> omega) (fun hb => by rcases hb with hb | hb | hb | hb | hb <;> omega)
  have w2 : SgIs M2 s w := w1.fr F2 (fun hb => by rcases hb with hb | hb | hb | hb | hb <;> omega) (fun hb => by rcases hb with hb | hb | hb | hb | hb <;> omega) (fun hb => by rcases hb with hb | hb | hb | hb | hb <;> omega)
  refine qX3_lay_16 (G2.mrk C) (K0.set (d1 := d - 1) (by omega) (tX8_copy (G2.mrk C).a3 (G2.sgt Cs) w2 (fun i j _ _ => by omega)) ?_)
  rintro rv M3 ⟨rfl, w3, F3⟩
  have G3 : Fr (inM m) M M3 := G2.trans (F3.mono (fun b hb => by rcases hb with rfl | rfl | rfl <;> constructor <;> omega))
  have v3 : TrIs M3 (m + 1) v := v2.fr F3 (fun hb => by rcases hb with hb | hb | hb <;> omega) (fun hb => by rcases hb with hb | hb | hb <;> omega)
  have q3 : PlIs M3 (m + 3) q := q2.fr F3 (fun k hk hb => by rcases hb with hb | hb | hb <;> omega)
  have Fm : Fr (fun b => b = m) M3 (wi M3 m 0 1) := Fr.rf.wi rfl
  refine qX3_lay_24 (G3.mrk C) rfl ⟨rfl, mu_s _ _ _ _, v3.fr Fm (fun hb => by omega) (fun hb => by omega), q3.fr Fm (fun k hk hb => by omega), w3.fr Fm (fun hb => by omega) (fun hb => by omega) (fun hb => by omega), G3.wi ⟨by omega, by omega⟩⟩
abbrev inG (t p s : Nat) : Nat → Prop := fun b => inT t b ∨ inP p b ∨ inS s b
theorem tX3_goBack (C : Mrk M m) (Ct : Trv M t) (Cp : Pln M p) (Cs : Sgt M s) (hv : TrIs M (m + 1) v) (hq : PlIs M (m + 3) q) (hw : SgIs M (m + 8) w) (lt : t + 1 < m) (lp : p + 4 < m) (ls : s + 2 < m) (ap : ∀ b, ¬ (inT t b ∧ inP p b) ∧ ¬ (inT t b ∧ inS s b) ∧ ¬ (inP p b ∧ inS s b)) (hd : 1 ≤ d) : R0 g YX3_goBack d [.ref m, .ref t, .ref p, .ref s] M (fun rv M1 => rv = none ∧ TrIs M1 t v ∧ PlIs M1 p q ∧ SgIs M1 s w ∧ Fr (inG t p s) M M1) := by
  refine R0.of (by decide +kernel) (Nat.le_of_ble_eq_true rfl) rfl (qX3_goBack_0 C Ct (K0.set (d1 := d - 1) (by omega) (tX10_copy Ct C.a1 hv ⟨by omega, by omega, by omega⟩) ?_))
  rintro rv M1 ⟨rfl, v1, F1⟩
  have q1 : PlIs M1 (m + 3) q := hq.fr F1 (fun k hk hb => by rcases hb with hb | hb <;> omega)
  have w1 : SgIs M1 (m + 8) w := hw.fr F1 (fun hb => by rcases hb with hb | hb <;> omega) (fun hb => by rcases hb with hb | hb <;> omega) (fun hb => by rcases hb with hb | hb <;> omega)
  refine qX3_goBack_8 (F1.mrk C) (F1.pln Cp) (K0.set (d1 := d - 1) (by omega) (tX5_copy (F1.pln Cp) (F1.mrk C).a2 q1 (fun i j _ _ => by omega)) ?_)
  rintro rv M2 ⟨rfl, q2, F2⟩
  have v2 : TrIs M2 t v := v1.fr F2 (fun hb => (ap t).1 ⟨Or.inl rfl, hb⟩) (fun hb => (ap (t + 1)).1 ⟨Or.inr rfl, hb⟩)
  have w2 : SgIs M2 (m + 8) w := w1.fr F2 (fun hb => by rcases hb with hb | hb | hb | hb | hb <;> omega) (fun hb => by rcases hb with hb | hb | hb | hb | hb <;> omega) (fun hb => by rcases hb with hb | hb | hb | hb | hb <;> omega)
  refine qX3_goBack_16 (F2.mrk (F1.mrk C)) (F2.sgt (F1.sgt Cs)) (K0.set (d1 := d - 1) (by omega) (tX8_copy (F2.sgt (F1.sgt Cs)) (F2.mrk (F1.mrk C)).a3 w2 (fun i j _ _ => by omega)) ?_)
  rintro rv M3 ⟨rfl, w3, F3⟩
  refine qX3_goBack_24 ⟨rfl, v2.fr F3 (fun hb => (ap t).2.1 ⟨Or.inl rfl, hb⟩) (fun hb => (ap (t + 1)).2.1 ⟨Or.inr rfl, hb⟩), q2.fr F3 (fun k hk hb => (ap (p + k)).2.2 ⟨?_, hb⟩), w3, (F1.mono (fun b hb => Or.inl hb)).trans ((F2.mono (fun b hb => Or.inr (Or.inl hb))).trans (F3.mono (fun b hb => Or.inr (Or.inr hb))))⟩
  rcases (show k = 0 ∨ k = 1 ∨ k = 2 ∨ k = 3 ∨ k = 4 by omega) with rfl | rfl | rfl | rfl | rfl
  · exact Or.inl rfl
  · exact Or.inr (Or.inl rfl)
  · exact Or.inr (Or.inr (Or.inl rfl))
  · exact Or.inr (Or.inr (Or.inr (Or.inl rfl)))
  · exact Or.inr (Or.inr (Or.inr (Or.inr rfl)))
end TX3
/-- what can be undone: the next place, how many, what is kept -/
abbrev UV : Type := Nat × Nat × (Nat → TV)
def PsIs (M : MM) (u : UV) : Prop := u.1 < 16 ∧ u.2.1 ≤ 16 ∧ mi M 43 1 = nI u.1 ∧ mi M 43 2 = nI u.2.1 ∧ ∀ i, i < 16 → TrIs M (45 + 2 * i) (u.2.2 i)
theorem PsIs.fr {S : Nat → Prop} {M M1 : MM} {u : UV} (h : PsIs M u) (F : Fr S M M1) (hS : ∀ b, 43 ≤ b → b ≤ 76 → ¬ S b) : PsIs M1 u := by
  obtain ⟨h1, h2, h3, h4, h5⟩ := h
  refine ⟨h1, h2, ?_, ?_, fun i hi => (h5 i hi).fr F (hS _ (by omega) (by omega)) (hS _ (by omega) (by omega))⟩
  · rw [F.i (hS 43 (by omega) (by omega))]; exact h3
  · rw [F.i (hS 43 (by omega) (by omega))]; exact h4
def uKeep (u : UV) (v : TV) : UV := ((u.1 + 1) % 16, (if 16 < u.2.1 + 1 then 16 else u.2.1 + 1), fun i => if i = u.1 then v else u.2.2 i)
def uBack (u : UV) : UV := ((u.1 + 15) % 16, u.2.1 - 1, u.2.2)
section TX4
variable {g : GG} {d : Nat} {M : MM} {t la lb pa pb rl : Nat} {v : TV} {u : UV}
theorem tX4_keep (L : Lay M la lb pa pb rl) (C : Trv M t) (hv : TrIs M t v) (hu : PsIs M u) (ht : t + 1 < 43) (hd : 1 ≤ d) : R0 g YX4_keep d [.ref 43, .ref t] M (fun rv M1 => rv = none ∧ PsIs M1 (uKeep u v) ∧ Fr (fun b => 43 ≤ b ∧ b ≤ 76) M M1) := by
  obtain ⟨h1, h2, e1, e2, hk⟩ := hu
  have hkp := L.kept h1
  refine R0.of (by decide +kernel) (Nat.le_of_ble_eq_true rfl) rfl (qX4_keep_0 L hkp.2 (fun _ _ => by rw [e1]; exact vi h1 (by decide)) (fun _ _ => by rw [e1, nI_clamp (by omega)]; exact hkp.1) (fun c => absurd c (by rw [e1]; exact nI_pos (by omega))) (fun _ c => absurd c (by rw [e1]; exact ngl 16 rfl (by decide) h1)) (fun _ _ => K0.set (d1 := d - 1) (by omega) (tX10_copy hkp.2 C hv ⟨by omega, by omega, by omega⟩) ?_))
  rintro rv M1 ⟨rfl, v1, F1⟩
  have n43 : ¬ inT (45 + 2 * u.1) 43 := fun hb => by rcases hb with hb | hb <;> omega
  refine qX4_keep_29 (F1.lay L) rfl rfl hd ⟨rfl, ⟨?_, ?_, ?_, ?_, fun i hi => ?_⟩, ((F1.mono (fun b hb => by rcases hb with rfl | rfl <;> constructor <;> omega)).wi ⟨by omega, by omega⟩).wi ⟨by omega, by omega⟩⟩
  · exact Nat.mod_lt _ (by decide)
  · show (if 16 < u.2.1 + 1 then 16 else u.2.1 + 1) ≤ 16
    split <;> omega
  · show mi (wi (wi M1 43 1 _) 43 2 _) 43 1 = nI ((u.1 + 1) % 16)
    rw [wi_at, if_neg (by decide), wi_at, if_pos ⟨rfl, rfl⟩, F1.i n43, e1, nI_1, show (16 : Int32) = nI 16 from rfl, pk_rem (by omega) (by decide) (by decide)]
  · show mi (wi (wi M1 43 1 _) 43 2 _) 43 2 = nI (if 16 < u.2.1 + 1 then 16 else u.2.1 + 1)
    have e3 : mi (wi M1 43 1 ((mi M1 43 1 + 1) - (mi M1 43 1 + 1) / 16 * 16)) 43 2 = nI u.2.1 := by
      rw [wi_at, if_neg (by decide), F1.i n43, e2]
    rw [wi_at, if_pos ⟨rfl, rfl⟩, e3, nI_1, show (16 : Int32) = nI 16 from rfl]
    by_cases c : 16 < u.2.1 + 1
    · rw [if_pos c, if_pos ((nI_ltI (by omega) (by omega)).mpr c)]
    · rw [if_neg c, if_neg (fun q => c ((nI_ltI (by omega) (by omega)).mp q))]
  · have Fw : Fr (fun b => b = 43) M1 (wi (wi M1 43 1 ((mi M1 43 1 + 1) - (mi M1 43 1 + 1) / 16 * 16)) 43 2 (if 16 < mi (wi M1 43 1 ((mi M1 43 1 + 1) - (mi M1 43 1 + 1) / 16 * 16)) 43 2 + 1 then 16 else mi (wi M1 43 1 ((mi M1 43 1 + 1) - (mi M1 43 1 + 1) / 16 * 16)) 43 2 + 1)) := Fr.wi (S := fun b => b = 43) (Fr.wi (S := fun b => b = 43) Fr.rf rfl) rfl
    by_cases c : i = u.1
    · subst c
      have e : (uKeep u v).2.2 u.1 = v := if_pos rfl
      rw [e]
      exact v1.fr Fw (fun hb => by omega) (fun hb => by omega)
    · have e : (uKeep u v).2.2 i = u.2.2 i := if_neg c
      rw [e]
      exact ((hk i hi).fr F1 (fun hb => by rcases hb with hb | hb <;> omega) (fun hb => by rcases hb with hb | hb <;> omega)).fr Fw (fun hb => by omega) (fun hb => by omega)
theorem tX4_takeBack (L : Lay M la lb pa pb rl) (C : Trv M t) (hv : TrIs M t v) (hu : PsIs M u) (ht : t + 1 < 43) (hd : 1 ≤ d) : R0 g YX4_takeBack d [.ref 43, .ref t] M (fun rv M1 => (u.2.1 = 0 ∧ rv = some (.int 0) ∧ M1 = M) ∨ (0 < u.2.1 ∧ rv = some (.int 1) ∧ PsIs M1 (uBack u) ∧ TrIs M1 t (u.2.2 ((u.1 + 15) % 16)) ∧ Fr (fun b => b = 43 ∨ inT t b) M M1)) := by
  obtain ⟨h1, h2, e1, e2, hk⟩ := hu
  have hl : (u.1 + 15) % 16 < 16 := Nat.mod_lt _ (by decide)
  have hkp := L.kept hl
  have el : ((((mi M 43 1) + 16) - 1) - (((mi M 43 1) + 16) - 1) / 16 * 16) = nI ((u.1 + 15) % 16) := by
    rw [e1, show (16 : Int32) = nI 16 from rfl, nI_add, show (1 : Int32) = nI 1 from rfl, pk_sub (by omega), pk_rem (by omega) (by decide) (by decide)]
    congr 1
  refine R0.of (by decide +kernel) (Nat.le_of_ble_eq_true rfl) rfl (qX4_takeBack_0 L C (e1 := 45 + 2 * ((u.1 + 15) % 16)) (fun _ _ => by rw [el]; exact vi hl (by decide)) (fun _ _ => by rw [el, nI_clamp (by omega)]; exact hkp.1) (fun c => ?_) (fun c _ => ?_) (fun _ c => absurd (by rw [el]; exact nI_pos' (by omega)) c))
  · rw [e2] at c
    have c : u.2.1 = 0 := (nI_eq (by omega) (by omega)).mp (c.trans nI_0.symm)
    exact Or.inl ⟨c, rfl, rfl⟩
  · rw [e2] at c
    have c : 0 < u.2.1 := by
      rcases Nat.eq_zero_or_pos u.2.1 with q | q
      · rw [q] at c; exact absurd nI_0 c
      · exact q
    rw [el]
    refine K0.set (d1 := d - 1) (by omega) (tX10_copy C hkp.2 (hk _ hl) ⟨by omega, by omega, by omega⟩) ?_
    rintro rv M1 ⟨rfl, v1, F1⟩
    have n43 : ¬ inT t 43 := fun hb => by rcases hb with hb | hb <;> omega
    have Fw : Fr (fun b => b = 43) M1 (wi (wi M1 43 1 (nI ((u.1 + 15) % 16))) 43 2 (mi (wi M1 43 1 (nI ((u.1 + 15) % 16))) 43 2 - 1)) := Fr.wi (S := fun b => b = 43) (Fr.wi (S := fun b => b = 43) Fr.rf rfl) rfl
    refine qX4_takeBack_36 (F1.lay L) rfl rfl (Or.inr ⟨c, rfl, ⟨hl, ?_, ?_, ?_, fun i hi => ?_⟩, v1.fr Fw (fun hb => by omega) (fun hb => by omega), Fr.wi (S := fun b => b = 43 ∨ inT t b) (Fr.wi (S := fun b => b = 43 ∨ inT t b) (F1.mono (fun b hb => Or.inr hb)) (Or.inl rfl)) (Or.inl rfl)⟩)
    · show u.2.1 - 1 ≤ 16; omega
    · rw [wi_at, if_neg (by decide), wi_at, if_pos ⟨rfl, rfl⟩]; rfl
    · have e3 : mi (wi M1 43 1 (nI ((u.1 + 15) % 16))) 43 2 = nI u.2.1 := by rw [wi_at, if_neg (by decide), F1.i n43, e2]
      rw [wi_at, if_pos ⟨rfl, rfl⟩, e3, show (1 : Int32) = nI 1 from rfl, pk_sub (by omega)]; rfl
    · exact ((hk i hi).fr F1 (fun hb => by rcases hb with hb | hb <;> omega) (fun hb => by rcases hb with hb | hb <;> omega)).fr Fw (fun hb => by omega) (fun hb => by omega)
theorem tX4_forget (L : Lay M la lb pa pb rl) (hu : PsIs M u) : R0 g YX4_forget d [.ref 43] M (fun rv M1 => rv = none ∧ PsIs M1 (u.1, 0, u.2.2) ∧ Fr (fun b => b = 43) M M1) := by
  obtain ⟨h1, h2, e1, e2, hk⟩ := hu
  have Fw : Fr (fun b => b = 43) M (wi M 43 2 0) := Fr.rf.wi rfl
  refine R0.of (by decide +kernel) (Nat.le_of_ble_eq_true rfl) rfl (qX4_forget_0 L rfl ⟨rfl, ⟨h1, Nat.zero_le _, ?_, ?_, fun i hi => (hk i hi).fr Fw (fun hb => by omega) (fun hb => by omega)⟩, Fw⟩)
  · rw [wi_at, if_neg (by decide)]; exact e1
  · rw [wi_at, if_pos ⟨rfl, rfl⟩]; exact nI_0.symm
end TX4
