/-! ===== a round judged, marks, anew ===== -/
/-- a round: lines; what, giver, taker, shot -/
abbrev PP : Type := Nat × (Nat → Nat) × (Nat → Nat) × (Nat → Nat) × (Nat → Nat)
def PlRel (n h : Nat) (f1 f2 f3 f4 : Nat → Int32) (p : PP) : Prop := ∀ i, i < p.1 → f1 i = nI (p.2.1 i) ∧ p.2.1 i < 4 ∧ (p.2.1 i = 1 ∨ p.2.1 i = 2 → f2 i = nI (p.2.2.1 i) ∧ p.2.2.1 i < h ∧ f4 i = nI (p.2.2.2.2 i) ∧ p.2.2.2.2 i < n) ∧ (p.2.1 i = 2 → f3 i = nI (p.2.2.2.1 i) ∧ p.2.2.2.1 i < h)
def jPos (c : CD) (T : TT) (p : PP) (i : Nat) : Bool := if p.2.1 i = 0 then decide (¬ ch c = 0) else if p.2.1 i = 3 then true else decide (T.1 (p.2.2.2.2 i) = p.2.2.1 i + 1)
def jGo (c : CD) (T : TT) (p : PP) (i : Nat) : TT := if p.2.1 i = 0 then shT c T else if p.2.1 i = 3 then tTurn T else if p.2.1 i = 1 then tLay T (p.2.2.2.2 i) 0 else tLay T (p.2.2.2.2 i) (p.2.2.2.1 i + 1)
def judT (c : CD) (p : PP) : Nat → Nat → TT → Int32 → Int32 → Int32 → Int32 × Int32 × Int32
  | 0, _, _, b, s, m => (b, s, m)
  | j + 1, i, T, b, s, m => if jPos c T p i then (if p.2.1 i = 0 then judT c p j (i + 1) (jGo c T p i) b (if s = -1 then (if cSen c (tp (tvOf (cn c) (jGo c T p i))) then -1 else nI i) else s) (m + cMin c (tp (tvOf (cn c) (jGo c T p i)))) else judT c p j (i + 1) (jGo c T p i) b s m) else judT c p j (i + 1) T (if b = -1 then nI i else b) s m
/-- at the beginning: all in the print -/
def T0 : TT := (fun _ => 0, false, 0, 0)
def judA (c : CD) (p : PP) (x : Int32) : Int32 := if sIn x 3 then (if x = 0 then (judT c p p.1 0 T0 (-1) (-1) 0).1 else if x = 1 then (judT c p p.1 0 T0 (-1) (-1) 0).2.1 else (judT c p p.1 0 T0 (-1) (-1) 0).2.2) else -2
theorem T0_ok (c : CD) : TOk c T0 := ⟨fun _ _ => Nat.zero_le _, by
  split
  · rfl
  · rename_i h
    show 0 < ch c
    omega⟩
theorem T0_tv {n : Nat} (hn : n ≤ 10) : tvOf n T0 = (((1 : Int32) <<< (nI n &&& 31)) - 1, fun _ => 0, false, 0, 0) := by
  unfold tvOf
  refine Prod.ext ?_ (Prod.ext ?_ rfl)
  · exact (film_pb n hn).symm
  · funext h
    show pb (fun k => (0 : Nat) == h + 1) n = 0
    refine b_ext fun i hi => ?_
    rw [bt_pb _ n (by omega) i hi, b_0]
    simp
section TX11e
variable {g : GG} {d : Nat} {M : MM} {la lb pa pb rl : Nat} {c : CD} {T : TT} {p : PP} {q : PV}
theorem jGo_ok {i : Nat} {f1 f2 f3 f4 : Nat → Int32} (O : TOk c T) (R : PlRel (cn c) (ch c) f1 f2 f3 f4 p) (hi : i < p.1) (h : jPos c T p i = true) : TOk c (jGo c T p i) := by
  have R1 := R i hi
  unfold jGo
  split
  · rename_i q
    unfold jPos at h
    rw [if_pos q] at h
    exact O.sh (of_decide_eq_true h)
  · split
    · exact O.turn
    · split
      · exact O.lay (Nat.zero_le _)
      · have := (R1.2.2.2 (by omega)).2
        exact O.lay (by omega)
theorem cFollow {i : Nat} (L : Lay M la lb pa pb rl) (K : CoIs M la c) (V : TrIs M 41 (tvOf (cn c) T)) (O : TOk c T) (Q : PlIs M pa q) (R : PlRel (cn c) (ch c) q.2.1 q.2.2.1 q.2.2.2.1 q.2.2.2.2 p) (hp : q.1 = p.1) (hi : i < p.1) (h : jPos c T p i = true) (hd : 6 ≤ d) : R0 g YX5_follow d [.ref pa, .int (nI i), .ref la, .ref 41] M (fun rv M1 => rv = none ∧ TrIs M1 41 (tvOf (cn c) (jGo c T p i)) ∧ Fr (inT 41) M M1) := by
  have h10 := K.2.1
  have h6 := K.2.2.2.1
  have hla := L.la_lt
  have R1 := R i hi
  unfold jPos at h
  unfold jGo
  have eI : (q.2.1 i).toInt = (p.2.1 i : Int) := by rw [R1.1, nI_toInt (by omega)]
  by_cases k0 : p.2.1 i = 0
  · rw [if_pos k0] at h ⊢
    have hne : ¬ ch c = 0 := of_decide_eq_true h
    have hx := O.2
    rw [if_neg hne] at hx
    have hf := tX5_followS (g := g) (d := d) L.ppa Q L.cla L.tt V (hl := T.2.2.1) rfl K.1 K.2.1 K.2.2.1 K.2.2.2.1 hx (fun hb => by rcases hb with hb | hb <;> omega) (show i < q.1 by omega) (by rw [eI, k0]; rfl) hd
    rw [K.2.2.2.2.1, K.2.2.2.2.2.2.2.1, K.2.2.2.2.2.2.2.2] at hf
    have e : vNext (vShow (tvOf (cn c) T) T.2.2.1 (sTk (cn c) (ckd c T.2.2.1) (sHat (csrt c) (cvd c) T.2.2.1 (tp (tvOf (cn c) T)) (cn c)).1 (tp (tvOf (cn c) T)))) (ch c) = tvOf (cn c) (shT c T) := by
      have := vSh_T (c := c) (T := T) h10 h6 hx
      unfold vSh cNow at this
      have e : tNx (tvOf (cn c) T) = T.2.2.1 := by
        unfold tNx
        show (nI T.2.2.1).toNatClampNeg = _
        rw [nI_clamp (by omega)]
      rw [e] at this
      exact this
    rw [e] at hf
    exact hf
  · rw [if_neg k0] at h ⊢
    by_cases k3 : p.2.1 i = 3
    · rw [if_pos k3]
      exact tX5_followT L.ppa Q L.tt V (by omega) (by rw [eI, k3]; rfl) (by omega)
    · rw [if_neg k3] at h ⊢
      have h := of_decide_eq_true h
      obtain ⟨g1, g2, g3, g4⟩ := R1.2.2.1 (by omega)
      by_cases k1 : p.2.1 i = 1
      · rw [if_pos k1]
        have hf := tX5_followG (g := g) (d := d) (a := la) L.ppa Q L.tt V (show i < q.1 by omega) (by rw [eI, k1]; rfl) g1 (by omega) (by rw [g3, tHas_T (by omega) g4 (by omega)]; exact decide_eq_true h) (by omega)
        rw [g3, vGive_T (by omega) g4 h] at hf
        exact hf
      · rw [if_neg k1]
        obtain ⟨g5, g6⟩ := R1.2.2.2 (by omega)
        have hf := tX5_followH (g := g) (d := d) (a := la) L.ppa Q L.tt V (show i < q.1 by omega) (by rw [eI, show p.2.1 i = 2 by omega]; rfl) g1 (by omega) g5 (by omega) (by rw [g3, tHas_T (by omega) g4 (by omega)]; exact decide_eq_true h) (by omega)
        rw [g3, vHand_T (by omega) g4 h] at hf
        exact hf
theorem cPoss {i : Nat} (L : Lay M la lb pa pb rl) (K : CoIs M la c) (V : TrIs M 41 (tvOf (cn c) T)) (Q : PlIs M pa q) (R : PlRel (cn c) (ch c) q.2.1 q.2.2.1 q.2.2.2.1 q.2.2.2.2 p) (hp : q.1 = p.1) (hi : i < p.1) (hd : 1 ≤ d) : R0 g YX5_isPossible d [.ref pa, .int (nI i), .ref la, .ref 41] M (Ans (b2i (jPos c T p i)) M) := by
  have h10 := K.2.1
  have h6 := K.2.2.2.1
  have R1 := R i hi
  have hf := tX5_isPossible (g := g) (d := d) L.ppa Q L.cla K.2.2.1 h6 L.tt V (show i < q.1 by omega) hd
  have eI : (q.2.1 i).toInt = (p.2.1 i : Int) := by rw [R1.1, nI_toInt (by omega)]
  have e : pPos (ch c) (tvOf (cn c) T) q i = jPos c T p i := by
    unfold pPos jPos
    rw [eI]
    by_cases k0 : p.2.1 i = 0
    · rw [if_pos k0, if_pos (by omega)]
      by_cases hz : ch c = 0
      · rw [hz]; decide
      · rw [decide_eq_true hz, decide_eq_true]
        exact nI_nle (by omega) (by omega)
    · rw [if_neg k0, if_neg (by omega)]
      by_cases k3 : p.2.1 i = 3
      · rw [if_pos k3, if_pos (by omega)]
      · rw [if_neg k3, if_neg (by omega)]
        obtain ⟨g1, g2, g3, g4⟩ := R1.2.2.1 (by omega)
        rw [g1, g3, tHas_T (by omega) g4 (by omega)]
  rw [e] at hf
  exact hf
theorem tX11_judged {x : Int32} (L : Lay M la lb pa pb rl) (K : CoIs M la c) (Q : PlIs M pa q) (R : PlRel (cn c) (ch c) q.2.1 q.2.2.1 q.2.2.2.1 q.2.2.2.2 p) (hp : q.1 = p.1) (hd : 7 ≤ d) : R0 g YX11_judged d [.ref 0, .int x] M (fun rv M1 => rv = some (.int (judA c p x)) ∧ Fr inY M M1) := by
  have h10 := K.2.1
  have h6 := K.2.2.2.1
  have hla := L.la_lt
  have hpa := L.pa_lt
  have q40 := Q.1
  refine R0.of (by decide +kernel) (Nat.le_of_ble_eq_true rfl) rfl (qX11_judged_0 L (fun r => ?_) (fun r1 r2 => ?_) (fun r1 r2 => ?_))
  · have : sIn x 3 = false := by simp [sIn, r]
    unfold judA
    rw [this]; exact ⟨rfl, Fr.rf⟩
  · have hx : sIn x 3 = true := by
      obtain ⟨k, k1, rfl⟩ := nI_of r1
      rw [show (2 : Int32) = nI 2 from rfl, nI_leI k1 (by decide)] at r2
      rw [show (3 : Int32) = nI 3 from rfl, sIn_nI k1 (by decide)]
      exact decide_eq_true (by omega)
    unfold judA
    rw [hx, if_pos rfl]
    refine K0.ans (d1 := d - 1) (by omega) (cFilmT L.cla K) (qX11_judged_30 L.tt.o (K0.set (d1 := d - 1) (by omega) (tX10_begin L.tt) ?_))
    rintro rv M1 ⟨rfl, V1, F1⟩
    have e0 : ((cFilm c, (fun _ => 0), false, 0, 0) : TV) = tvOf (cn c) T0 := (T0_tv h10).symm
    rw [e0] at V1
    refine qX11_judged_33 ?_
    have key := up0 (p := fun k => ∀ M1 T b s m, Fr inY M M1 → TrIs M1 41 (tvOf (cn c) T) → TOk c T → E0 g YX11_judged d 36 [(0, .ref 0), (1, .int x), (2, .int b), (3, .int s), (4, .int m), (5, .int (nI k))] [] M1 (fun rv M2 => rv = some (.int (if x = 0 then (judT c p (p.1 - k) k T b s m).1 else if x = 1 then (judT c p (p.1 - k) k T b s m).2.1 else (judT c p (p.1 - k) k T b s m).2.2)) ∧ Fr inY M M2)) p.1 (fun M1 T b s m F V O => ?_) (fun k hk ih M1 T b s m F V O => ?_)
    · exact key M1 T0 (-1) (-1) 0 F1 V1 (T0_ok c)
    · have Q1 : PlIs M1 pa q := Q.fr F (fun k hk hb => by rcases hb with hb | hb <;> omega)
      have le : mi M1 pa 0 ≤ nI p.1 := by rw [Q1.2.1, hp]; exact nI_le (Nat.le_refl _) (by omega)
      rw [Nat.sub_self]
      refine qX11_judged_36 (F.lay L) (fun _ z0 z1 => ⟨?_, F⟩) (fun _ z0 z1 => ⟨?_, F⟩) (fun _ z0 => ⟨?_, F⟩) (fun r => absurd le r)
      · rw [if_neg z0, if_neg z1]; rfl
      · rw [if_neg z0, if_pos z1]; rfl
      · rw [if_pos z0]; rfl
    · have Q1 : PlIs M1 pa q := Q.fr F (fun k hk hb => by rcases hb with hb | hb <;> omega)
      have K1 : CoIs M1 la c := K.fr F (fun k hk hb => by rcases hb with hb | hb <;> omega)
      have nle : ¬ mi M1 pa 0 ≤ nI k := by rw [Q1.2.1, nI_leI (by omega) (by omega)]; omega
      have e : p.1 - k = (p.1 - (k + 1)) + 1 := by omega
      rw [e, judT]
      refine qX11_judged_36 (F.lay L) (fun r => absurd r nle) (fun r => absurd r nle) (fun r => absurd r nle) (fun _ => K0.ans (d1 := d - 1) (by omega) (cPoss (F.lay L) K1 V Q1 R hp hk (by omega)) (qX11_judged_65 (F.lay L) (fun r => ?_) (fun r r2 => ?_) (fun r r2 => ?_)))
      · rw [b2i_n] at r
        rw [r, if_pos rfl]
        refine K0.set (d1 := d - 1) (by omega) (cFollow (F.lay L) K1 V O Q1 R hp hk r (by omega)) ?_
        rintro rv M2 ⟨rfl, V2, F2⟩
        have F02 : Fr inY M M2 := F.trans (F2.mono (fun b hb => by rcases hb with hb | hb <;> omega))
        have O2 := jGo_ok O R hk r
        have Q2 : PlIs M2 pa q := Q.fr F02 (fun k hk hb => by rcases hb with hb | hb <;> omega)
        have K2 : CoIs M2 la c := K.fr F02 (fun k hk hb => by rcases hb with hb | hb <;> omega)
        have ed : mi M2 (pa + 1) (nI k).toNatClampNeg = nI (p.2.1 k) := by
          rw [nI_clamp (by omega), (Q2.2.2 k (by omega)).1, (R k hk).1]
        have hp4 := (R k hk).2.1
        refine qX11_judged_100 (F02.lay L) (vi (by omega) (by decide)) (fun r3 => ?_) (fun r3 => ?_)
        · rw [ed] at r3
          have : ¬ p.2.1 k = 0 := fun z => r3 (by rw [z]; rfl)
          rw [if_neg this, nI_1]
          exact ih M2 _ _ _ _ F02 V2 O2
        · rw [ed, show (0 : Int32) = nI 0 from rfl, nI_eq (by omega) (by decide)] at r3
          rw [if_pos r3, V2.1]
          refine K0.ans (d1 := d - 1) (by omega) (cMinutes (F02.lay L).cla K2) (qX11_judged_129 (F02.lay L) (fun r4 => ?_) (fun r4 => ?_))
          · rw [if_neg r4, nI_1]
            exact ih M2 _ _ _ _ F02 V2 O2
          · rw [V2.1]
            refine K0.ans (d1 := d - 1) (by omega) (cSense (F02.lay L).cla K2) (qX11_judged_151 (fun r5 => ?_) (fun r5 => ?_))
            · rw [b2i_n] at r5
              rw [if_pos r4, r5, if_pos rfl, nI_1, r4]
              exact ih M2 _ _ _ _ F02 V2 O2
            · rw [b2i_z] at r5
              rw [if_pos r4, r5, show (if (false = true) then (-1 : Int32) else nI k) = nI k from rfl, nI_1]
              exact ih M2 _ _ _ _ F02 V2 O2
      · rw [b2i_z] at r
        rw [r, if_neg (by decide : ¬ false = true), if_neg r2, nI_1]
        exact ih M1 _ _ _ _ F V O
      · rw [b2i_z] at r
        rw [r, if_neg (by decide : ¬ false = true), if_pos r2, nI_1]
        exact ih M1 _ _ _ _ F V O
  · have : sIn x 3 = false := by
      obtain ⟨k, k1, rfl⟩ := nI_of r1
      rw [show (2 : Int32) = nI 2 from rfl, nI_leI k1 (by decide)] at r2
      rw [show (3 : Int32) = nI 3 from rfl, sIn_nI k1 (by decide)]
      exact decide_eq_false (by omega)
    unfold judA
    rw [this]; exact ⟨rfl, Fr.rf⟩
end TX11e
/-! ===== marks ===== -/
/-- mark i: whether it is laid, and what lies there -/
def MkIs (M : MM) (i : Nat) (b : Bool) (v : TV) (q : PV) (w : SV) : Prop := mi M (81 + 11 * i) 0 = b2i b ∧ (b = true → TrIs M (81 + 11 * i + 1) v ∧ PlIs M (81 + 11 * i + 3) q ∧ SgIs M (81 + 11 * i + 8) w)
theorem MkIs.fr {S : Nat → Prop} {M M1 : MM} {i : Nat} {b : Bool} {v : TV} {q : PV} {w : SV} (h : MkIs M i b v q w) (F : Fr S M M1) (hS : ∀ k, k < 11 → ¬ S (81 + 11 * i + k)) : MkIs M1 i b v q w := by
  refine ⟨by rw [show mi M1 (81 + 11 * i) = mi M (81 + 11 * i) from F.i (hS 0 (by omega))]; exact h.1, fun hb => ?_⟩
  obtain ⟨h1, h2, h3⟩ := h.2 hb
  exact ⟨h1.fr F (hS 1 (by omega)) (hS 2 (by omega)), h2.fr F (fun k hk => by rw [Nat.add_assoc]; exact hS (3 + k) (by omega)), h3.fr F (hS 8 (by omega)) (hS 9 (by omega)) (hS 10 (by omega))⟩
section TX11f
variable {g : GG} {d : Nat} {M : MM} {la lb pa pb rl : Nat} {c : CD} {v v2 : TV} {q q2 : PV} {w w2 : SV} {u : UV} {b : Bool}
theorem tX11_markNo {x y : Int32} (L : Lay M la lb pa pb rl) (hx : sIn x 4 = false) : R0 g YX11_mark d [.ref 0, .int x, .int y] M (Ans 0 M) := by
  have no : ¬ x < 0 → x < 4 → False := fun h1 h2 => by
    have : ¬ (4 : Int32) ≤ x := Int32.not_le.mpr h2
    simp [sIn, h1, this] at hx
  exact R0.of (by decide +kernel) (Nat.le_of_ble_eq_true rfl) rfl (qX11_mark_0 L (L.marks (i := 0) (by omega)).2 (L.marks (i := 0) (by omega)).2 (L.marks (i := 0) (by omega)).2 (fun r1 r2 => (no r1 r2).elim) (fun r1 r2 => (no r1 r2).elim) (fun r1 r2 => (no r1 r2).elim) (fun r1 r2 => (no r1 r2).elim) (fun r1 r2 => (no r1 r2).elim) (fun r1 r2 => (no r1 r2).elim) (fun _ => ⟨rfl, rfl⟩) (fun r1 r2 => (no r1 r2).elim) (fun r1 r2 => (no r1 r2).elim) (fun r1 r2 => (no r1 r2).elim) (fun _ _ => ⟨rfl, rfl⟩))
theorem tX11_mark {i : Nat} {y : Bool} (L : Lay M la lb pa pb rl) (hi : i < 4) (V : TrIs M 39 v) (Q : PlIs M pa q) (W : SgIs M 77 w) (U : PsIs M u) (K : MkIs M i b v2 q2 w2) (hd : 2 ≤ d) : R0 g YX11_mark d [.ref 0, .int (nI i), .int (b2i y)] M (fun rv M1 => (y = false ∧ rv = some (.int 1) ∧ MkIs M1 i true v q w ∧ Fr (inM (81 + 11 * i)) M M1) ∨ (y = true ∧ b = false ∧ rv = some (.int 0) ∧ M1 = M) ∨ (y = true ∧ b = true ∧ rv = some (.int 1) ∧ TrIs M1 39 v2 ∧ PlIs M1 pa q2 ∧ SgIs M1 77 w2 ∧ PsIs M1 (u.1, 0, u.2.2) ∧ Fr (fun b => b = 43 ∨ inG 39 pa 77 b) M M1)) := by
  have hpa := L.pa_lt
  obtain ⟨m1, m2⟩ := L.marks hi
  have h4 : nI i < (4 : Int32) := (ltl 4 rfl (by decide) (by omega)).mpr hi
  have hin : vp_in (nI i) 4 := vi hi (by decide)
  refine R0.of (by decide +kernel) (Nat.le_of_ble_eq_true rfl) rfl (qX11_mark_0 L m2 m2 m2 (fun _ _ _ => hin) (fun _ _ _ => by rw [nI_clamp (by omega)]; exact m1) (fun _ _ _ _ => hin) (fun _ _ _ _ => by rw [nI_clamp (by omega)]; exact m1) (fun _ _ _ => hin) (fun _ _ _ => by rw [nI_clamp (by omega)]; exact m1) (fun r => absurd r (nI_pos (by omega))) (fun _ _ r1 r2 => ?_) (fun _ _ r1 r2 => ?_) (fun _ _ r1 => ?_) (fun _ r => absurd h4 r))
  · rw [b2i_n] at r1
    rw [K.1, b2i_n] at r2
    obtain ⟨k1, k2, k3⟩ := K.2 r2
    refine K0.set (d1 := d - 1) (by omega) (tX3_goBack m2 L.tn L.ppa L.sg k1 k2 k3 (by omega) (by omega) (by omega) (fun b => ⟨fun z => ?_, fun z => ?_, fun z => ?_⟩) (by omega)) ?_
    · obtain ⟨z1 | z1, z2 | z2 | z2 | z2 | z2⟩ := z <;> omega
    · obtain ⟨z1 | z1, z2 | z2 | z2⟩ := z <;> omega
    · obtain ⟨z1 | z1 | z1 | z1 | z1, z2 | z2 | z2⟩ := z <;> omega
    · rintro rv M1 ⟨rfl, V1, Q1, W1, F1⟩
      have U1 : PsIs M1 u := U.fr F1 (fun b h1 h2 hb => by rcases hb with (z | z) | (z | z | z | z | z) | (z | z | z) <;> omega)
      refine qX11_mark_73 (F1.lay L) (K0.set (d1 := d - 1) (by omega) (tX4_forget (F1.lay L) U1) ?_)
      rintro rv M2 ⟨rfl, U2, F2⟩
      exact qX11_mark_80 (.inr (.inr ⟨r1, r2, rfl, V1.fr F2 (by omega) (by omega), Q1.fr F2 (fun k hk => by omega), W1.fr F2 (by omega) (by omega) (by omega), U2, (F1.mono (fun b hb => .inr hb)).trans (F2.mono (fun b hb => .inl hb))⟩))
  · rw [b2i_n] at r1
    rw [K.1, b2i_z] at r2
    exact .inr (.inl ⟨r1, r2, rfl, rfl⟩)
  · rw [b2i_z] at r1
    refine K0.set (d1 := d - 1) (by omega) (tX3_lay m2 L.tn L.ppa L.sg V Q W (by omega) (by omega) (by omega) (by omega)) ?_
    rintro rv M1 ⟨rfl, k0, k1, k2, k3, F1⟩
    exact qX11_mark_36 (.inl ⟨r1, rfl, ⟨k0, fun _ => ⟨k1, k2, k3⟩⟩, F1⟩)
abbrev inAn (pa : Nat) : Nat → Prop := fun b => b = 39 ∨ b = 40 ∨ inP pa b ∨ b = 77 ∨ b = 43 ∨ b = 81 ∨ b = 92 ∨ b = 103 ∨ b = 114
theorem tX11_beginAnew (L : Lay M la lb pa pb rl) (K : CoIs M la c) (U : PsIs M u) (hd : 1 ≤ d) : R0 g YX11_beginAnew d [.ref 0] M (fun rv M1 => rv = none ∧ TrIs M1 39 (tvOf (cn c) T0) ∧ PlIs M1 pa (0, q.2) ∧ SgIs M1 77 (0, w.2) ∧ PsIs M1 (u.1, 0, u.2.2) ∧ (∀ i, i < 4 → mi M1 (81 + 11 * i) 0 = 0) ∧ Fr (inAn pa) M M1) := by
  have hpa := L.pa_lt
  have h10 := K.2.1
  refine R0.of (by decide +kernel) (Nat.le_of_ble_eq_true rfl) rfl (qX11_beginAnew_0 L (K0.ans (d1 := d - 1) (by omega) (cFilmT L.cla K) (qX11_beginAnew_11 L.tn.o (K0.set (d1 := d - 1) (by omega) (tX10_begin L.tn) ?_))))
  rintro rv M1 ⟨rfl, V1, F1⟩
  have e0 : ((cFilm c, (fun _ => 0), false, 0, 0) : TV) = tvOf (cn c) T0 := (T0_tv h10).symm
  rw [e0] at V1
  have F01 : Fr (inAn pa) M M1 := F1.mono (fun b hb => by rcases hb with hb | hb <;> omega)
  refine qX11_beginAnew_14 (F1.lay L) (K0.set (d1 := d - 1) (by omega) (tX5_clear (v := q) (F1.lay L).ppa) ?_)
  rintro rv M2 ⟨rfl, Q2, F2⟩
  have F02 : Fr (inAn pa) M M2 := F01.trans (F2.mono (fun b hb => .inr (.inr (.inl hb))))
  have V2 : TrIs M2 39 (tvOf (cn c) T0) := V1.fr F2 (fun hb => by rcases hb with z | z | z | z | z <;> omega) (fun hb => by rcases hb with z | z | z | z | z <;> omega)
  refine qX11_beginAnew_21 (F02.lay L) rfl ?_
  have F23 : Fr (fun b => b = 77) M2 (wi M2 77 2 0) := Fr.rf.wi rfl
  have F03 : Fr (inAn pa) M (wi M2 77 2 0) := F02.trans (F23.mono (fun b hb => by omega))
  have V3 := V2.fr F23 (by omega) (by omega)
  have Q3 := Q2.fr F23 (fun k hk => by omega)
  have W3 : SgIs (wi M2 77 2 0) 77 (0, w.2) := ⟨Nat.zero_le _, by rw [wi_at, if_pos ⟨rfl, rfl⟩]; rfl, fun k hk => absurd hk (by simp), fun k hk => absurd hk (by simp)⟩
  have U3 : PsIs (wi M2 77 2 0) u := ((U.fr F1 (fun b h1 h2 hb => by rcases hb with z | z <;> omega)).fr F2 (fun b h1 h2 hb => by rcases hb with z | z | z | z | z <;> omega)).fr F23 (fun b h1 h2 hb => by omega)
  refine K0.set (d1 := d - 1) (by omega) (tX4_forget (F03.lay L) U3) ?_
  rintro rv M4 ⟨rfl, U4, F4⟩
  have F04 : Fr (inAn pa) M M4 := F03.trans (F4.mono (fun b hb => by omega))
  have V4 := V3.fr F4 (by omega) (by omega)
  have Q4 := Q3.fr F4 (fun k hk => by omega)
  have W4 := W3.fr F4 (by omega) (by omega) (by omega)
  refine qX11_beginAnew_36 ?_
  have key := up0 (p := fun i => ∀ M5, Fr (fun b => b = 81 ∨ b = 92 ∨ b = 103 ∨ b = 114) M4 M5 → (∀ j, j < i → mi M5 (81 + 11 * j) 0 = 0) → E0 g YX11_beginAnew d 38 [(0, .ref 0), (1, .int (nI i))] [] M5 (fun rv M1 => rv = none ∧ TrIs M1 39 (tvOf (cn c) T0) ∧ PlIs M1 pa (0, q.2) ∧ SgIs M1 77 (0, w.2) ∧ PsIs M1 (u.1, 0, u.2.2) ∧ (∀ i, i < 4 → mi M1 (81 + 11 * i) 0 = 0) ∧ Fr (inAn pa) M M1)) 4 (fun M5 F5 H5 => ?_) (fun i hi ih M5 F5 H5 => ?_)
  · exact key M4 Fr.rf (fun j hj => absurd hj (by omega))
  · have F05 : Fr (inAn pa) M M5 := F04.trans (F5.mono (fun b hb => by omega))
    exact qX11_beginAnew_38 (F05.lay L) ((F05.lay L).marks (i := 0) (by omega)).2 rfl (fun r => absurd (by decide) r) (fun r => absurd (by decide) r) (fun _ => ⟨rfl, V4.fr F5 (by omega) (by omega), Q4.fr F5 (fun k hk => by omega), W4.fr F5 (by omega) (by omega) (by omega), U4.fr F5 (fun b h1 h2 hb => by omega), H5, F05⟩) (fun r => absurd (by decide) r)
  · have F05 : Fr (inAn pa) M M5 := F04.trans (F5.mono (fun b hb => by omega))
    obtain ⟨m1, m2⟩ := (F05.lay L).marks hi
    refine qX11_beginAnew_38 (F05.lay L) m2 rfl (fun _ => vi hi (by decide)) (fun _ => by rw [nI_clamp (by omega)]; exact m1) (fun r => absurd r (ngl 4 rfl (by decide) hi)) (fun _ => ?_)
    rw [nI_1]
    refine ih _ (F5.wi (by omega)) (fun j hj => ?_)
    rw [wi_at]
    by_cases e : j = i
    · subst e; rw [if_pos ⟨rfl, rfl⟩]
    · rw [if_neg (by omega)]; exact H5 j (by omega)
end TX11f
