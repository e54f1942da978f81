/-! ===== the reference's row: where all lies ===== -/
def plF (h : Nat) (T : TT) : Nat := if T.2.1 then h - 1 - T.2.2.1 else T.2.2.1
def ordF (h : Nat) (tu : Bool) (k : Nat) : Nat := if tu = true ∧ k < h then h - 1 - k else k
def RSt (f : Nat → Int32) (n h : Nat) (T : TT) : Prop := f 0 = pb (fun k => T.1 k == 0) n ∧ f 1 = nI (plF h T) ∧ f 2 = T.2.2.2 ∧ (∀ k, k < 6 → f (3 + k) = nI (ordF h T.2.1 k)) ∧ ∀ k, k < n → f (9 + k) = nI (T.1 k)
theorem RSt.cong {f f2 : Nat → Int32} {n h : Nat} {T : TT} (H : RSt f n h T) (hn : n ≤ 10) (e : ∀ k, k < 19 → f2 k = f k) : RSt f2 n h T := by
  obtain ⟨h1, h2, h3, h4, h5⟩ := H
  exact ⟨by rw [e 0 (by omega)]; exact h1, by rw [e 1 (by omega)]; exact h2, by rw [e 2 (by omega)]; exact h3, fun k hk => by rw [e _ (by omega)]; exact h4 k hk, fun k hk => by rw [e _ (by omega)]; exact h5 k hk⟩
theorem ordF_inv {h : Nat} {tu : Bool} {k : Nat} (hk : k < h) : ordF h tu (ordF h tu k) = k ∧ ordF h tu k < h := by
  unfold ordF
  cases tu
  · simp; exact hk
  · simp [hk]
    rw [if_pos (by omega)]; omega
theorem ordF_pl {h : Nat} {T : TT} (hx : T.2.2.1 < h) : ordF h T.2.1 (plF h T) = T.2.2.1 ∧ plF h T < h := by
  unfold ordF plF
  cases T.2.1
  · simp; exact hx
  · simp; rw [if_pos (by omega)]; omega
theorem spl_ord {c : CD} {T : TT} {k : Nat} (hk : k < ch c) : spl c (tvOf (cn c) T) k = ordF (ch c) T.2.1 k := by
  unfold spl ordF
  show (if T.2.1 = true then _ else _) = _
  cases T.2.1
  · simp
  · simp [hk]
abbrev inC (a : Nat) : Nat → Prop := fun b => b = a
section RR
variable {g : GG} {d : Nat} {M : MM} {la lb pa pb0 rl : Nat} {c : CD} {F : Nat → (Nat → Int32) → Int32} {T : TT}
theorem tX12_copies {a0 a2 n0 n2 x y : Nat} (h1 : ar M a0 1 n0) (h2 : ar M a2 1 n2) (hx : x + 19 ≤ n0) (hy : y + 19 ≤ n2) (hne : a0 ≠ a2) (s0 : n0 ≤ 1000) (s2 : n2 ≤ 1000) : R0 g YX12_copies d [.ref a0, .int (nI x), .ref a2, .int (nI y)] M (fun rv M1 => rv = none ∧ (∀ k, k < 19 → mi M1 a2 (y + k) = mi M a0 (x + k)) ∧ (∀ j, ¬ (y ≤ j ∧ j < y + 19) → mi M1 a2 j = mi M a2 j) ∧ Fr (inC a2) M M1) := by
  refine R0.of (by decide +kernel) (Nat.le_of_ble_eq_true rfl) rfl (qX12_copies_0 ?_)
  have key := up0 (p := fun i => ∀ M1, (∀ k, k < i → mi M1 a2 (y + k) = mi M a0 (x + k)) → (∀ j, ¬ (y ≤ j ∧ j < y + 19) → mi M1 a2 j = mi M a2 j) → Fr (inC a2) M M1 → E0 g YX12_copies d 3 [(0, .ref a0), (1, .int (nI x)), (2, .ref a2), (3, .int (nI y)), (4, .int (nI i))] [] M1 (fun rv M1 => rv = none ∧ (∀ k, k < 19 → mi M1 a2 (y + k) = mi M a0 (x + k)) ∧ (∀ j, ¬ (y ≤ j ∧ j < y + 19) → mi M1 a2 j = mi M a2 j) ∧ Fr (inC a2) M M1)) 19 (fun M1 A B F1 => ?_) (fun i hi ih M1 A B F1 => ?_)
  · exact key M (fun k hk => absurd hk (by omega)) (fun _ _ => rfl) Fr.rf
  · have h1' : ar M1 a0 1 n0 := by unfold ar; rw [F1.1, F1.2.1]; exact h1
    have h2' : ar M1 a2 1 n2 := by unfold ar; rw [F1.1, F1.2.1]; exact h2
    exact qX12_copies_3 rfl h1' (fun z => absurd (by decide) z) h2' (fun z => absurd (by decide) z) (fun _ => ⟨rfl, A, B, F1⟩) (fun z => absurd (by decide) z)
  · have h1' : ar M1 a0 1 n0 := by unfold ar; rw [F1.1, F1.2.1]; exact h1
    have h2' : ar M1 a2 1 n2 := by unfold ar; rw [F1.1, F1.2.1]; exact h2
    refine qX12_copies_3 rfl h1' (fun _ => by rw [nI_add]; exact vi (by omega) (by omega)) h2' (fun _ => by rw [nI_add]; exact vi (by omega) (by omega)) (fun r => absurd r (ngl 19 rfl (by decide) hi)) (fun _ => ?_)
    rw [nI_1, nI_add, nI_add, nI_clamp (by omega), nI_clamp (by omega)]
    refine ih _ (fun k hk => ?_) (fun j hj => ?_) (F1.wi rfl)
    · rw [wi_at]
      by_cases e : k = i
      · rw [if_pos ⟨rfl, by omega⟩, e, F1.i hne]
      · rw [if_neg (by omega)]; exact A k (by omega)
    · rw [wi_at, if_neg (by omega)]; exact B j hj
theorem tX12_drawerOf {hl : Nat} (L : Lay M la lb pa pb0 rl) (R : RCo M c F) (O : COk c F) (S : RSt (mi M 162) (cn c) (ch c) T) (TO : TOk c T) (hh : hl < 100) : R0 g YX12_drawerOf d [.ref 130, .int (nI hl)] M (Ans (td (tvOf (cn c) T) hl) M) := by
  have h10 := O.1
  have h6 := O.2.1
  have e : mi M 132 0 = nI (cn c) := R.1
  refine R0.of (by decide +kernel) (Nat.le_of_ble_eq_true rfl) rfl (qX12_drawerOf_0 ?_)
  have key := up0 (p := fun i => E0 g YX12_drawerOf d 4 [(0, .ref 130), (1, .int (nI hl)), (2, .int (pb (fun k => T.1 k == hl + 1) i)), (3, .int (nI i))] [] M (Ans (td (tvOf (cn c) T) hl) M)) (cn c) (qX12_drawerOf_4 L (fun r => absurd (by rw [e]; exact Int32.le_refl _) r) (fun _ => ⟨rfl, rfl⟩) (fun r => absurd (by rw [e]; exact Int32.le_refl _) r) (fun r => absurd (by rw [e]; exact Int32.le_refl _) r)) (fun i hi ih => ?_)
  · exact key
  · have lt : ¬ mi M 132 0 ≤ nI i := by rw [e, nI_leI (by omega) (by omega)]; omega
    have e9 : (9 + nI i : Int32) = nI (9 + i) := nI_add 9 i
    have t1 := TO.1 i hi
    have el : mi M 162 ((9 + nI i : Int32)).toNatClampNeg = nI hl + 1 ↔ T.1 i = hl + 1 := by
      rw [e9, nI_clamp (by omega), S.2.2.2.2 i hi, nI_1]
      exact nI_eq (by omega) (by omega)
    rw [← nI_1] at ih
    refine qX12_drawerOf_4 L (fun _ => by rw [e9]; exact vi (by omega) (by decide)) (fun r => absurd r lt) (fun _ r => ?_) (fun _ r => ?_) <;> rw [el] at r
    · rw [pb, if_neg (by simpa using r)] at ih
      rw [Int32.or_zero]; exact ih
    · rw [pb, if_pos (by simpa using r)] at ih
      exact ih
theorem tX12_inDrawers (L : Lay M la lb pa pb0 rl) (R : RCo M c F) (O : COk c F) (S : RSt (mi M 162) (cn c) (ch c) T) (TO : TOk c T) : R0 g YX12_inDrawers d [.ref 130] M (Ans (dOr (td (tvOf (cn c) T)) 6) M) := by
  have h10 := O.1
  have h6 := O.2.1
  have e : mi M 132 0 = nI (cn c) := R.1
  rw [dOr_T (by omega) (fun k hk => by have := TO.1 k hk; omega)]
  refine R0.of (by decide +kernel) (Nat.le_of_ble_eq_true rfl) rfl (qX12_inDrawers_0 ?_)
  have key := up0 (p := fun i => E0 g YX12_inDrawers d 4 [(0, .ref 130), (1, .int (pb (fun k => !(T.1 k == 0)) i)), (2, .int (nI i))] [] M (Ans (pb (fun k => !(T.1 k == 0)) (cn c)) M)) (cn c) (qX12_inDrawers_4 L (fun r => absurd (by rw [e]; exact Int32.le_refl _) r) (fun _ => ⟨rfl, rfl⟩) (fun r => absurd (by rw [e]; exact Int32.le_refl _) r) (fun r => absurd (by rw [e]; exact Int32.le_refl _) r)) (fun i hi ih => ?_)
  · exact key
  · have lt : ¬ mi M 132 0 ≤ nI i := by rw [e, nI_leI (by omega) (by omega)]; omega
    have e9 : (9 + nI i : Int32) = nI (9 + i) := nI_add 9 i
    have t1 := TO.1 i hi
    have el : mi M 162 ((9 + nI i : Int32)).toNatClampNeg ≤ 0 ↔ T.1 i = 0 := by
      rw [e9, nI_clamp (by omega), S.2.2.2.2 i hi]
      exact nI_le0 (by omega)
    rw [← nI_1] at ih
    refine qX12_inDrawers_4 L (fun _ => by rw [e9]; exact vi (by omega) (by decide)) (fun r => absurd r lt) (fun _ r => ?_) (fun _ r => ?_) <;> rw [el] at r
    · rw [pb, if_neg (by simp [r])] at ih
      rw [Int32.or_zero]; exact ih
    · rw [pb, if_pos (by simp [r])] at ih
      exact ih
abbrev inG2 : Nat → Prop := fun b => (144 ≤ b ∧ b ≤ 153) ∨ b = 162
theorem tX12_cuts {hl : Nat} (L : Lay M la lb pa pb0 rl) (R : RCo M c F) (O : COk c F) (S : RSt (mi M 162) (cn c) (ch c) T) (hh : hl < ch c) (hd : 6 ≤ d) : R0 g YX12_cuts d [.ref 130, .int (nI hl)] M (fun rv M1 => rv = none ∧ RSt (mi M1 162) (cn c) (ch c) (cutT c T hl) ∧ Fr inG2 M M1) := by
  have h10 := O.1
  have h6 := O.2.1
  obtain ⟨s0, s1, s2, s3, s4⟩ := S
  refine R0.of (by decide +kernel) (Nat.le_of_ble_eq_true rfl) rfl (qX12_cuts_0 L (K0.set (d1 := d - 1) (by omega) (tX12_takesOut L R O hh (by omega)) ?_))
  rintro rv M1 ⟨rfl, F1⟩
  have L1 := F1.lay L
  have e162 : mi M1 162 = mi M 162 := F1.i (by omega)
  have ex : mi M 162 0 = tp (tvOf (cn c) T) := s0
  have hp : tp (tvOf (cn c) T) &&& (cTk c hl (tp (tvOf (cn c) T)) ^^^ (-1)) = pb (fun k => (cutT c T hl).1 k == 0) (cn c) := congrArg (fun z : TV => z.1) (vShow_c (T := T) (hl := hl) h10)
  rw [ex]
  refine qX12_cuts_11 (M1 := wi M1 162 0 (pb (fun k => (cutT c T hl).1 k == 0) (cn c))) L1 (by rw [e162, ex, hp]) ?_
  have F2 : Fr inG2 M (wi M1 162 0 (pb (fun k => (cutT c T hl).1 k == 0) (cn c))) := (F1.mono (fun b hb => .inl hb)).wi (.inr rfl)
  have key := up0 (p := fun i => ∀ M2, mi M2 162 0 = pb (fun k => (cutT c T hl).1 k == 0) (cn c) → (∀ k, 1 ≤ k → k < 9 → mi M2 162 k = mi M 162 k) → (∀ k, k < i → mi M2 162 (9 + k) = nI ((cutT c T hl).1 k)) → (∀ k, i ≤ k → mi M2 162 (9 + k) = mi M 162 (9 + k)) → Fr inG2 M M2 → E0 g YX12_cuts d 26 [(0, .ref 130), (1, .int (nI hl)), (2, .int (cTk c hl (tp (tvOf (cn c) T)))), (3, .int (nI i))] [] M2 (fun rv M1 => rv = none ∧ RSt (mi M1 162) (cn c) (ch c) (cutT c T hl) ∧ Fr inG2 M M1)) (cn c) (fun M2 A B C D F3 => ?_) (fun i hi ih M2 A B C D F3 => ?_)
  · refine key _ (by rw [wi_at, if_pos ⟨rfl, rfl⟩]) (fun k h1 h2 => ?_) (fun k hk => absurd hk (by omega)) (fun k hk => ?_) F2
    · rw [wi_at, if_neg (by omega), e162]
    · rw [wi_at, if_neg (by omega), e162]
  · have R2 := R.fr F3 (fun b hb => by omega)
    have ge : mi M2 132 0 ≤ nI (cn c) := by rw [R2.1]; exact Int32.le_refl _
    refine qX12_cuts_26 (F3.lay L) rfl (fun z => absurd ge z) (fun _ => ⟨rfl, ⟨A, ?_, ?_, fun k hk => ?_, C⟩, F3⟩) (fun z => absurd ge z) (fun z => absurd ge z)
    · rw [B 1 (by omega) (by omega)]; exact s1
    · rw [B 2 (by omega) (by omega)]; exact s2
    · rw [B (3 + k) (by omega) (by omega)]; exact s3 k hk
  · have R2 := R.fr F3 (fun b hb => by omega)
    have lt : ¬ mi M2 132 0 ≤ nI i := by rw [R2.1, nI_leI (by omega) (by omega)]; omega
    have e9 : (9 + nI i : Int32) = nI (9 + i) := nI_add 9 i
    have ct : (cutT c T hl).1 i = if bt (cTk c hl (tp (tvOf (cn c) T))) i then hl + 1 else T.1 i := rfl
    refine qX12_cuts_26 (F3.lay L) rfl (fun _ _ => by rw [e9]; exact vi (by omega) (by decide)) (fun r => absurd r lt) (fun _ r => ?_) (fun _ r => ?_) <;> rw [nI_1]
    · rw [bit_f _ (by omega)] at r
      rw [if_neg (by rw [r]; decide)] at ct
      refine ih M2 A B (fun k hk => ?_) (fun k hk => D k (by omega)) F3
      by_cases e : k = i
      · rw [e, D i (Nat.le_refl _), ct]; exact s4 i hi
      · exact C k (by omega)
    · rw [bit_t _ (by omega)] at r
      rw [if_pos r] at ct
      rw [e9, nI_clamp (by omega), nI_1]
      refine ih _ ?_ (fun k h1 h2 => ?_) (fun k hk => ?_) (fun k hk => ?_) (F3.wi (.inr rfl))
      · rw [wi_at, if_neg (by omega)]; exact A
      · rw [wi_at, if_neg (by omega)]; exact B k h1 h2
      · rw [wi_at]
        by_cases e : k = i
        · rw [if_pos ⟨rfl, by omega⟩, e, ct]
        · rw [if_neg (by omega)]; exact C k (by omega)
      · rw [wi_at, if_neg (by omega)]; exact D k (by omega)
theorem RSt.hall (S : RSt (mi M 162) (cn c) (ch c) T) (O : COk c F) (hx : T.2.2.1 < ch c) : mi M 162 ((3 + mi M 162 1 : Int32)).toNatClampNeg = nI T.2.2.1 ∧ vp_in (3 + mi M 162 1) 19 := by
  have h6 := O.2.1
  obtain ⟨o1, o2⟩ := ordF_pl hx
  have e : (3 + mi M 162 1 : Int32) = nI (3 + plF (ch c) T) := by rw [S.2.1]; exact nI_add 3 _
  rw [e, nI_clamp (by omega), S.2.2.2.1 _ (by omega), o1]
  exact ⟨rfl, vi (by omega) (by decide)⟩
theorem tX12_shows (L : Lay M la lb pa pb0 rl) (R : RCo M c F) (O : COk c F) (S : RSt (mi M 162) (cn c) (ch c) T) (hx : T.2.2.1 < ch c) (hd : 7 ≤ d) : R0 g YX12_shows d [.ref 130] M (fun rv M1 => rv = none ∧ RSt (mi M1 162) (cn c) (ch c) (shT c T) ∧ Fr inG2 M M1) := by
  have h10 := O.1
  have h6 := O.2.1
  have hs := S.hall O hx
  refine R0.of (by decide +kernel) (Nat.le_of_ble_eq_true rfl) rfl (qX12_shows_0 L hs.2 ?_)
  rw [hs.1]
  refine K0.set (d1 := d - 1) (by omega) (tX12_cuts L R O S hx (by omega)) ?_
  rintro rv M1 ⟨rfl, ⟨s0, s1, s2, s3, s4⟩, F1⟩
  have R1 := R.fr F1 (fun b hb => by omega)
  have epl : plF (ch c) (cutT c T T.2.2.1) = plF (ch c) T := rfl
  have e1 : mi M1 162 1 + 1 = nI (plF (ch c) T + 1) := by rw [s1, epl, nI_1]
  have hpl := (ordF_pl hx).2
  have eg : shT c T = (if plF (ch c) T + 1 < ch c then ((cutT c T T.2.2.1).1, T.2.1, (if T.2.1 then ch c - 1 - (plF (ch c) T + 1) else plF (ch c) T + 1), T.2.2.2) else ((cutT c T T.2.2.1).1, T.2.1, (if T.2.1 then ch c - 1 else 0), T.2.2.2 + 1)) := rfl
  refine qX12_shows_17 (F1.lay L) rfl rfl rfl (fun r => ⟨rfl, ?_, ?_⟩) (fun r => ⟨rfl, ?_, ?_⟩)
  · rw [wi_at, if_neg (by omega), wi_at, if_pos ⟨rfl, rfl⟩, R1.2.1, e1, nI_leI (by omega) (by omega)] at r
    rw [eg, if_neg (by omega)]
    refine ⟨?_, ?_, ?_, fun k hk => ?_, fun k hk => ?_⟩
    · rw [wi_at, if_neg (by omega), wi_at, if_neg (by omega), wi_at, if_neg (by omega)]; exact s0
    · rw [wi_at, if_neg (by omega), wi_at, if_pos ⟨rfl, rfl⟩]
      unfold plF
      cases T.2.1
      · rfl
      · show (0 : Int32) = nI (ch c - 1 - (ch c - 1)); rw [Nat.sub_self]; rfl
    · rw [wi_at, if_pos ⟨rfl, rfl⟩, wi_at, if_neg (by omega), wi_at, if_neg (by omega), s2]; rfl
    · rw [wi_at, if_neg (by omega), wi_at, if_neg (by omega), wi_at, if_neg (by omega)]; exact s3 k hk
    · rw [wi_at, if_neg (by omega), wi_at, if_neg (by omega), wi_at, if_neg (by omega)]; exact s4 k hk
  · exact ((F1.wi (.inr rfl)).wi (.inr rfl)).wi (.inr rfl)
  · rw [wi_at, if_neg (by omega), wi_at, if_pos ⟨rfl, rfl⟩, R1.2.1, e1, nI_leI (by omega) (by omega)] at r
    rw [eg, if_pos (by omega)]
    refine ⟨?_, ?_, ?_, fun k hk => ?_, fun k hk => ?_⟩
    · rw [wi_at, if_neg (by omega)]; exact s0
    · rw [wi_at, if_pos ⟨rfl, rfl⟩, e1]
      unfold plF at r ⊢
      revert r
      cases T.2.1
      · intro r; rfl
      · intro r
        have r : ¬ ch c ≤ ch c - 1 - T.2.2.1 + 1 := r
        show nI (ch c - 1 - T.2.2.1 + 1) = nI (ch c - 1 - (ch c - 1 - (ch c - 1 - T.2.2.1 + 1)))
        congr 1; omega
    · rw [wi_at, if_neg (by omega), s2]; rfl
    · rw [wi_at, if_neg (by omega)]; exact s3 k hk
    · rw [wi_at, if_neg (by omega)]; exact s4 k hk
  · exact F1.wi (.inr rfl)
theorem RSt.back {k : Nat} {x : Nat} {y : Int32} (S : RSt (mi M 162) (cn c) (ch c) T) (hy : y = if x = 0 then mi M 162 0 ||| ((1 : Int32) <<< (nI k &&& 31)) else mi M 162 0) (h10 : cn c ≤ 10) (hk : k < cn c) (hx : x = 0 ∨ T.1 k ≠ 0) {M1 : MM} (e0 : mi M1 162 0 = y) (ek : mi M1 162 (9 + k) = nI x) (eo : ∀ j, j ≠ 0 → j ≠ 9 + k → mi M1 162 j = mi M 162 j) : RSt (mi M1 162) (cn c) (ch c) (tLay T k x) := by
  obtain ⟨s0, s1, s2, s3, s4⟩ := S
  refine ⟨?_, ?_, ?_, fun j hj => ?_, fun j hj => ?_⟩
  · rw [e0, hy, s0]
    refine pb_ext (by omega) (fun i hi => ?_)
    have hb := bt_pb (fun k => T.1 k == 0) (cn c) (by omega) i hi
    show bt (if x = 0 then _ else _) i = (decide (i < cn c) && ((if i = k then x else T.1 i) == 0))
    by_cases x0 : x = 0
    · rw [if_pos x0, b_or, hb, b_one (by omega) hi]
      by_cases e : i = k
      · rw [if_pos e, e, x0]; simp [hk]
      · rw [if_neg e, decide_eq_false e, Bool.or_false]
    · rw [if_neg x0, hb]
      by_cases e : i = k
      · have hT : T.1 k ≠ 0 := hx.resolve_left x0
        have q1 : (T.1 k == 0) = false := by simpa using hT
        have q2 : (x == 0) = false := by simpa using x0
        show (decide (i < cn c) && (T.1 i == 0)) = _
        rw [if_pos e, e, q1, q2]
      · rw [if_neg e]
  · rw [eo 1 (by omega) (by omega)]; exact s1
  · rw [eo 2 (by omega) (by omega)]; exact s2
  · rw [eo (3 + j) (by omega) (by omega)]; exact s3 j hj
  · show _ = nI (if j = k then x else T.1 j)
    by_cases e : j = k
    · rw [if_pos e, e]; exact ek
    · rw [if_neg e, eo (9 + j) (by omega) (by omega)]; exact s4 j hj
theorem tX12_goesBack {k : Nat} (L : Lay M la lb pa pb0 rl) (O : COk c F) (S : RSt (mi M 162) (cn c) (ch c) T) (hk : k < cn c) : R0 g YX12_goesBack d [.ref 130, .int (nI k)] M (fun rv M1 => rv = none ∧ RSt (mi M1 162) (cn c) (ch c) (tLay T k 0) ∧ Fr (inC 162) M M1) := by
  have h10 := O.1
  have e9 : (9 + nI k : Int32) = nI (9 + k) := nI_add 9 k
  refine R0.of (by decide +kernel) (Nat.le_of_ble_eq_true rfl) rfl (qX12_goesBack_0 L rfl rfl (by rw [e9]; exact vi (by omega) (by decide)) ⟨rfl, ?_, Fr.wi (S := inC 162) (Fr.wi (S := inC 162) Fr.rf rfl) rfl⟩)
  rw [e9, nI_clamp (by omega)]
  refine S.back (k := k) (x := 0) rfl h10 hk (.inl rfl) ?_ ?_ (fun j j0 j9 => ?_)
  · rw [wi_at, if_pos ⟨rfl, rfl⟩, wi_at, if_neg (by omega)]; rfl
  · rw [wi_at, if_neg (by omega), wi_at, if_pos ⟨rfl, rfl⟩]; rfl
  · rw [wi_at, if_neg (by omega), wi_at, if_neg (by omega)]
end RR
