/-! ===== a law's value ===== -/
def mkE (a b c e : Int32) : Nat → Int32 := fun i => if i = 1 then a else if i = 2 then b else if i = 3 then c else e
def vAtom (env : Nat → Int32) (c : Int32) : Int32 := if c.toInt = -4 then env 4 else if c.toInt = -3 then env 3 else if c.toInt = -2 then env 2 else if c.toInt = -1 then env 1 else c
def vJoin (c x y : Int32) : Int32 := if c.toInt = -11 then x - y else if c.toInt = -10 then x + y else if c.toInt = -9 then (if x = y then 1 else 0) else if c.toInt = -8 then (if x < y then 1 else 0) else if c.toInt = -7 then (if x = 0 ∧ y = 0 then 0 else 1) else if c.toInt = -6 then (if x = 0 ∨ y = 0 then 0 else 1) else x * y
def vStep (env : Nat → Int32) (c : Int32) (S : List Int32) : Option (List Int32) :=
  if ¬ c ≤ -5 then (if S.length < 24 then some (vAtom env c :: S) else none)
  else if c = -5 then (match S with | [] => none | x :: S => some ((if x = 0 then 1 else 0) :: S))
  else (match S with | y :: x :: S => some (vJoin c x y :: S) | _ => none)
def vRun (env : Nat → Int32) : List Int32 → List Int32 → Option (List Int32)
  | [], S => some S
  | c :: cc, S => (vStep env c S).bind (vRun env cc)
theorem vRun_app {env : Nat → Int32} : ∀ {a b S S1}, vRun env a S = some S1 → vRun env (a ++ b) S = vRun env b S1
  | [], b, S, S1, h => by
    have h : some S = some S1 := h
    rw [Option.some.inj h]; rfl
  | c :: a, b, S, S1, h => by
    rw [List.cons_append, vRun]
    rw [vRun] at h
    cases q : vStep env c S with
    | none => rw [q] at h; cases h
    | some S2 =>
      rw [q] at h
      exact vRun_app h
def StIs (M : MM) (a : Nat) : List Int32 → Prop
  | [] => True
  | x :: S => mi M (a + 3) S.length = x ∧ StIs M a S
theorem StIs.wi {M : MM} {a k : Nat} {v : Int32} : ∀ {S : List Int32}, StIs M a S → S.length ≤ k → StIs (wi M (a + 3) k v) a S
  | [], _, _ => trivial
  | x :: S, h, hk => by
    have hk : S.length + 1 ≤ k := hk
    exact ⟨by rw [wi_at, if_neg (by omega)]; exact h.1, StIs.wi h.2 (by omega)⟩
def SegIs (M : MM) (a : Nat) : Nat → List Int32 → Prop
  | _, [] => True
  | i, c :: cc => mi M (a + 1) i = c ∧ SegIs M a (i + 1) cc
theorem SegIs.to {M M1 : MM} {a : Nat} (h : mi M1 (a + 1) = mi M (a + 1)) : ∀ {i cc}, SegIs M a i cc → SegIs M1 a i cc
  | _, [], _ => trivial
  | i, c :: cc, q => ⟨by rw [h]; exact q.1, SegIs.to h q.2⟩
/-- hall hl's law has this value -/
def LwIs (M : MM) (a hl : Nat) (F : (Nat → Int32) → Int32) : Prop := ∃ b cc, (if hl = 0 then b = 0 else mi M (a + 2) (hl - 1) = nI b) ∧ mi M (a + 2) hl = nI (b + cc.length) ∧ b + cc.length ≤ 1000 ∧ SegIs M a b cc ∧ ∀ env, vRun env cc [] = some [F env]
theorem LwIs.to {M M1 : MM} {a hl : Nat} {F : (Nat → Int32) → Int32} (h : LwIs M a hl F) (h1 : mi M1 (a + 1) = mi M (a + 1)) (h2 : mi M1 (a + 2) = mi M (a + 2)) : LwIs M1 a hl F := by
  obtain ⟨b, cc, q1, q2, q3, q4, q5⟩ := h
  exact ⟨b, cc, by rw [h2]; exact q1, by rw [h2]; exact q2, q3, q4.to h1, q5⟩
section TX2
variable {g : GG} {d : Nat} {M : MM} {a : Nat}
theorem tX2_join {c x y : Int32} : R0 g YX2_join d [.int c, .int x, .int y] M (Ans (vJoin c x y) M) := by
  refine R0.of (by decide +kernel) (Nat.le_of_ble_eq_true rfl) rfl (qX2_join_0 (fun r => ⟨?_, rfl⟩) (fun r => ⟨?_, rfl⟩) (fun r => ⟨?_, rfl⟩) (fun r r1 => ⟨?_, rfl⟩) (fun r r1 => ⟨?_, rfl⟩) (fun r r1 => ⟨?_, rfl⟩) (fun r r1 => ⟨?_, rfl⟩) (fun r r1 => ⟨?_, rfl⟩) (fun r r1 r2 => ⟨?_, rfl⟩) (fun r r1 r2 => ⟨?_, rfl⟩) (fun r r1 => ⟨?_, rfl⟩) (fun r r1 r2 => ⟨?_, rfl⟩) (fun r r1 r2 => ⟨?_, rfl⟩)) <;> unfold vJoin
  · rw [if_neg (by omega), if_neg (by omega), if_neg (by omega), if_neg (by omega), if_neg (by omega), if_neg (by omega)]
  · rw [if_pos r]
  · rw [if_neg (by omega), if_pos r]
  · rw [if_neg (by omega), if_neg (by omega), if_pos r, if_neg r1]
  · rw [if_neg (by omega), if_neg (by omega), if_pos r, if_pos r1]
  · rw [if_neg (by omega), if_neg (by omega), if_neg (by omega), if_pos r, if_neg (Int32.not_lt.mpr r1)]
  · rw [if_neg (by omega), if_neg (by omega), if_neg (by omega), if_pos r, if_pos (Int32.not_le.mp r1)]
  · rw [if_neg (by omega), if_neg (by omega), if_neg (by omega), if_neg (by omega), if_pos r, if_neg (fun z => r1 z.1)]
  · rw [if_neg (by omega), if_neg (by omega), if_neg (by omega), if_neg (by omega), if_pos r, if_pos ⟨r1, r2⟩]
  · rw [if_neg (by omega), if_neg (by omega), if_neg (by omega), if_neg (by omega), if_pos r, if_neg (fun z => r2 z.2)]
  · rw [if_neg (by omega), if_neg (by omega), if_neg (by omega), if_neg (by omega), if_neg (by omega), if_pos r, if_pos (.inl r1)]
  · rw [if_neg (by omega), if_neg (by omega), if_neg (by omega), if_neg (by omega), if_neg (by omega), if_pos r, if_pos (.inr r2)]
  · rw [if_neg (by omega), if_neg (by omega), if_neg (by omega), if_neg (by omega), if_neg (by omega), if_pos r, if_neg (fun z => by rcases z with z | z <;> contradiction)]
theorem vf_run {hl : Nat} {kd mn pl ah v : Int32} (h6 : hl < 6) (hd : 1 ≤ d) : ∀ (cc : List Int32) (i : Nat) (S : List Int32) (M1 : MM), Lws M1 a → Fr (fun b => b = a + 3) M M1 → mi M1 (a + 2) hl = nI (i + cc.length) → i + cc.length ≤ 1000 → SegIs M1 a i cc → StIs M1 a S → S.length ≤ 24 → vRun (mkE kd mn pl ah) cc S = some [v] →
    E0 g YX2_valueFor d 33 [(0, .ref a), (1, .int (nI hl)), (2, .int kd), (3, .int mn), (4, .int pl), (5, .int ah), (6, .int (nI S.length)), (7, .int (nI i))] [] M1 (fun rv M2 => rv = some (.int v) ∧ Fr (fun b => b = a + 3) M M2)
  | [], i, S, M1, C, F1, he, hi, hs, hst, hS, hr => by
    have hr : some S = some [v] := hr
    have hr := Option.some.inj hr
    subst hr
    have he : mi M1 (a + 2) hl = nI i := he
    have le : mi M1 (a + 2) (nI hl).toNatClampNeg ≤ nI i := by rw [nI_clamp (by omega), he]; exact nI_le (Nat.le_refl _) (by simp at hi; omega)
    have hst : mi M1 (a + 3) 0 = v ∧ True := hst
    refine qX2_valueFor_33 C rfl rfl rfl rfl rfl rfl rfl (vi h6 (by decide)) (fun r => absurd le r) (fun r => absurd le r) (fun r => absurd le r) (fun r => absurd le r) (fun r => absurd le r) (fun r => absurd le r) (fun r => absurd le r) (fun r => absurd le r) (fun r => absurd le r) (fun r => absurd le r) (fun r => absurd le r) (fun _ => ⟨by rw [hst.1], F1⟩) (fun r => absurd le r) (fun r => absurd le r) (fun r => absurd le r) (fun r => absurd le r) (fun r => absurd le r) (fun r => absurd le r) (fun r => absurd le r) (fun r => absurd le r) (fun r => absurd le r) (fun r => absurd le r) (fun r => absurd le r) (fun r => absurd le r)
  | c :: cc, i, S, M1, C, F1, he, hi, hs, hst, hS, hr => by
    have hi2 : i + (cc.length + 1) ≤ 1000 := hi
    have he2 : mi M1 (a + 2) hl = nI (i + (cc.length + 1)) := he
    have nle : ¬ mi M1 (a + 2) (nI hl).toNatClampNeg ≤ nI i := by rw [nI_clamp (by omega), he2, nI_leI (by omega) (by omega)]; omega
    have n1000 : ¬ (1000 : Int32) ≤ nI i := ngl 1000 rfl (by decide) (by omega)
    have ec : mi M1 (a + 1) (nI i).toNatClampNeg = c := by rw [nI_clamp (by omega)]; exact hs.1
    have vin : vp_in (nI i) 1000 := vi (by omega) (by decide)
    have vhl : vp_in (nI hl) 6 := vi h6 (by decide)
    rw [vRun] at hr
    have goOn : ∀ S2 M2, vStep (mkE kd mn pl ah) c S = some S2 → (∃ k x, M2 = wi M1 (a + 3) k x) → StIs M2 a S2 → S2.length ≤ 24 → E0 g YX2_valueFor d 33 [(0, .ref a), (1, .int (nI hl)), (2, .int kd), (3, .int mn), (4, .int pl), (5, .int ah), (6, .int (nI S2.length)), (7, .int (nI i + 1))] [] M2 (fun rv M2 => rv = some (.int v) ∧ Fr (fun b => b = a + 3) M M2) := by
      rintro S2 M2 q ⟨k, x, rfl⟩ q3 q4
      rw [q] at hr
      have Fw : Fr (fun b => b = a + 3) M1 (wi M1 (a + 3) k x) := Fr.rf.wi rfl
      rw [nI_1]
      exact vf_run h6 hd cc (i + 1) S2 _ (Fw.lws C) (F1.trans Fw) (by rw [Fw.i (by omega), he2]; congr 1; omega) (by omega) (hs.2.to (Fw.i (by omega))) q3 q4 hr
    have goOn2 : ∀ S2 M2, vStep (mkE kd mn pl ah) c S = some S2 → (∃ k x k1 x1, M2 = wi (wi M1 (a + 3) k x) (a + 3) k1 x1) → StIs M2 a S2 → S2.length ≤ 24 → E0 g YX2_valueFor d 33 [(0, .ref a), (1, .int (nI hl)), (2, .int kd), (3, .int mn), (4, .int pl), (5, .int ah), (6, .int (nI S2.length)), (7, .int (nI i + 1))] [] M2 (fun rv M2 => rv = some (.int v) ∧ Fr (fun b => b = a + 3) M M2) := by
      rintro S2 M2 q ⟨k, x, k1, x1, rfl⟩ q3 q4
      rw [q] at hr
      have Fw : Fr (fun b => b = a + 3) M1 (wi (wi M1 (a + 3) k x) (a + 3) k1 x1) := Fr.wi (S := fun b => b = a + 3) (Fr.wi (S := fun b => b = a + 3) Fr.rf rfl) rfl
      rw [nI_1]
      exact vf_run h6 hd cc (i + 1) S2 _ (Fw.lws C) (F1.trans Fw) (by rw [Fw.i (by omega), he2]; congr 1; omega) (by omega) (hs.2.to (Fw.i (by omega))) q3 q4 hr
    -- a push
    have push : ¬ c ≤ -5 → ∃ S2, vStep (mkE kd mn pl ah) c S = some S2 ∧ S2 = vAtom (mkE kd mn pl ah) c :: S ∧ S.length < 24 := fun r => by
      unfold vStep at hr ⊢
      rw [if_pos r] at hr ⊢
      by_cases q : S.length < 24
      · rw [if_pos q]; exact ⟨_, rfl, rfl, q⟩
      · rw [if_neg q] at hr; cases hr
    have pin : ¬ c ≤ -5 → vp_in (nI S.length) 24 := fun r => by
      obtain ⟨_, _, _, q⟩ := push r
      exact vi q (by decide)
    have w1 : ∀ x, ¬ c ≤ -5 → vAtom (mkE kd mn pl ah) c = x → E0 g YX2_valueFor d 33 [(0, .ref a), (1, .int (nI hl)), (2, .int kd), (3, .int mn), (4, .int pl), (5, .int ah), (6, .int (nI S.length + 1)), (7, .int (nI i + 1))] [] (wi M1 (a + 3) S.length x) (fun rv M2 => rv = some (.int v) ∧ Fr (fun b => b = a + 3) M M2) := fun x r hx => by
      obtain ⟨S2, q1, q2, q3⟩ := push r
      have := goOn S2 (wi M1 (a + 3) S.length x) q1 ⟨_, _, rfl⟩ (by rw [q2]; exact ⟨by rw [wi_at, if_pos ⟨rfl, rfl⟩, hx], hst.wi (Nat.le_refl _)⟩) (by rw [q2]; exact q3)
      rw [q2, List.length_cons, ← nI_1] at this
      exact this
    have w2 : ∀ x y, ¬ c ≤ -5 → vAtom (mkE kd mn pl ah) c = x → E0 g YX2_valueFor d 33 [(0, .ref a), (1, .int (nI hl)), (2, .int kd), (3, .int mn), (4, .int pl), (5, .int ah), (6, .int (nI S.length + 1)), (7, .int (nI i + 1))] [] (wi (wi M1 (a + 3) S.length y) (a + 3) S.length x) (fun rv M2 => rv = some (.int v) ∧ Fr (fun b => b = a + 3) M M2) := fun x y r hx => by
      obtain ⟨S2, q1, q2, q3⟩ := push r
      have := goOn2 S2 (wi (wi M1 (a + 3) S.length y) (a + 3) S.length x) q1 ⟨_, _, _, _, rfl⟩ (by rw [q2]; exact ⟨by rw [wi_at, if_pos ⟨rfl, rfl⟩, hx], (hst.wi (Nat.le_refl _)).wi (Nat.le_refl _)⟩) (by rw [q2]; exact q3)
      rw [q2, List.length_cons, ← nI_1] at this
      exact this
    -- not
    have hnot : c = -5 → ∃ x S3, S = x :: S3 ∧ vStep (mkE kd mn pl ah) c S = some ((if x = 0 then 1 else 0) :: S3) := fun r => by
      unfold vStep at hr ⊢
      rw [if_neg (by rw [r]; decide), if_pos r] at hr ⊢
      cases S with
      | nil => cases hr
      | cons x S3 => exact ⟨x, S3, rfl, rfl⟩
    -- two are joined
    have hbin : c ≤ -5 → ¬ c = -5 → ∃ x y S3, S = y :: x :: S3 ∧ vStep (mkE kd mn pl ah) c S = some (vJoin c x y :: S3) := fun r r2 => by
      unfold vStep at hr ⊢
      rw [if_neg (fun z => z r), if_neg r2] at hr ⊢
      match S, hr with
      | [], hr => cases hr
      | [x], hr => cases hr
      | y :: x :: S3, _ => exact ⟨x, y, S3, rfl, rfl⟩
    have l1 : ∀ k : Nat, nI (k + 1) - 1 = nI k := nI_pred
    have l2 : ∀ k : Nat, nI (k + 1) + (-1) = nI k := fun k => by rw [← Int32.sub_eq_add_neg, nI_pred]
    refine qX2_valueFor_33 C rfl rfl rfl rfl rfl rfl rfl vhl (fun _ _ => vin) ?_ ?_ ?_ ?_ ?_ (fun _ _ r _ => by rw [ec] at r; exact pin r) (fun _ _ r _ _ => by rw [ec] at r; exact pin r) (fun _ _ r _ _ => by rw [ec] at r; exact pin r) (fun _ _ r _ _ => by rw [ec] at r; exact pin r) (fun _ _ r _ _ => by rw [ec] at r; exact pin r) (fun r => absurd r nle) (fun _ r => absurd r n1000) ?_ ?_ ?_ ?_ ?_ ?_ ?_ ?_ ?_ ?_ ?_
    · intro _ _ r r2 _
      rw [ec] at r r2
      obtain ⟨x, y, S3, rfl, -⟩ := hbin r r2
      rw [List.length_cons, l2, List.length_cons, l1]
      exact vi (by simp at hS; omega) (by decide)
    · intro _ _ r r2 _
      rw [ec] at r r2
      obtain ⟨x, y, S3, rfl, -⟩ := hbin r r2
      rw [List.length_cons, l2, List.length_cons]
      exact vi (by simp at hS; omega) (by decide)
    · intro _ _ _ r2 _
      rw [ec] at r2
      obtain ⟨x, S3, rfl, -⟩ := hnot r2
      rw [List.length_cons, l1]
      exact vi (by simp at hS; omega) (by decide)
    · intro _ _ _ r2 _ _
      rw [ec] at r2
      obtain ⟨x, S3, rfl, -⟩ := hnot r2
      rw [List.length_cons, l1]
      exact vi (by simp at hS; omega) (by decide)
    · intro _ _ _ r2 _ _
      rw [ec] at r2
      obtain ⟨x, S3, rfl, -⟩ := hnot r2
      rw [List.length_cons, l1]
      exact vi (by simp at hS; omega) (by decide)
    · intro _ _ r r2 _
      rw [ec] at r r2 ⊢
      obtain ⟨x, y, S3, rfl, q⟩ := hbin r r2
      have hl3 : S3.length + 1 + 1 ≤ 24 := hS
      have hst1 : mi M1 (a + 3) (S3.length + 1) = y ∧ mi M1 (a + 3) S3.length = x ∧ StIs M1 a S3 := hst
      rw [List.length_cons, List.length_cons, l2, l1, nI_clamp (by omega), nI_clamp (by omega), hst1.1, hst1.2.1]
      refine K0.ans (d1 := d - 1) (by omega) tX2_join (qX2_valueFor_256 rfl C.a3 (vi (by omega) (by decide)) ?_)
      rw [nI_clamp (by omega)]
      exact goOn (vJoin c x y :: S3) _ q ⟨_, _, rfl⟩ ⟨by rw [wi_at, if_pos ⟨rfl, rfl⟩], hst1.2.2.wi (Nat.le_refl _)⟩ (by show S3.length + 1 ≤ 24; omega)
    · intro _ _ r r2 r3
      rw [ec] at r r2
      obtain ⟨x, y, S3, rfl, q⟩ := hbin r r2
      have hl3 : S3.length + 1 + 1 ≤ 24 := hS
      exact absurd ((gel 2 rfl (by decide) (by show S3.length + 1 + 1 < 2 ^ 31; omega)).mpr (by show 2 ≤ S3.length + 1 + 1; omega)) r3
    · intro _ _ _ r2 _ r3
      rw [ec] at r2
      obtain ⟨x, S3, rfl, q⟩ := hnot r2
      have hl3 : S3.length + 1 ≤ 24 := hS
      have hst1 : mi M1 (a + 3) S3.length = x ∧ StIs M1 a S3 := hst
      rw [List.length_cons, l1, nI_clamp (by omega), hst1.1] at r3
      rw [List.length_cons, l1, nI_clamp (by omega)]
      rw [if_neg r3] at q
      exact goOn (0 :: S3) _ q ⟨_, _, rfl⟩ ⟨by rw [wi_at, if_pos ⟨rfl, rfl⟩], hst1.2.wi (Nat.le_refl _)⟩ hl3
    · intro _ _ _ r2 _ r3
      rw [ec] at r2
      obtain ⟨x, S3, rfl, q⟩ := hnot r2
      have hl3 : S3.length + 1 ≤ 24 := hS
      have hst1 : mi M1 (a + 3) S3.length = x ∧ StIs M1 a S3 := hst
      rw [List.length_cons, l1, nI_clamp (by omega), hst1.1] at r3
      rw [List.length_cons, l1, nI_clamp (by omega)]
      rw [if_pos r3] at q
      exact goOn (1 :: S3) _ q ⟨_, _, rfl⟩ ⟨by rw [wi_at, if_pos ⟨rfl, rfl⟩], hst1.2.wi (Nat.le_refl _)⟩ hl3
    · intro _ _ _ r2 r3
      rw [ec] at r2
      obtain ⟨x, S3, rfl, q⟩ := hnot r2
      have hl3 : S3.length + 1 ≤ 24 := hS
      exact absurd ((gel 1 rfl (by decide) (by show S3.length + 1 < 2 ^ 31; omega)).mpr (by show 1 ≤ S3.length + 1; omega)) r3
    · intro _ _ r _ r2
      rw [ec] at r r2 ⊢
      rw [nI_clamp (by omega)]
      exact w1 c r (by unfold vAtom; rw [if_neg (by omega), if_neg (by omega), if_neg (by omega), if_neg (by omega)])
    · intro _ _ r _ r2
      rw [ec] at r r2 ⊢
      rw [nI_clamp (by omega)]
      exact w2 ah c r (by unfold vAtom; rw [if_pos r2]; rfl)
    · intro _ _ r _ r2
      rw [ec] at r r2 ⊢
      rw [nI_clamp (by omega)]
      exact w2 pl c r (by unfold vAtom; rw [if_neg (by omega), if_pos r2]; rfl)
    · intro _ _ r _ r2
      rw [ec] at r r2 ⊢
      rw [nI_clamp (by omega)]
      exact w2 mn c r (by unfold vAtom; rw [if_neg (by omega), if_neg (by omega), if_pos r2]; rfl)
    · intro _ _ r _ r2
      rw [ec] at r r2 ⊢
      rw [nI_clamp (by omega)]
      exact w2 kd c r (by unfold vAtom; rw [if_neg (by omega), if_neg (by omega), if_neg (by omega), if_pos r2]; rfl)
    · intro _ _ r r2
      rw [ec] at r
      obtain ⟨_, _, _, q⟩ := push r
      exact absurd ((ltl 24 rfl (by decide) (by omega)).mpr q) r2
theorem tX2_valueFor {hl : Nat} {kd mn pl ah : Int32} {F : (Nat → Int32) → Int32} (C : Lws M a) (H : LwIs M a hl F) (h6 : hl < 6) (hd : 1 ≤ d) : R0 g YX2_valueFor d [.ref a, .int (nI hl), .int kd, .int mn, .int pl, .int ah] M (fun rv M1 => rv = some (.int (F (mkE kd mn pl ah))) ∧ Fr (fun b => b = a + 3) M M1) := by
  obtain ⟨b, cc, q1, q2, q3, q4, q5⟩ := H
  have h0 : ¬ nI hl < 0 := nI_pos (by omega)
  have h6' : nI hl < (6 : Int32) := (ltl 6 rfl (by decide) (by omega)).mpr h6
  have e0 : nI hl = 0 ↔ hl = 0 := by rw [show (0 : Int32) = nI 0 from rfl]; exact nI_eq (by omega) (by decide)
  have run := vf_run (g := g) (d := d) (M := M) (a := a) (kd := kd) (mn := mn) (pl := pl) (ah := ah) (v := F (mkE kd mn pl ah)) h6 hd cc b [] M C Fr.rf q2 q3 q4 trivial (by decide) (q5 _)
  refine R0.of (by decide +kernel) (Nat.le_of_ble_eq_true rfl) rfl (qX2_valueFor_0 C (fun _ _ r => ?_) (fun r => absurd r h0) (fun _ _ r => ?_) (fun _ _ r => ?_) (fun _ r => absurd h6' r))
  · rw [e0] at r
    rw [show (1 : Int32) = nI 1 from rfl, pk_sub (by omega)]
    exact vi (by omega) (by decide)
  · rw [e0] at r
    rw [show (1 : Int32) = nI 1 from rfl, pk_sub (by omega), nI_clamp (by omega)]
    rw [if_neg r] at q1
    rw [q1]
    exact run
  · rw [e0] at r
    rw [if_pos r] at q1
    subst q1
    exact run
end TX2
