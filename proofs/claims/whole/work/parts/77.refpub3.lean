/-! ===== the reference: a round judged, how long it lasts ===== -/
theorem wIn_sIn {x : Int32} {m : Nat} (hm : m + 1 < 2 ^ 31) : wIn x 0 (nI m) = sIn x (nI (m + 1)) := by
  by_cases q : x < 0
  · unfold wIn sIn
    rw [decide_eq_false (fun z => z q)]; rfl
  · obtain ⟨k, hk, rfl⟩ := nI_of q
    rw [wIn_nI hk (by omega), sIn_nI hk hm]
    exact decide_eq_decide.mpr (by omega)
/-- -1, or a number -/
def Ng (b : Int32) : Prop := b = -1 ∨ ∃ k, k < 2 ^ 31 ∧ b = nI k
theorem Ng.ge {b : Int32} (h : Ng b) : 0 ≤ b ↔ b ≠ -1 := by
  rcases h with rfl | ⟨k, hk, rfl⟩
  · decide
  · exact ⟨fun _ => nI_m1 hk, fun _ => by rw [show (0 : Int32) = nI 0 from rfl, nI_leI (by decide) hk]; omega⟩
theorem Ng.lt {b : Int32} (h : Ng b) : b < 0 ↔ b = -1 := by
  rcases h with rfl | ⟨k, hk, rfl⟩
  · decide
  · exact ⟨fun z => absurd z (nI_pos hk), fun z => absurd z (nI_m1 hk)⟩
theorem Ng.n {k : Nat} (h : k < 2 ^ 31) : Ng (nI k) := .inr ⟨k, h, rfl⟩
theorem Ng.m : Ng (-1) := .inl rfl
section P3
variable {g : GG} {d : Nat} {M : MM} {la lb pa pb0 rl : Nat} {c : CD} {F : Nat → (Nat → Int32) → Int32} {T : TT} {u : UU} {p : PP}
/-- laid aside, and taken back -/
theorem Sc.back {M1 M2 M3 : MM} (c1 : ∀ k, k < 19 → mi M1 163 (0 + k) = mi M 162 (0 + k)) (F1 : Fr (inC 163) M M1) (F2 : Fr inSc M1 M2) (h163 : ∀ k, k < 19 → mi M2 163 k = mi M1 163 k) (h1 : mi M2 130 1 = mi M1 130 1) (h49 : mi M2 130 49 = mi M1 130 49) (c3 : ∀ k, k < 19 → mi M3 162 (0 + k) = mi M2 163 (0 + k)) (F3 : Fr (inC 162) M2 M3) : Sc M M3 := by
  refine ⟨((F1.mono (fun b hb => by omega)).trans F2).trans (F3.mono (fun b hb => by omega)), ?_, ?_, fun k hk => ?_⟩
  · rw [F3.i (by omega), h1, F1.i (by omega)]
  · rw [F3.i (by omega), h49, F1.i (by omega)]
  · have a := c3 k hk
    have b := c1 k hk
    rw [Nat.zero_add] at a b
    rw [a, h163 k hk, b]
/-- the row is laid back -/
theorem K0.cb {Y : YY} {pc : Nat} {lv : List (Nat × Value)} {M0 M1 M2 : MM} {P : Option Value → MM → Prop} (L : Lay M2 la lb pa pb0 rl) (c1 : ∀ k, k < 19 → mi M1 163 (0 + k) = mi M0 162 (0 + k)) (F1 : Fr (inC 163) M0 M1) (F2 : Fr inSc M1 M2) (h163 : ∀ k, k < 19 → mi M2 163 k = mi M1 163 k) (h1 : mi M2 130 1 = mi M1 130 1) (h49 : mi M2 130 49 = mi M1 130 49) (hd : 1 ≤ d) (k : ∀ M3, Sc M0 M3 → Fr (inC 162) M2 M3 → E0 g Y d pc lv [] M3 P) : K0 g Y YX12_copies d pc [.ref 163, .int 0, .ref 162, .int 0] lv [] M2 P := by
  refine K0.set (d1 := d - 1) (by omega) (tX12_copies (x := 0) (y := 0) (L.s (a := 163) rfl (by decide)) (L.s (a := 162) rfl (by decide)) (by omega) (by omega) (by decide) (by decide) (by decide)) ?_
  rintro rv M3 ⟨rfl, c3, -, F3⟩
  exact k M3 (Sc.back c1 F1 F2 h163 h1 h49 c3 F3) F3
theorem tX12_judged {x : Int32} (L : Lay M la lb pa pb0 rl) (R : RCo M c F) (O : COk c F) (Q : RLn M 0 p) (PO : POc c p) (hd : 9 ≤ d) : R0 g YX12_judged d [.ref 130, .int x] M (QR (judA c p x) M) := by
  have h10 := O.1
  have h6 := O.2.1
  have s1 : Sc M (wi M 130 0 0) := Sc.t0
  have L1 := s1.1.lay L
  have w1 : wIn x 0 2 = sIn x 3 := wIn_sIn (m := 2) (by decide)
  have p40 := PO.1
  refine R0.of (by decide +kernel) (Nat.le_of_ble_eq_true rfl) rfl (qX12_judged_0 L rfl (K0.ans (d1 := d - 1) (by omega) tX12_within ?_))
  rw [w1]
  unfold judA
  cases q : sIn x 3
  · exact qX12_judged_11 L1 (fun z => absurd rfl z) (fun _ => ⟨rfl, s1⟩)
  · rw [if_pos rfl]
    refine qX12_judged_11 L1 (fun _ => K0.set (d1 := d - 1) (by omega) (tX12_copies (x := 0) (y := 0) (L1.s (a := 162) rfl (by decide)) (L1.s (a := 163) rfl (by decide)) (by omega) (by omega) (by decide) (by decide) (by decide)) ?_) (fun z => absurd z (by decide))
    rintro rv B ⟨rfl, cB, -, FB⟩
    have LB := FB.lay L1
    have RB : RCo B c F := (R.sc s1).fr FB (fun b hb => by omega)
    refine qX12_judged_30 LB (K0.set (d1 := d - 1) (by omega) (tX12_fresh LB RB h10 (by omega)) ?_)
    rintro rv M1 ⟨rfl, S1, F1⟩
    refine qX12_judged_34 ?_
    have QB : RLn B 0 p := (Q.fr s1.1 (fun b h1 h2 => by omega)).fr FB (fun b h1 h2 => by omega)
    have key : ∀ j i T b s m M2, i + j = p.1 → RSt (mi M2 162) (cn c) (ch c) T → TOk c T → Ng b → Ng s → Fr inG2 B M2 → E0 g YX12_judged d 44 [(0, .ref 130), (1, .int x), (2, .int b), (3, .int s), (4, .int m), (5, .int (nI i))] [] M2 (QR (if x = 0 then (judT c p j i T b s m).1 else if x = 1 then (judT c p j i T b s m).2.1 else (judT c p j i T b s m).2.2) M) := by
      intro j
      induction j with
      | zero =>
        intro i T b s m M2 hij S2 TO nb ns F2
        have Q2 := QB.fr F2 (fun b h1 h2 => by omega)
        have ge : mi M2 154 0 ≤ nI i := by rw [Q2.1, show i = p.1 by omega]; exact Int32.le_refl _
        refine qX12_judged_44 (F2.lay LB) (fun _ => K0.cb (F2.lay LB) cB FB (F2.mono (fun b hb => by omega)) (fun k _ => by rw [F2.i (by omega)]) (by rw [F2.i (by omega)]) (by rw [F2.i (by omega)]) (by omega) (fun M3 s3 _ => ?_)) (fun z => absurd ge z)
        refine qX12_judged_147 (fun r1 r2 => ⟨?_, s1.trans s3⟩) (fun r1 r2 => ⟨?_, s1.trans s3⟩) (fun r => ⟨?_, s1.trans s3⟩)
        · rw [if_neg r1, if_neg r2]; rfl
        · rw [if_neg r1, if_pos r2]; rfl
        · rw [if_pos r]; rfl
      | succ j ih =>
        intro i T b s m M2 hij S2 TO nb ns F2
        have Q2 := QB.fr F2 (fun b h1 h2 => by omega)
        have R2 := RB.fr F2 (fun b hb => by omega)
        have L2 := F2.lay LB
        have lt : ¬ mi M2 154 0 ≤ nI i := by rw [Q2.1, nI_leI (by omega) (by omega)]; omega
        have hi : i < p.1 := by omega
        have hv : vp_in (nI i) 240 := vi (by omega) (by decide)
        refine qX12_judged_44 L2 (fun z => absurd z lt) (fun _ => K0.set (d1 := d - 1) (by omega) (tX12_goes L2 R2 O S2 TO Q2 PO hi (by omega)) ?_)
        rintro rv M3 ⟨rfl, S3, F3⟩
        have F03 := F2.trans F3
        have L3 := F03.lay LB
        have R3 := RB.fr F03 (fun b hb => by omega)
        have Q3 := QB.fr F03 (fun b h1 h2 => by omega)
        have ew : mi M3 155 (nI i).toNatClampNeg = 0 ↔ p.2.1 i = 0 := by
          have := (Q3.2 i hi).1
          rw [Nat.mul_zero, Nat.zero_add] at this
          rw [nI_clamp (by omega), this, show (0 : Int32) = nI 0 from rfl]
          exact nI_eq (by have := (PO.2 i hi).1; omega) (by decide)
        cases jp : jPos c T p i
        · rw [jp, if_neg (by decide)] at S3
          have eJ : judT c p (j + 1) i T b s m = judT c p j (i + 1) T (if b = -1 then nI i else b) s m := by rw [judT, jp, if_neg (by decide)]
          rw [eJ]
          refine qX12_judged_61 L3 (fun z => absurd rfl z) (fun _ _ z => absurd rfl z) (fun _ _ z => absurd rfl z) (fun z => absurd rfl z) (fun z => absurd rfl z) (fun z => absurd rfl z) (fun _ r _ => ?_) (fun _ _ z => absurd rfl z) (fun _ _ z => absurd rfl z) (fun _ r _ => ?_) (fun _ _ z => absurd rfl z) (fun _ _ z => absurd rfl z)
          · rw [nb.ge] at r
            rw [if_neg r, nI_1]
            exact ih (i + 1) T b s m M3 (by omega) S3 TO nb ns F03
          · rw [nb.ge] at r
            rw [if_pos (Classical.not_not.mp r), nI_1]
            exact ih (i + 1) T (nI i) s m M3 (by omega) S3 TO (Ng.n (by omega)) ns F03
        · rw [jp, if_pos rfl] at S3
          have TO3 : TOk c (jGo c T p i) := by
            unfold jGo
            have P := PO.2 i hi
            split
            · rename_i z
              unfold jPos at jp
              rw [if_pos z] at jp
              exact TO.sh (of_decide_eq_true jp)
            · split
              · exact TO.turn
              · split
                · exact TO.lay (Nat.zero_le _)
                · exact TO.lay (by have := P.2.2 (by omega); omega)
          refine qX12_judged_61 L3 (fun _ _ => hv) (fun z => absurd z (by decide)) (fun z => absurd z (by decide)) (fun _ z => absurd z (by decide)) (fun _ _ r => ?_) (fun _ _ r => ?_) (fun z => absurd z (by decide)) (fun z => absurd z (by decide)) (fun z => absurd z (by decide)) (fun z => absurd z (by decide)) (fun z => absurd z (by decide)) (fun z => absurd z (by decide)) <;> rw [ew] at r
          · have eJ : judT c p (j + 1) i T b s m = judT c p j (i + 1) (jGo c T p i) b (if s = -1 then (if cSen c (tp (tvOf (cn c) (jGo c T p i))) then -1 else nI i) else s) (m + cMin c (tp (tvOf (cn c) (jGo c T p i)))) := by rw [judT, jp, if_pos rfl, if_pos r]
            rw [eJ, S3.1]
            refine K0.ans (d1 := d - 1) (by omega) (tX12_minutesOf L3 R3 O) (qX12_judged_105 L3 (fun z => ?_) (fun z => ?_)) <;> rw [ns.ge] at z
            · rw [if_neg z, nI_1]
              exact ih (i + 1) _ b s _ M3 (by omega) S3 TO3 nb ns F03
            · rw [if_pos (Classical.not_not.mp z), S3.1]
              refine K0.ans (d1 := d - 1) (by omega) (tX12_makesSense L3 R3 O) (qX12_judged_122 (fun y => ?_) (fun y => ?_)) <;> rw [nI_1]
              · rw [b2i_n] at y
                rw [show cSen c (tp (tvOf (cn c) (jGo c T p i))) = true from y, if_pos rfl]
                rw [Classical.not_not.mp z]
                exact ih (i + 1) _ b (-1) _ M3 (by omega) S3 TO3 nb Ng.m F03
              · rw [b2i_z] at y
                rw [show cSen c (tp (tvOf (cn c) (jGo c T p i))) = false from y, if_neg (show ¬ (false = true) by decide)]
                exact ih (i + 1) _ b (nI i) _ M3 (by omega) S3 TO3 nb (Ng.n (by omega)) F03
          · have eJ : judT c p (j + 1) i T b s m = judT c p j (i + 1) (jGo c T p i) b s m := by rw [judT, jp, if_pos rfl, if_neg r]
            rw [eJ, nI_1]
            exact ih (i + 1) _ b s m M3 (by omega) S3 TO3 nb ns F03
    exact key p.1 0 T0 (-1) (-1) 0 M1 (by omega) S1 (T0_ok c) Ng.m Ng.m (F1.mono (fun b hb => .inr hb))
theorem tX12_lasts (L : Lay M la lb pa pb0 rl) (R : RCo M c F) (O : COk c F) (S : RSt (mi M 162) (cn c) (ch c) T) (TO : TOk c T) (hd : 8 ≤ d) : R0 g YX12_lasts d [.ref 130] M (QR (lastF c 100 0 (tvOf (cn c) T)) M) := by
  have h10 := O.1
  have h6 := O.2.1
  have s1 : Sc M (wi M 130 0 0) := Sc.t0
  have L1 := s1.1.lay L
  refine R0.of (by decide +kernel) (Nat.le_of_ble_eq_true rfl) rfl (qX12_lasts_0 L rfl (K0.set (d1 := d - 1) (by omega) (tX12_copies (x := 0) (y := 0) (L1.s (a := 162) rfl (by decide)) (L1.s (a := 163) rfl (by decide)) (by omega) (by omega) (by decide) (by decide) (by decide)) ?_))
  rintro rv B ⟨rfl, cB, -, FB⟩
  have LB := FB.lay L1
  have RB : RCo B c F := (R.sc s1).fr FB (fun b hb => by omega)
  have SB : RSt (mi B 162) (cn c) (ch c) T := by rw [FB.i (by omega), t0row]; exact S
  refine qX12_lasts_18 ?_
  have key : ∀ j i T M2, i + j = 100 → RSt (mi M2 162) (cn c) (ch c) T → TOk c T → Fr inG2 B M2 → E0 g YX12_lasts d 20 [(0, .ref 130), (1, .int (nI i))] [] M2 (QR (lastF c j i (tvOf (cn c) T)) M) := by
    intro j
    induction j with
    | zero =>
      intro i T M2 hij S2 TO F2
      have hi : i = 100 := by omega
      subst hi
      have ge : (100 : Int32) ≤ nI 100 := by decide
      have fin : ∀ y : Int32, K0 g YX12_lasts YX12_copies d 82 [.ref 163, .int 0, .ref 162, .int 0] [(1, .int (nI 100)), (2, .int y)] [] M2 (QR (lastF c 0 100 (tvOf (cn c) T)) M) := fun y => K0.cb (F2.lay LB) cB FB (F2.mono (fun b hb => by omega)) (fun k _ => by rw [F2.i (by omega)]) (by rw [F2.i (by omega)]) (by rw [F2.i (by omega)]) (by omega) (fun M3 s3 _ => qX12_lasts_82 (fun _ => ⟨rfl, s1.trans s3⟩) (fun _ _ => ⟨rfl, s1.trans s3⟩) (fun _ z => absurd ge z))
      exact qX12_lasts_20 (F2.lay LB) (fun _ _ => fin 0) (fun _ _ => fin 1) (fun z => absurd ge z) (fun z => absurd ge z) (fun z => absurd ge z) (fun z => absurd ge z) (fun z => absurd ge z)
    | succ j ih =>
      intro i T M2 hij S2 TO F2
      have lt : ¬ (100 : Int32) ≤ nI i := ngl 100 rfl (by decide) (by omega)
      have L2 := F2.lay LB
      have R2 := RB.fr F2 (fun b hb => by omega)
      have ep : mi M2 162 0 = 0 ↔ tp (tvOf (cn c) T) = 0 := by rw [S2.1]; exact Iff.rfl
      have eh : mi M2 132 1 ≤ 0 ↔ ch c = 0 := by rw [R2.2.1]; exact nI_le0 (by omega)
      have fin : ∀ y : Int32, lastF c (j + 1) i (tvOf (cn c) T) = (if y = 0 then -1 else nI i) → K0 g YX12_lasts YX12_copies d 82 [.ref 163, .int 0, .ref 162, .int 0] [(1, .int (nI i)), (2, .int y)] [] M2 (QR (lastF c (j + 1) i (tvOf (cn c) T)) M) := fun y hy => K0.cb L2 cB FB (F2.mono (fun b hb => by omega)) (fun k _ => by rw [F2.i (by omega)]) (by rw [F2.i (by omega)]) (by rw [F2.i (by omega)]) (by omega) (fun M3 s3 _ => qX12_lasts_82 (fun z => ⟨by rw [hy, if_pos z], s1.trans s3⟩) (fun _ z => absurd z lt) (fun z _ => ⟨by rw [hy, if_neg z], s1.trans s3⟩))
      refine qX12_lasts_20 L2 (fun z => absurd z lt) (fun z => absurd z lt) (fun _ a b => absurd a b) (fun _ a _ => fin 1 ?_) (fun _ a b _ => fin 0 ?_) (fun _ a b e => absurd e a) (fun _ a b => ?_)
      · rw [lastF, if_pos (ep.mp a)]; rfl
      · rw [lastF, if_neg (fun z => a (ep.mpr z)), if_pos (eh.mp b)]; rfl
      · have hne : ¬ ch c = 0 := fun z => b (eh.mpr z)
        have x0 := TO.2
        rw [if_neg hne] at x0
        refine K0.set (d1 := d - 1) (by omega) (tX12_shows L2 R2 O S2 x0 (by omega)) ?_
        rintro rv M3 ⟨rfl, S3, F3⟩
        rw [lastF, if_neg (fun z => a (ep.mpr z)), if_neg hne, vSh_T h10 h6 x0]
        refine qX12_lasts_48 ?_
        rw [nI_1]
        exact ih (i + 1) _ M3 (by omega) S3 (TO.sh hne) (F2.trans F3)
  exact key 100 0 T B (by omega) SB TO Fr.rf
end P3
