/-! ===== the reference: tours by draws ===== -/
def rm (x : Int32) : Nat → Nat → Nat
  | 0, _ => 0
  | j + 1, k => (if bt x k then 1 else 0) + rm x j (k + 1)
theorem rm_end (x : Int32) : ∀ j k, rm x (j + 1) k = rm x j k + (if bt x (k + j) then 1 else 0)
  | 0, k => by rw [rm, rm, rm]; simp
  | j + 1, k => by
    rw [rm, rm_end x j (k + 1), rm, show k + 1 + j = k + (j + 1) by omega]; omega
theorem sBits_rm (x : Int32) : ∀ n, n ≤ 32 → sBits x n = nI (rm x n 0)
  | 0, _ => rfl
  | n + 1, h => by
    rw [sBits, sBits_rm x n (by omega), rm_end, bit_v x (by omega), Nat.zero_add, ← nI_add]
    split <;> rfl
theorem rm_le (x : Int32) : ∀ j k, rm x j k ≤ j
  | 0, _ => Nat.le_refl _
  | j + 1, k => by have := rm_le x j (k + 1); rw [rm]; split <;> omega
theorem rm_out {x : Int32} : ∀ j k, (∀ i, k ≤ i → i < k + j → bt x i = false) → rm x j k = 0
  | 0, _, _ => rfl
  | j + 1, k, h => by rw [rm, h k (Nat.le_refl _) (by omega), rm_out j (k + 1) (fun i h1 h2 => h i (by omega) (by omega)), if_neg (by decide)]
theorem rm_cut {x : Int32} {n : Nat} (h : ∀ i, n ≤ i → i < 32 → bt x i = false) : ∀ j, n + j ≤ 32 → rm x (n + j) 0 = rm x n 0
  | 0, _ => rfl
  | j + 1, hj => by rw [show n + (j + 1) = (n + j) + 1 by omega, rm_end, rm_cut h j (by omega), Nat.zero_add, h (n + j) (by omega) (by omega), if_neg (by decide)]; rfl
section TR
variable {g : GG} {d : Nat} {M : MM} {la lb pa pb0 rl : Nat} {c : CD} {F : Nat → (Nat → Int32) → Int32} {T : TT} {G : Nat}
theorem tX12_draws {m : Nat} (L : Lay M la lb pa pb0 rl) (hG : mj M 130 57 = lJ G) (h : G < 2 ^ 31) (h1 : 1 ≤ m) (hm : m < 2 ^ 31) : R0 g YX12_draws d [.ref 130, .int (nI m)] M (fun rv M1 => rv = some (.int (nI (dBl (dNx G) m))) ∧ mj M1 130 57 = lJ (dNx G) ∧ M1 = wj M 130 57 (lJ (dNx G))) := by
  have e := dNx_eq h
  have m0 : ¬ (nI m).toInt64 = 0 := by
    rw [lJ_of hm]
    intro z
    have := congrArg Int64.toInt z
    rw [lJ_toInt (by omega)] at this
    have c0 : (0 : Int64).toInt = 0 := by decide
    rw [c0] at this
    omega
  refine R0.of (by decide +kernel) (Nat.le_of_ble_eq_true rfl) rfl (qX12_draws_0 (M1 := wj M 130 57 (lJ (dNx G))) L (by rw [hG, e]) m0 ⟨?_, ?_, rfl⟩)
  · rw [show mj (wj M 130 57 (lJ (dNx G))) 130 57 = lJ (dNx G) by rw [wj_at, if_pos ⟨rfl, rfl⟩], dBl_eq (dNx_lt G) h1 hm]
  · rw [wj_at, if_pos ⟨rfl, rfl⟩]
theorem tX12_nth {x : Int32} {n q : Nat} (hn : n ≤ 10) (hq : q < rm x n 0) : R0 g YX12_nth d [.ref 130, .int x, .int (nI q)] M (fun rv M1 => rv = some (.int (sAt x (nI q) n 0 0)) ∧ M1 = M ∧ sAt x (nI q) n 0 0 ≠ -1) := by
  have h10 := rm_le x n 0
  refine R0.of (by decide +kernel) (Nat.le_of_ble_eq_true rfl) rfl (EX.sub [1, 2] (qX12_nth_0 ?_) rfl)
  have key : ∀ j k pl, k + j = n → pl ≤ q → q - pl < rm x j k → sAt x (nI q) j k (nI pl) = sAt x (nI q) n 0 0 → E0 g YX12_nth d 5 [(1, .int x), (3, .int (nI k)), (4, .int (nI (q - pl)))] [] M (fun rv M1 => rv = some (.int (sAt x (nI q) n 0 0)) ∧ M1 = M ∧ sAt x (nI q) n 0 0 ≠ -1) := by
    intro j
    induction j with
    | zero => intro k pl h1 h2 h3; exact absurd h3 (by rw [rm]; omega)
    | succ j ih =>
      intro k pl h1 h2 h3 h4
      rw [rm] at h3
      rw [sAt] at h4
      refine qX12_nth_5 (fun r => ?_) (fun r r2 => ?_) (fun r r2 => ?_) <;> rw [bit_v x (show k < 32 by omega)] at r
      · cases z : bt x k
        · rw [z, if_neg (by decide)] at h3 h4
          rw [bit_v x (show k < 32 by omega), z, if_neg (by decide), nI_1, Int32.sub_zero]
          exact ih (k + 1) pl (by omega) h2 (by omega) h4
        · rw [z] at r; exact absurd r (by decide)
      · rw [nI_le0 (by omega)] at r2
        cases z : bt x k
        · rw [z] at r; exact absurd rfl r
        · rw [z, if_pos rfl, if_pos (by rw [show pl = q by omega])] at h4
          rw [← h4]
          exact ⟨rfl, rfl, nI_m1 (by omega)⟩
      · rw [nI_le0 (by omega)] at r2
        cases z : bt x k
        · rw [z] at r; exact absurd rfl r
        · rw [z, if_pos rfl] at h3
          rw [z, if_pos rfl, if_neg (fun y => by rw [nI_eq (by omega) (by omega)] at y; omega), nI_1] at h4
          rw [bit_v x (show k < 32 by omega), z, if_pos rfl, nI_1, show (1 : Int32) = nI 1 from rfl, nI_sb (by omega), show q - pl - 1 = q - (pl + 1) by omega]
          exact ih (k + 1) (pl + 1) (by omega) (by omega) (by omega) h4
  exact key n 0 0 (by omega) (by omega) (by simpa using hq) rfl
abbrev inTo : Nat → Prop := fun b => b = 130 ∨ (144 ≤ b ∧ b ≤ 153) ∨ b = 162
def ToF (M M1 : MM) : Prop := Fr inTo M M1 ∧ mi M1 130 = mi M 130
theorem ToF.trans {M1 M2 : MM} (h : ToF M M1) (h2 : ToF M1 M2) : ToF M M2 := ⟨h.1.trans h2.1, h2.2.trans h.2⟩
theorem ToF.of {S : Nat → Prop} {M1 : MM} (h : Fr S M M1) (hS : ∀ b, S b → inTo b ∧ b ≠ 130) : ToF M M1 := ⟨h.mono (fun b hb => (hS b hb).1), h.i (fun z => (hS 130 z).2 rfl)⟩
theorem tX12_givesSome (L : Lay M la lb pa pb0 rl) (R : RCo M c F) (O : COk c F) (S : RSt (mi M 162) (cn c) (ch c) T) (TO : TOk c T) (hG : mj M 130 57 = lJ G) (h : G < 2 ^ 31) (hd : 1 ≤ d) : R0 g YX12_givesSome d [.ref 130] M (fun rv M1 => rv = none ∧ RSt (mi M1 162) (cn c) (ch c) (giveT (cn c) T G).1 ∧ mj M1 130 57 = lJ (giveT (cn c) T G).2 ∧ ToF M M1) := by
  have h10 := O.1
  have h6 := O.2.1
  have hDr : dOr (td (tvOf (cn c) T)) 6 = tDr (cn c) T := dOr_T (by omega) (fun k hk => by have := TO.1 k hk; omega)
  refine R0.of (by decide +kernel) (Nat.le_of_ble_eq_true rfl) rfl (qX12_givesSome_0 L (K0.ans (d1 := d - 1) (by omega) (tX12_inDrawers L R O S TO) ?_))
  rw [hDr]
  unfold giveT
  refine qX12_givesSome_4 L (fun r => ?_) (fun r => K0.set (d1 := d - 1) (by omega) (tX12_draws (m := 4) L hG h (by omega) (by omega)) ?_)
  · rw [if_pos r]
    exact qX12_givesSome_34 ⟨rfl, S, hG, Fr.rf, rfl⟩
  · rw [if_neg r]
    rintro rv M1 ⟨rfl, g1, rfl⟩
    have T1 : ToF M (wj M 130 57 (lJ (dNx G))) := ⟨Fr.rf.wj (.inl rfl), rfl⟩
    have L1 := T1.1.lay L
    have d4 := dBl_lt (G := dNx G) (b := 4) (by omega)
    have z4 : nI (dBl (dNx G) 4) = 0 ↔ dBl (dNx G) 4 = 0 := by rw [show (0 : Int32) = nI 0 from rfl]; exact nI_eq (by omega) (by decide)
    refine qX12_givesSome_14 (fun q => ?_) (fun q => ?_) <;> rw [z4] at q
    · rw [if_neg q]
      exact qX12_givesSome_34 ⟨rfl, S, g1, T1⟩
    · rw [if_pos q]
      obtain ⟨b, b1, b2, b3⟩ := tDr_bits (T := T) h10 r
      have low : lowR (tDr (cn c) T) := pb_small _ h10
      have er : rm (tDr (cn c) T) (cn c) 0 = b := by
        have e1 := sBits_rm (tDr (cn c) T) 10 (by omega)
        rw [bits_low low, b3] at e1
        have e2 := rm_cut (x := tDr (cn c) T) (n := cn c) (fun i h1 h2 => by
          show bt (pb _ _) i = false
          rw [bt_pb _ _ (by omega) i h2, decide_eq_false (by omega)]; rfl) (10 - cn c) (by omega)
        rw [show cn c + (10 - cn c) = 10 by omega] at e2
        have := rm_le (tDr (cn c) T) (cn c) 0
        rw [e2] at e1
        exact ((nI_eq (by omega) (by omega)).mp e1).symm
      refine K0.ans (d1 := d - 1) (by omega) tX12_bits (qX12_givesSome_25 (L1.s (a := 130) rfl (by decide)) ?_)
      rw [bits_low low, b3, nI_clamp (by omega)]
      refine K0.set (d1 := d - 1) (by omega) (tX12_draws L1 g1 (dNx_lt G) b1 (by omega)) ?_
      rintro rv M2 ⟨rfl, g2, rfl⟩
      have T2 : ToF M (wj (wj M 130 57 (lJ (dNx G))) 130 57 (lJ (dNx (dNx G)))) := T1.trans ⟨Fr.rf.wj (.inl rfl), rfl⟩
      have L2 := T2.1.lay L
      have db := dBl_lt (G := dNx (dNx G)) (b := b) b1
      refine qX12_givesSome_28 (L2.s (a := 130) rfl (by decide)) (K0.set (d1 := d - 1) (by omega) (tX12_nth (n := cn c) h10 (by rw [er]; exact db)) ?_)
      rintro rv M3 ⟨rfl, rfl, hne⟩
      rw [if_neg hne]
      rcases sAt_of (tDr (cn c) T) (nI (dBl (dNx (dNx G)) b)) (cn c) 0 0 with z | ⟨k, -, k2, k3, k4⟩
      · exact absurd z hne
      · rw [k4, nI_clamp (by omega)]
        refine qX12_givesSome_31 (L2.s (a := 130) rfl (by decide)) (K0.set (d1 := d - 1) (by omega) (tX12_goesBack (T := T) L2 O S (show k < cn c by omega)) ?_)
        rintro rv M4 ⟨rfl, S4, F4⟩
        refine qX12_givesSome_34 ⟨rfl, S4, ?_, T2.trans (ToF.of F4 (fun b hb => ⟨by omega, by omega⟩))⟩
        rw [F4.j (by omega)]; exact g2
theorem tX12_tours {x y z : Int32} (L : Lay M la lb pa pb0 rl) (R : RCo M c F) (O : COk c F) (S : RSt (mi M 162) (cn c) (ch c) T) (TO : TOk c T) (hd : 7 ≤ d) : R0 g YX12_tours d [.ref 130, .int x, .int y, .int z] M (QR (tourA c T x y z) M) := by
  have h10 := O.1
  have h6 := O.2.1
  have s1 : Sc M (wi M 130 0 0) := Sc.t0
  have L1 := s1.1.lay L
  have wx : wIn x 0 9999 = true ↔ ¬ x < 0 ∧ ¬ 9999 < x := by unfold wIn; simp
  have wy : wIn y 1 99 = true ↔ ¬ y < 1 ∧ ¬ 99 < y := by unfold wIn; simp
  have wz : wIn z 0 2 = true ↔ ¬ z < 0 ∧ ¬ 2 < z := by unfold wIn; simp
  have isT : isTour x y z ↔ wIn x 0 9999 = true ∧ wIn y 1 99 = true ∧ wIn z 0 2 = true := by
    rw [wx, wy, wz]
    unfold isTour
    have e : z ≤ 2 ↔ ¬ 2 < z := Int32.not_lt.symm
    rw [e]
    constructor
    · rintro ⟨a, b, c, d, e, f⟩; exact ⟨⟨a, b⟩, ⟨c, d⟩, e, f⟩
    · rintro ⟨⟨a, b⟩, ⟨c, d⟩, e, f⟩; exact ⟨a, b, c, d, e, f⟩
  unfold tourA
  refine R0.of (by decide +kernel) (Nat.le_of_ble_eq_true rfl) rfl (qX12_tours_0 L rfl (K0.ans (d1 := d - 1) (by omega) tX12_within ?_))
  cases qx : wIn x 0 9999
  · rw [if_neg (fun w => by rw [isT, qx] at w; exact absurd w.1 (by decide))]
    exact qX12_tours_13 (fun _ => ⟨rfl, s1⟩) (fun w => absurd rfl w)
  · refine qX12_tours_13 (fun w => absurd w (by decide)) (fun _ => K0.ans (d1 := d - 1) (by omega) tX12_within ?_)
    cases qy : wIn y 1 99
    · rw [if_neg (fun w => by rw [isT, qy] at w; exact absurd w.2.1 (by decide))]
      exact qX12_tours_23 (fun _ => ⟨rfl, s1⟩) (fun w => absurd rfl w)
    · refine qX12_tours_23 (fun w => absurd w (by decide)) (fun _ => K0.ans (d1 := d - 1) (by omega) tX12_within ?_)
      cases qz : wIn z 0 2
      · rw [if_neg (fun w => by rw [isT, qz] at w; exact absurd w.2.2 (by decide))]
        exact qX12_tours_32 L1 rfl (fun w => absurd rfl w) (fun _ => ⟨rfl, s1⟩)
      · rw [if_pos (isT.mpr ⟨qx, qy, qz⟩)]
        obtain ⟨sx, hx, rfl⟩ := wIn_of (m := 9999) (by decide) qx
        obtain ⟨sy, hy, rfl⟩ : ∃ sy, sy ≤ 99 ∧ y = nI sy := by
          have a := wy.mp qy
          have a0 : ¬ y < 0 := fun w => a.1 (Int32.lt_trans w (by decide))
          obtain ⟨k, hk, rfl⟩ := nI_of a0
          have b := a.2
          rw [show (99 : Int32) = nI 99 from rfl, nI_ltI (by decide) hk] at b
          exact ⟨k, by omega, rfl⟩
        rw [nI_clamp (by omega), nI_clamp (by omega)]
        have s2 : Sc M (wj (wi M 130 0 0) 130 57 (nI sx).toInt64) := s1.wl
        have L2 := s2.1.lay L
        refine qX12_tours_32 L1 rfl (fun _ => K0.set (d1 := d - 1) (by omega) (tX12_copies (x := 0) (y := 0) (L2.s (a := 162) rfl (by decide)) (L2.s (a := 164) rfl (by decide)) (by omega) (by omega) (by decide) (by decide) (by decide)) ?_) (fun w => absurd w (by decide))
        rintro rv B ⟨rfl, cB, -, FB⟩
        have LB := FB.lay L2
        have RB : RCo B c F := (R.sc s2).fr FB (fun b hb => by omega)
        have SB : RSt (mi B 162) (cn c) (ch c) T := by rw [FB.i (by omega)]; exact S.sc h10 s2
        have gB : mj B 130 57 = lJ sx := by rw [FB.j (by omega), wj_at, if_pos ⟨rfl, rfl⟩, lJ_of (by omega)]
        refine qX12_tours_56 ?_
        -- the row is laid back
        have fin : ∀ M2 a b t, ToF B M2 → RSt (mi M2 162) (cn c) (ch c) t → K0 g YX12_tours YX12_copies d 163 [.ref 164, .int 0, .ref 162, .int 0] [(3, .int z), (4, .int a), (5, .int b), (6, .int (mi M2 162 0))] [] M2 (QR (if z = 0 then a else if z = 1 then b else tp (tvOf (cn c) t)) M) := fun M2 a b t F2 S2 => by
          have L2 := F2.1.lay LB
          refine K0.set (d1 := d - 1) (by omega) (tX12_copies (x := 0) (y := 0) (L2.s (a := 164) rfl (by decide)) (L2.s (a := 162) rfl (by decide)) (by omega) (by omega) (by decide) (by decide) (by decide)) ?_
          rintro rv M3 ⟨rfl, c3, -, F3⟩
          have s3 : Sc M M3 := by
            refine s2.trans ⟨((FB.mono (fun b hb => by omega)).trans (F2.1.mono (fun b hb => by omega))).trans (F3.mono (fun b hb => by omega)), ?_, ?_, fun k hk => ?_⟩
            · rw [F3.i (by omega), F2.2, FB.i (by omega)]
            · rw [F3.i (by omega), F2.2, FB.i (by omega)]
            · have a := c3 k hk
              have b := cB k hk
              rw [Nat.zero_add] at a b
              rw [a, F2.1.i (by omega), b]
          refine qX12_tours_163 (fun r1 r2 => ⟨?_, s3⟩) (fun r1 r2 => ⟨?_, s3⟩) (fun r => ⟨?_, s3⟩)
          · rw [if_neg r1, if_neg r2, S2.1]; rfl
          · rw [if_neg r1, if_pos r2]
          · rw [if_pos r]
        by_cases h0 : ch c = 0
        · rw [if_pos h0]
          have z0 : mi B 132 1 ≤ 0 := by rw [RB.2.1, nI_le0 (by omega)]; exact h0
          exact qX12_tours_65 LB (fun _ => fin B 0 0 T ⟨Fr.rf, rfl⟩ SB) (fun _ _ => fin B 0 0 T ⟨Fr.rf, rfl⟩ SB) (fun _ w => absurd z0 w)
        · rw [if_neg h0]
          have key : ∀ j i t G a b M2, i + j = sy → ToF B M2 → RSt (mi M2 162) (cn c) (ch c) t → TOk c t → mj M2 130 57 = lJ G → G < 2 ^ 31 → E0 g YX12_tours d 65 [(0, .ref 130), (2, .int (nI sy)), (3, .int z), (4, .int a), (5, .int b), (6, .int (nI i))] [] M2 (QR (if z = 0 then (tourT c j t G a b).2.1 else if z = 1 then (tourT c j t G a b).2.2 else tp (tvOf (cn c) (tourT c j t G a b).1)) M) := by
            intro j
            induction j with
            | zero =>
              intro i t G a b M2 hij F2 S2 tO hG hG2
              have ge : nI sy ≤ nI i := by rw [show i = sy by omega]; exact Int32.le_refl _
              exact qX12_tours_65 (F2.1.lay LB) (fun _ => fin M2 a b t F2 S2) (fun w => absurd ge w) (fun w => absurd ge w)
            | succ j ih =>
              intro i t G a b M2 hij F2 S2 tO hG hG2
              have L2 := F2.1.lay LB
              have R2 := RB.fr F2.1 (fun b hb => by omega)
              have lt : ¬ nI sy ≤ nI i := by rw [nI_leI (by omega) (by omega)]; omega
              have n0 : ¬ mi M2 132 1 ≤ 0 := by rw [R2.2.1, nI_le0 (by omega)]; exact h0
              refine qX12_tours_65 L2 (fun w => absurd w lt) (fun _ w => absurd w n0) (fun _ _ => ?_)
              rw [R2.2.1]
              refine K0.set (d1 := d - 1) (by omega) (tX12_draws L2 hG hG2 (by omega) (by omega)) ?_
              rintro rv M3 ⟨rfl, g3, rfl⟩
              have F3 : ToF B (wj M2 130 57 (lJ (dNx G))) := F2.trans ⟨Fr.rf.wj (.inl rfl), rfl⟩
              have L3 := F3.1.lay LB
              have dl := dBl_lt (G := dNx G) (b := ch c) (by omega)
              refine qX12_tours_91 (L3.s (a := 130) rfl (by decide)) (K0.set (d1 := d - 1) (by omega) (tX12_cuts (T := t) L3 (RB.fr F3.1 (fun b hb => by omega)) O S2 dl (by omega)) ?_)
              rintro rv M4 ⟨rfl, S4, F4⟩
              have F04 : ToF B M4 := F3.trans (ToF.of F4 (fun b hb => ⟨by omega, by omega⟩))
              have L4 := F04.1.lay LB
              have R4 := RB.fr F04.1 (fun b hb => by omega)
              have tO4 : TOk c (cutT c t (dBl (dNx G) (ch c))) := tO.cut dl
              have g4 : mj M4 130 57 = lJ (dNx G) := by rw [F4.j (by omega)]; exact g3
              refine qX12_tours_94 L4 ?_
              rw [S4.1]
              refine K0.ans (d1 := d - 1) (by omega) (tX12_minutesOf L4 R4 O) (qX12_tours_106 L4 ?_)
              rw [S4.1]
              refine K0.ans (d1 := d - 1) (by omega) (tX12_makesSense L4 R4 O) ?_
              have give : ∀ b2 : Int32, b2 = b + (if cSen c (tp (tvOf (cn c) (cutT c t (dBl (dNx G) (ch c))))) then 0 else 1) → K0 g YX12_tours YX12_givesSome d 136 [.ref 130] [(0, .ref 130), (2, .int (nI sy)), (3, .int z), (4, .int (a + cMin c (tp (tvOf (cn c) (cutT c t (dBl (dNx G) (ch c))))))), (5, .int b2), (6, .int (nI i))] [] M4 (QR (if z = 0 then (tourT c (j + 1) t G a b).2.1 else if z = 1 then (tourT c (j + 1) t G a b).2.2 else tp (tvOf (cn c) (tourT c (j + 1) t G a b).1)) M) := fun b2 hb2 => by
                refine K0.set (d1 := d - 1) (by omega) (tX12_givesSome L4 R4 O S4 tO4 g4 (dNx_lt G) (by omega)) ?_
                rintro rv M5 ⟨rfl, S5, g5, F5⟩
                refine qX12_tours_136 ?_
                rw [nI_1, hb2]
                have glt : (giveT (cn c) (cutT c t (dBl (dNx G) (ch c))) (dNx G)).2 < 2 ^ 31 := by
                  unfold giveT
                  split
                  · exact dNx_lt G
                  · split
                    · split
                      · exact dNx_lt _
                      · exact dNx_lt _
                    · exact dNx_lt _
                exact ih (i + 1) _ _ _ _ M5 (by omega) (F04.trans F5) S5 (giveT_ok tO4) g5 glt
              refine qX12_tours_121 L4 (fun w => ?_) (fun w => ?_)
              · rw [b2i_z] at w
                refine give _ ?_
                rw [show cSen c (tp (tvOf (cn c) (cutT c t (dBl (dNx G) (ch c))))) = false from w]; rfl
              · rw [b2i_n] at w
                refine give _ ?_
                rw [show cSen c (tp (tvOf (cn c) (cutT c t (dBl (dNx G) (ch c))))) = true from w]; rfl
          exact key sy 0 T sx 0 0 B (by omega) ⟨Fr.rf, rfl⟩ SB TO gB (by omega)
end TR
