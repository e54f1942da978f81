/-! ===== the class's reader: expressions, level by level ===== -/
def XS (g : GG) (la lb pa pb0 rl n : Nat) (t : Nat → Nat) (Y : YY) (lvl f : Nat) : Prop := ∀ (dp p m d : Nat) (M : MM), dp ≤ 5 → RdOk M la lb pa pb0 rl n t p m → m ≤ p → rst (pEx n t f lvl dp p prOut) ≠ 2 → 3 + 6 * (5 - dp) + lvl ≤ d → R0 g Y d [.ref 28, .int (nI dp)] M (CRes la lb pa pb0 rl n t M m (pEx n t f lvl dp p prOut))
def XT (g : GG) (la lb pa pb0 rl n : Nat) (t : Nat → Nat) (Y : YY) (lvl off f : Nat) : Prop := ∀ (dp p m d : Nat) (M M1 : MM) (acc : PRs) (i : Nat), dp ≤ 5 → CInv la lb pa pb0 rl n t M M1 m p (rcc acc) → m + (rcc acc).length ≤ p → i ≤ p → rst (pEx n t f lvl dp p acc) ≠ 2 → 3 + 6 * (5 - dp) + off ≤ d → E0 g Y d 12 [(0, .ref 28), (1, .int (nI dp)), (2, .int (nI i))] [] M1 (CRes la lb pa pb0 rl n t M m (pEx n t f lvl dp p acc))
theorem kfa_kkw {K : TK} : (kkw K = -1 ∧ kfa K = 0 ∧ kW K 14 = false) ∨ ∃ x, x < 21 ∧ kkw K = nI x ∧ kfa K = x - 16 ∧ kW K 14 = decide (x = 14) := by
  rcases kkw_of K with ⟨h1, h2⟩ | ⟨x, h1, h2, h3, -⟩
  · refine .inl ⟨h1, ?_, h2 14 (by omega)⟩
    unfold kfa
    rw [h2 17 (by omega), h2 18 (by omega), h2 19 (by omega), h2 20 (by omega)]
    rfl
  · refine .inr ⟨x, h1, h3, ?_, ?_⟩
    · have e : ∀ i, i < 21 → kW K i = decide (x = i) := fun i hi => by
        by_cases q : x = i
        · rw [← q, h2, decide_eq_true rfl]
        · rw [decide_eq_false q]
          cases z : kW K i
          · rfl
          · exact absurd (kW_one h1 hi h2 z) q
      unfold kfa
      rw [e 17 (by omega), e 18 (by omega), e 19 (by omega), e 20 (by omega)]
      simp only [decide_eq_true_eq]
      repeat (first | split | omega)
    · by_cases q : x = 14
      · rw [← q, h2, decide_eq_true rfl]
      · rw [decide_eq_false q]
        cases z : kW K 14
        · rfl
        · exact absurd (kW_one h1 (by omega) h2 z) q
theorem dpl {dp d : Nat} (h5 : dp < 5) (hd : 3 + 6 * (5 - dp) + 0 ≤ d) : 3 + 6 * (5 - (dp + 1)) + 5 ≤ d - 1 ∧ 3 + 6 * (5 - (dp + 1)) + 1 ≤ d - 1 := by omega
section RX2
variable {g : GG} {la lb pa pb0 rl n : Nat} {t : Nat → Nat} {f : Nat}
theorem sX_prod (h0 : XS g la lb pa pb0 rl n t YX7_readPart 0 f) (h5 : XT g la lb pa pb0 rl n t YX7_readProduct 5 1 f) : XS g la lb pa pb0 rl n t YX7_readProduct 1 (f + 1) := by
  intro dp p m d M hdp R hm hne hd
  rw [pEx_1] at hne ⊢
  refine R0.of (by decide +kernel) (Nat.le_of_ble_eq_true rfl) rfl (qX7_readProduct_0 R.L (K0.sub (CInv.start R) (by omega) (h0 dp p m (d - 1) M hdp R hm (andT_n hne) (by omega)) (fun q M2 C2 => ?_) (fun q M2 L2 e F => ?_)))
  · rw [andT_e q] at hne ⊢
    have hlen := pEx_len f 0 dp p prOut R.2.2.2.2.1 q
    rw [if_neg (by omega)] at hlen
    exact qX7_readProduct_5 (fun _ => h5 dp _ m d M M2 _ 0 hdp C2 (by omega) (Nat.zero_le _) hne (by omega)) (fun z => absurd z (by decide))
  · rw [andT_f (by omega)]
    exact qX7_readProduct_5 (fun z => absurd rfl z) (fun _ => CRes.fail q rfl e F)
theorem sX_sum (h0 : XS g la lb pa pb0 rl n t YX7_readProduct 1 f) (h5 : XT g la lb pa pb0 rl n t YX7_readSum 6 2 f) : XS g la lb pa pb0 rl n t YX7_readSum 2 (f + 1) := by
  intro dp p m d M hdp R hm hne hd
  rw [pEx_2] at hne ⊢
  refine R0.of (by decide +kernel) (Nat.le_of_ble_eq_true rfl) rfl (qX7_readSum_0 R.L (K0.sub (CInv.start R) (by omega) (h0 dp p m (d - 1) M hdp R hm (andT_n hne) (by omega)) (fun q M2 C2 => ?_) (fun q M2 L2 e F => ?_)))
  · rw [andT_e q] at hne ⊢
    have hlen := pEx_len f 1 dp p prOut R.2.2.2.2.1 q
    rw [if_neg (by omega)] at hlen
    exact qX7_readSum_5 (fun _ => h5 dp _ m d M M2 _ 0 hdp C2 (by omega) (Nat.zero_le _) hne (by omega)) (fun z => absurd z (by decide))
  · rw [andT_f (by omega)]
    exact qX7_readSum_5 (fun z => absurd rfl z) (fun _ => CRes.fail q rfl e F)
theorem sX_expr (h0 : XS g la lb pa pb0 rl n t YX7_readTest 3 f) (h5 : XT g la lb pa pb0 rl n t YX7_readExpression 7 4 f) : XS g la lb pa pb0 rl n t YX7_readExpression 4 (f + 1) := by
  intro dp p m d M hdp R hm hne hd
  rw [pEx_4] at hne ⊢
  refine R0.of (by decide +kernel) (Nat.le_of_ble_eq_true rfl) rfl (qX7_readExpression_0 R.L (K0.sub (CInv.start R) (by omega) (h0 dp p m (d - 1) M hdp R hm (andT_n hne) (by omega)) (fun q M2 C2 => ?_) (fun q M2 L2 e F => ?_)))
  · rw [andT_e q] at hne ⊢
    have hlen := pEx_len f 3 dp p prOut R.2.2.2.2.1 q
    rw [if_neg (by omega)] at hlen
    exact qX7_readExpression_5 (fun _ => h5 dp _ m d M M2 _ 0 hdp C2 (by omega) (Nat.zero_le _) hne (by omega)) (fun z => absurd z (by decide))
  · rw [andT_f (by omega)]
    exact qX7_readExpression_5 (fun z => absurd rfl z) (fun _ => CRes.fail q rfl e F)
/-- past all signs there is no token -/
theorem far {M M1 : MM} {m p i : Nat} {cc : List Int32} (C : CInv la lb pa pb0 rl n t M M1 m p cc) (hi : i ≤ p) (h : (1000 : Int32) ≤ nI i) : kty (lexT n t p) = 0 := by
  have hp := C.2.1.2.2.2.2.1
  have hn := C.2.1.2.2.1.1
  rw [show (1000 : Int32) = nI 1000 from rfl, nI_leI (by decide) (by omega)] at h
  unfold lexT
  refine lexA_ty.2.mpr ?_
  have := skipB_le t (n - p) p
  omega
theorem sT_prod (h0 : XS g la lb pa pb0 rl n t YX7_readPart 0 f) (h5 : XT g la lb pa pb0 rl n t YX7_readProduct 5 1 f) : XT g la lb pa pb0 rl n t YX7_readProduct 5 1 (f + 1) := by
  intro dp p m d M M1 acc i hdp C hm hi hne hd
  rw [pEx_5] at hne ⊢
  have hp := C.2.1.2.2.2.2.1
  have hn := C.2.1.2.2.1.1
  have hnx := nxT_le (t := t) hp
  refine qX7_readProduct_12 C.2.1.L (fun r => ?_) (fun _ => K0.sgn C (x := 42) (by omega) (by omega) (qX7_readProduct_28 C.2.1.L (fun r => ?_) (fun r => ?_)))
  · have hz := far C hi r
    rw [if_neg (fun z => by have := kIs_ty z; omega)]
    exact CRes.good rfl C
  · rw [b2i_n] at r
    rw [if_pos r] at hne ⊢
    have hlt := hnx.2.2.1 (by rw [kIs_ty r]; decide)
    unfold tlT at hne ⊢
    refine K0.adv C (by omega) (fun M2 C2 => qX7_readProduct_40 C2.2.1.L (K0.sub C2 (by omega) (h0 dp _ _ (d - 1) M2 hdp C2.2.1 (by omega) (andT_n hne) (by omega)) (fun q M3 C3 => ?_) (fun q M3 L3 e F => ?_)))
    · rw [andT_e q] at hne ⊢
      have hlen := pEx_len f 0 dp _ prOut hnx.2.1 q
      rw [if_neg (by omega)] at hlen
      refine qX7_readProduct_45 C3.2.1.L (fun _ => K0.add C3 (by rw [List.length_append]; omega) (by omega) (fun M4 C4 => qX7_readProduct_62 ?_)) (fun z => absurd z (by decide))
      rw [List.append_assoc] at C4
      rw [nI_1]
      exact h5 dp _ m d M M4 (prOk _ _ _ _) (i + 1) hdp C4 (by show m + (rcc acc ++ (_ ++ [_])).length ≤ _; rw [List.length_append, List.length_append, List.length_singleton]; omega) (by omega) hne hd
    · rw [andT_f (by omega)]
      exact qX7_readProduct_45 L3 (fun z => absurd rfl z) (fun _ => CRes.fail q rfl e F)
  · rw [b2i_z] at r
    rw [if_neg (by rw [r]; decide)]
    exact CRes.good rfl C
theorem sT_sum (h0 : XS g la lb pa pb0 rl n t YX7_readProduct 1 f) (h5 : XT g la lb pa pb0 rl n t YX7_readSum 6 2 f) : XT g la lb pa pb0 rl n t YX7_readSum 6 2 (f + 1) := by
  intro dp p m d M M1 acc i hdp C hm hi hne hd
  rw [pEx_6] at hne ⊢
  have hp := C.2.1.2.2.2.2.1
  have hn := C.2.1.2.2.1.1
  have hnx := nxT_le (t := t) hp
  have step : ∀ (b : Bool) (c e : Int32), kty (lexT n t p) ≠ 0 → ((b = true ∧ c = -10) ∨ (b = false ∧ c = -11)) → rst (tlT n t f 1 6 dp p acc c e) ≠ 2 → K0 g YX7_readSum YX9_advance d 54 [.ref 25] [(0, .ref 28), (1, .int (nI dp)), (2, .int (nI i)), (3, .int (b2i b))] [] M1 (CRes la lb pa pb0 rl n t M m (tlT n t f 1 6 dp p acc c e)) := by
    intro b c e hk hb hne
    have hlt := hnx.2.2.1 hk
    unfold tlT at hne ⊢
    refine K0.adv C (by omega) (fun M2 C2 => qX7_readSum_54 C2.2.1.L (K0.sub C2 (by omega) (h0 dp _ _ (d - 1) M2 hdp C2.2.1 (by omega) (andT_n hne) (by omega)) (fun q M3 C3 => ?_) (fun q M3 L3 e F => ?_)))
    · rw [andT_e q] at hne ⊢
      have hlen := pEx_len f 1 dp _ prOut hnx.2.1 q
      rw [if_neg (by omega)] at hlen
      have fin : ∀ M4, CInv la lb pa pb0 rl n t M M4 m (rpo (pEx n t f 1 dp (nxT n t p) prOut)) (rcc acc ++ rcc (pEx n t f 1 dp (nxT n t p) prOut) ++ [c]) → E0 g YX7_readSum d 85 [(0, .ref 28), (1, .int (nI dp)), (2, .int (nI i))] [] M4 (CRes la lb pa pb0 rl n t M m (pEx n t f 6 dp (rpo (pEx n t f 1 dp (nxT n t p) prOut)) (prOk (rpo (pEx n t f 1 dp (nxT n t p) prOut)) (rcc acc ++ (rcc (pEx n t f 1 dp (nxT n t p) prOut) ++ [c])) (rrc acc ++ (e :: rrc (pEx n t f 1 dp (nxT n t p) prOut))) (jnF c (rfv acc) (rfv (pEx n t f 1 dp (nxT n t p) prOut)))))) := fun M4 C4 => by
        refine qX7_readSum_85 ?_
        rw [List.append_assoc] at C4
        rw [nI_1]
        exact h5 dp _ m d M M4 (prOk _ _ _ _) (i + 1) hdp C4 (by show m + (rcc acc ++ (_ ++ [_])).length ≤ _; rw [List.length_append, List.length_append, List.length_singleton]; omega) (by omega) hne hd
      refine qX7_readSum_59 C3.2.1.L (fun _ z => ?_) (fun _ z => ?_) (fun z => absurd z (by decide))
      · rw [b2i_z] at z
        rcases hb with ⟨hb, -⟩ | ⟨-, hb⟩
        · rw [hb] at z; exact absurd z (by decide)
        · rw [← hb]; exact K0.add C3 (by rw [List.length_append]; omega) (by omega) fin
      · have z : b = true := b2i_n.mp z
        rcases hb with ⟨-, hb⟩ | ⟨hb, -⟩
        · rw [← hb]; exact K0.add C3 (by rw [List.length_append]; omega) (by omega) fin
        · rw [hb] at z; exact absurd z (by decide)
    · rw [andT_f (by omega)]
      exact qX7_readSum_59 L3 (fun z => absurd rfl z) (fun z => absurd rfl z) (fun _ => CRes.fail q rfl e F)
  refine qX7_readSum_12 C.2.1.L (fun r => ?_) (fun _ => K0.sgn C (x := 43) (by omega) (by omega) (qX7_readSum_28 C.2.1.L (fun r => ?_) (fun r => ?_)))
  · have hz := far C hi r
    rw [if_neg (fun z => by have := kIs_ty z; omega), if_neg (fun z => by have := kIs_ty z; omega)]
    exact CRes.good rfl C
  · have r2 := b2i_n.mp r
    rw [if_pos r2] at hne ⊢
    exact step _ (-10) 20 (by rw [kIs_ty r2]; decide) (.inl ⟨r2, rfl⟩) hne
  · have r2 := b2i_z.mp r
    rw [if_neg (by rw [r2]; decide)] at hne ⊢
    refine K0.sgn C (x := 45) (by omega) (by omega) (qX7_readSum_42 C.2.1.L (fun r3 => ?_) (fun r3 => ?_))
    · have r4 := b2i_n.mp r3
      rw [if_pos r4] at hne ⊢
      exact step _ (-11) 21 (by rw [kIs_ty r4]; decide) (.inr ⟨r2, rfl⟩) hne
    · rw [b2i_z] at r3
      rw [if_neg (by rw [r3]; decide)]
      exact CRes.good rfl C
theorem sT_expr (h0 : XS g la lb pa pb0 rl n t YX7_readTest 3 f) (h5 : XT g la lb pa pb0 rl n t YX7_readExpression 7 4 f) : XT g la lb pa pb0 rl n t YX7_readExpression 7 4 (f + 1) := by
  intro dp p m d M M1 acc i hdp C hm hi hne hd
  rw [pEx_7] at hne ⊢
  have hp := C.2.1.2.2.2.2.1
  have hn := C.2.1.2.2.1.1
  have hnx := nxT_le (t := t) hp
  have hkw : mi M1 25 7 = kkw (lexT n t p) := C.2.1.2.2.2.1.2.2.2.1
  have step : ∀ (x : Nat) (c e : Int32), kty (lexT n t p) ≠ 0 → ((x = 15 ∧ c = -6) ∨ (x = 16 ∧ c = -7)) → rst (tlT n t f 3 7 dp p acc c e) ≠ 2 → K0 g YX7_readExpression YX9_advance d 48 [.ref 25] [(0, .ref 28), (1, .int (nI dp)), (2, .int (nI i)), (3, .int (nI x))] [] M1 (CRes la lb pa pb0 rl n t M m (tlT n t f 3 7 dp p acc c e)) := by
    intro x c e hk hb hne
    have hlt := hnx.2.2.1 hk
    unfold tlT at hne ⊢
    refine K0.adv C (by omega) (fun M2 C2 => qX7_readExpression_48 C2.2.1.L (K0.sub C2 (by omega) (h0 dp _ _ (d - 1) M2 hdp C2.2.1 (by omega) (andT_n hne) (by omega)) (fun q M3 C3 => ?_) (fun q M3 L3 e F => ?_)))
    · rw [andT_e q] at hne ⊢
      have hlen := pEx_len f 3 dp _ prOut hnx.2.1 q
      rw [if_neg (by omega)] at hlen
      have fin : ∀ M4, CInv la lb pa pb0 rl n t M M4 m (rpo (pEx n t f 3 dp (nxT n t p) prOut)) (rcc acc ++ rcc (pEx n t f 3 dp (nxT n t p) prOut) ++ [c]) → E0 g YX7_readExpression d 81 [(0, .ref 28), (1, .int (nI dp)), (2, .int (nI i))] [] M4 (CRes la lb pa pb0 rl n t M m (pEx n t f 7 dp (rpo (pEx n t f 3 dp (nxT n t p) prOut)) (prOk (rpo (pEx n t f 3 dp (nxT n t p) prOut)) (rcc acc ++ (rcc (pEx n t f 3 dp (nxT n t p) prOut) ++ [c])) (rrc acc ++ (e :: rrc (pEx n t f 3 dp (nxT n t p) prOut))) (jnF c (rfv acc) (rfv (pEx n t f 3 dp (nxT n t p) prOut)))))) := fun M4 C4 => by
        refine qX7_readExpression_81 ?_
        rw [List.append_assoc] at C4
        rw [nI_1]
        exact h5 dp _ m d M M4 (prOk _ _ _ _) (i + 1) hdp C4 (by show m + (rcc acc ++ (_ ++ [_])).length ≤ _; rw [List.length_append, List.length_append, List.length_singleton]; omega) (by omega) hne hd
      have e15 : nI x = 15 ↔ x = 15 := by rw [show (15 : Int32) = nI 15 from rfl]; exact nI_eq (by omega) (by decide)
      refine qX7_readExpression_53 C3.2.1.L (fun _ z => ?_) (fun _ z => ?_) (fun z => absurd z (by decide))
      · rw [e15] at z
        rcases hb with ⟨hb, -⟩ | ⟨-, hb⟩
        · exact absurd hb z
        · rw [← hb]; exact K0.add C3 (by rw [List.length_append]; omega) (by omega) fin
      · rw [e15] at z
        rcases hb with ⟨-, hb⟩ | ⟨hb, -⟩
        · rw [← hb]; exact K0.add C3 (by rw [List.length_append]; omega) (by omega) fin
        · omega
    · rw [andT_f (by omega)]
      exact qX7_readExpression_53 L3 (fun z => absurd rfl z) (fun z => absurd rfl z) (fun _ => CRes.fail q rfl e F)
  refine qX7_readExpression_12 C.2.1.L (fun r => ?_) (fun _ r => ?_) (fun _ r1 r => ?_) (fun _ r1 r => ?_)
  · have hz := far C hi r
    rw [if_neg (fun z => by have := kW_ty z; omega), if_neg (fun z => by have := kW_ty z; omega)]
    exact CRes.good rfl C
  · rw [r]
    have r2 : kW (lexT n t p) 15 = true := (kkw_eq (by omega)).mp (hkw.symm.trans r)
    rw [if_pos r2] at hne ⊢
    exact step 15 (-6) 26 (by rw [kW_ty r2]; decide) (.inl ⟨rfl, rfl⟩) hne
  · rw [r]
    have r2 : kW (lexT n t p) 16 = true := (kkw_eq (by omega)).mp (hkw.symm.trans r)
    have r0 : ¬ kW (lexT n t p) 15 = true := fun z => r1 (hkw.trans ((kkw_eq (i := 15) (by omega)).mpr z))
    rw [if_neg r0, if_pos r2] at hne ⊢
    exact step 16 (-7) 27 (by rw [kW_ty r2]; decide) (.inr ⟨rfl, rfl⟩) hne
  · have r0 : ¬ kW (lexT n t p) 15 = true := fun z => r1 (hkw.trans ((kkw_eq (i := 15) (by omega)).mpr z))
    have r2 : ¬ kW (lexT n t p) 16 = true := fun z => r (hkw.trans ((kkw_eq (i := 16) (by omega)).mpr z))
    rw [if_neg r0, if_neg r2]
    exact CRes.good rfl C
theorem sX_test (h0 : XS g la lb pa pb0 rl n t YX7_readSum 2 f) : XS g la lb pa pb0 rl n t YX7_readTest 3 (f + 1) := by
  intro dp p m d M hdp R hm hne hd
  rw [pEx_3] at hne ⊢
  refine R0.of (by decide +kernel) (Nat.le_of_ble_eq_true rfl) rfl (qX7_readTest_0 R.L (K0.sub (CInv.start R) (by omega) (h0 dp p m (d - 1) M hdp R hm (andT_n hne) (by omega)) (fun q M2 C2 => ?_) (fun q M2 L2 e F => ?_)))
  · rw [andT_e q] at hne ⊢
    have hlen := pEx_len f 2 dp p prOut R.2.2.2.2.1 q
    rw [if_neg (by omega)] at hlen
    generalize pEx n t f 2 dp p prOut = a at q C2 hne hlen ⊢
    have hn := C2.2.1.2.2.1.1
    have hnx := nxT_le (t := t) hlen.2.1
    have step : ∀ (b : Bool) (c e : Int32), kty (lexT n t (rpo a)) ≠ 0 → ((b = true ∧ c = -8) ∨ (b = false ∧ c = -9)) → rst (andT (pEx n t f 2 dp (nxT n t (rpo a)) prOut) (fun r => prOk (rpo r) (rcc a ++ (rcc r ++ [c])) (rrc a ++ (e :: rrc r)) (jnF c (rfv a) (rfv r)))) ≠ 2 → K0 g YX7_readTest YX9_advance d 45 [.ref 25] [(0, .ref 28), (1, .int (nI dp)), (2, .int (b2i b))] [] M2 (CRes la lb pa pb0 rl n t M m (andT (pEx n t f 2 dp (nxT n t (rpo a)) prOut) (fun r => prOk (rpo r) (rcc a ++ (rcc r ++ [c])) (rrc a ++ (e :: rrc r)) (jnF c (rfv a) (rfv r))))) := by
      intro b c e hk hb hne
      have hlt := hnx.2.2.1 hk
      refine K0.adv C2 (by omega) (fun M3 C3 => qX7_readTest_45 C3.2.1.L (K0.sub C3 (by omega) (h0 dp _ _ (d - 1) M3 hdp C3.2.1 (by show m + (rcc a).length ≤ _; omega) (andT_n hne) (by omega)) (fun q M4 C4 => ?_) (fun q M4 L4 e F => ?_)))
      · rw [andT_e q]
        have hlen2 := pEx_len f 2 dp _ prOut hnx.2.1 q
        rw [if_neg (by omega)] at hlen2
        have lt : m + ([] ++ rcc a ++ rcc (pEx n t f 2 dp (nxT n t (rpo a)) prOut)).length < 1000 := by
          show m + (rcc a ++ _).length < 1000
          rw [List.length_append]; omega
        have fin : ∀ M5, CInv la lb pa pb0 rl n t M M5 m (rpo (pEx n t f 2 dp (nxT n t (rpo a)) prOut)) ([] ++ rcc a ++ rcc (pEx n t f 2 dp (nxT n t (rpo a)) prOut) ++ [c]) → E0 g YX7_readTest d 76 [] [] M5 (CRes la lb pa pb0 rl n t M m (prOk (rpo (pEx n t f 2 dp (nxT n t (rpo a)) prOut)) (rcc a ++ (rcc (pEx n t f 2 dp (nxT n t (rpo a)) prOut) ++ [c])) (rrc a ++ (e :: rrc (pEx n t f 2 dp (nxT n t (rpo a)) prOut))) (jnF c (rfv a) (rfv (pEx n t f 2 dp (nxT n t (rpo a)) prOut))))) := fun M5 C5 => by
          rw [List.append_assoc, List.nil_append] at C5
          exact qX7_readTest_76 (CRes.good rfl C5)
        refine qX7_readTest_50 C4.2.1.L (fun _ z => ?_) (fun _ z => ?_) (fun z => absurd z (by decide))
        · rw [b2i_z] at z
          rcases hb with ⟨hb, -⟩ | ⟨-, hb⟩
          · rw [hb] at z; exact absurd z (by decide)
          · rw [← hb]; exact K0.add C4 lt (by omega) fin
        · have z : b = true := b2i_n.mp z
          rcases hb with ⟨-, hb⟩ | ⟨hb, -⟩
          · rw [← hb]; exact K0.add C4 lt (by omega) fin
          · rw [hb] at z; exact absurd z (by decide)
      · rw [andT_f (by omega)]
        exact qX7_readTest_50 L4 (fun z => absurd rfl z) (fun z => absurd rfl z) (fun _ => CRes.fail q rfl e F)
    refine qX7_readTest_5 C2.2.1.L (fun _ => K0.sgn C2 (x := 60) (by omega) (by omega) (qX7_readTest_19 C2.2.1.L (fun r => ?_) (fun r => ?_))) (fun z => absurd z (by decide))
    · have r2 := b2i_n.mp r
      rw [if_pos r2] at hne ⊢
      exact step _ (-8) 24 (by rw [kIs_ty r2]; decide) (.inl ⟨r2, rfl⟩) hne
    · have r2 := b2i_z.mp r
      rw [if_neg (by rw [r2]; decide)] at hne ⊢
      refine K0.sgn C2 (x := 61) (by omega) (by omega) (qX7_readTest_33 C2.2.1.L (fun r3 => ?_) (fun r3 => ?_))
      · have r4 := b2i_n.mp r3
        rw [if_pos r4] at hne ⊢
        exact step _ (-9) 25 (by rw [kIs_ty r4]; decide) (.inr ⟨r2, rfl⟩) hne
      · rw [b2i_z] at r3
        rw [if_neg (by rw [r3]; decide)]
        exact CRes.good q C2
  · rw [andT_f (by omega)]
    exact qX7_readTest_5 L2 (fun z => absurd rfl z) (fun _ => CRes.fail q rfl e F)
theorem sX_brk (h0 : XS g la lb pa pb0 rl n t YX7_readExpression 4 f) {dp p m d : Nat} {M : MM} (hdp : dp ≤ 5) (R : RdOk M la lb pa pb0 rl n t p m) (hm : m ≤ p) (rc : PRs → List Int32) (hne : rst (andT (pEx n t f 4 dp p prOut) (fun r => if kIs (lexT n t (rpo r)) 41 = true then prOk (nxT n t (rpo r)) (rcc r) (rc r) (rfv r) else prFl (fltC n t 1 (rpo r)))) ≠ 2) (hd : 3 + 6 * (5 - dp) + 5 ≤ d) : R0 g YX7_readBracketed d [.ref 28, .int (nI dp)] M (CRes la lb pa pb0 rl n t M m (andT (pEx n t f 4 dp p prOut) (fun r => if kIs (lexT n t (rpo r)) 41 = true then prOk (nxT n t (rpo r)) (rcc r) (rc r) (rfv r) else prFl (fltC n t 1 (rpo r))))) := by
  refine R0.of (by decide +kernel) (Nat.le_of_ble_eq_true rfl) rfl (qX7_readBracketed_0 R.L (K0.sub (CInv.start R) (by omega) (h0 dp p m (d - 1) M hdp R hm (andT_n hne) (by omega)) (fun q M2 C2 => ?_) (fun q M2 L2 e F => ?_)))
  · rw [andT_e q]
    refine qX7_readBracketed_5 C2.2.1.L (fun _ => K0.sgn C2 (x := 41) (by omega) (by omega) (qX7_readBracketed_19 C2.2.1.L (fun r => ?_) (fun r => ?_))) (fun z => absurd z (by decide))
    · rw [b2i_n] at r
      rw [if_pos r]
      exact K0.adv C2 (by omega) (fun M3 C3 => qX7_readBracketed_35 (CRes.good rfl C3))
    · rw [b2i_z] at r
      rw [if_neg (by rw [r]; decide)]
      exact K0.failX (k := 1) C2 rfl (by omega) (fun M3 h3 => qX7_readBracketed_27 (by decide) h3)
  · rw [andT_f (by omega)]
    exact qX7_readBracketed_5 L2 (fun z => absurd rfl z) (fun _ => CRes.fail q rfl e F)
theorem sX_neg (h0 : XS g la lb pa pb0 rl n t YX7_readPart 0 f) {dp p m d : Nat} {M : MM} (hdp : dp ≤ 5) (R : RdOk M la lb pa pb0 rl n t p m) (hm : m < p) (rc : PRs → List Int32) (ff : PRs → (Nat → Int32) → Int32) (hne : rst (andT (pEx n t f 0 dp p prOut) (fun r => prOk (rpo r) (rcc r ++ [-5]) (rc r) (ff r))) ≠ 2) (hd : 3 + 6 * (5 - dp) + 1 ≤ d) : R0 g YX7_readNegated d [.ref 28, .int (nI dp)] M (CRes la lb pa pb0 rl n t M m (andT (pEx n t f 0 dp p prOut) (fun r => prOk (rpo r) (rcc r ++ [-5]) (rc r) (ff r)))) := by
  have hn := R.2.2.1.1
  refine R0.of (by decide +kernel) (Nat.le_of_ble_eq_true rfl) rfl (qX7_readNegated_0 R.L (K0.sub (CInv.start R) (by omega) (h0 dp p m (d - 1) M hdp R (by omega) (andT_n hne) (by omega)) (fun q M2 C2 => ?_) (fun q M2 L2 e F => ?_)))
  · rw [andT_e q]
    have hlen := pEx_len f 0 dp p prOut R.2.2.2.2.1 q
    rw [if_neg (by omega)] at hlen
    refine qX7_readNegated_5 C2.2.1.L (fun _ => K0.add C2 (by show m + (rcc _).length < 1000; omega) (by omega) (fun M3 C3 => qX7_readNegated_22 (CRes.good rfl C3))) (fun z => absurd z (by decide))
  · rw [andT_f (by omega)]
    exact qX7_readNegated_5 L2 (fun z => absurd rfl z) (fun _ => CRes.fail q rfl e F)
theorem sX_part (h0 : XS g la lb pa pb0 rl n t YX7_readPart 0 f) (h4 : XS g la lb pa pb0 rl n t YX7_readExpression 4 f) : XS g la lb pa pb0 rl n t YX7_readPart 0 (f + 1) := by
  intro dp p m d M hdp R hm hne hd
  have hn := R.2.2.1.1
  have hp := R.2.2.2.2.1
  have hnx := nxT_le (t := t) hp
  have K := R.2.2.2.1
  have hkw : mi M 25 7 = kkw (lexT n t p) := K.2.2.2.1
  have hty : mi M 25 5 = nI (kty (lexT n t p)) := K.2.2.1
  have ht4 := lexT_ty (n := n) (t := t) (p := p)
  have C := CInv.start R
  have e2 : mi M 25 5 = 2 ↔ kty (lexT n t p) = 2 := by rw [hty, show (2 : Int32) = nI 2 from rfl]; exact nI_eq (by omega) (by decide)
  -- with all that is asked of the token
  have c53 : E0 g YX7_readPart d 53 [(0, .ref 28), (1, .int (nI dp)), (2, .int (mi M 25 7)), (3, .int (b2i (decide (kty (lexT n t p) = 2)))), (4, .int (b2i (decide (kfa (lexT n t p) ≠ 0))))] [.int (b2i (kIs (lexT n t p) 40))] M (CRes la lb pa pb0 rl n t M m (pEx n t (f + 1) 0 dp p prOut)) := by
    have c81 : isPart (lexT n t p) → E0 g YX7_readPart d 81 [(0, .ref 28), (1, .int (nI dp)), (2, .int (mi M 25 7)), (3, .int (b2i (decide (kty (lexT n t p) = 2)))), (4, .int (b2i (decide (kfa (lexT n t p) ≠ 0)))), (5, .int (b2i (kIs (lexT n t p) 40)))] [] M (CRes la lb pa pb0 rl n t M m (pEx n t (f + 1) 0 dp p prOut)) := fun hP => by
      have hk : kty (lexT n t p) ≠ 0 := by
        rcases hP with q | q | q | q
        · omega
        · have := kfa_ty q; omega
        · have := kIs_ty q; omega
        · have := kW_ty q; omega
      have hlt := hnx.2.2.1 hk
      have hat := lexT_at1 hp hk
      have hat2 := lexT_at (t := t) hp
      have hmlt : m + ([] : List Int32).length < nxT n t p := by show m + 0 < nxT n t p; omega
      have e5 : nI dp < (5 : Int32) ↔ dp < 5 := ltl 5 rfl (by decide) (by omega)
      have fact : ¬ kty (lexT n t p) = 2 → kfa (lexT n t p) ≠ 0 → dp < 5 → K0 g YX7_readPart YX2_add d 131 [.ref (rl + 7), .int ((-1) - (mi M 25 7 - 17))] [(0, .ref 28)] [] M (CRes la lb pa pb0 rl n t M m (pEx n t (f + 1) 0 dp p prOut)) := fun q2 q3 q5 => by
        rw [pEx_fact q2 q3 (by omega)]
        have ec : (-1 : Int32) - (mi M 25 7 - 17) = 0 - nI (kfa (lexT n t p)) := by
          rw [hkw]
          rcases kfa_kkw (K := lexT n t p) with ⟨-, h, -⟩ | ⟨x, x1, x2, x3, -⟩
          · exact absurd h q3
          · rw [x2, x3]
            have : 17 ≤ x := by omega
            exact (by decide +kernel : ∀ x, x < 21 → 17 ≤ x → (-1 : Int32) - (nI x - 17) = 0 - nI (x - 16)) x x1 this
        rw [ec]
        exact K0.add C (by show m + 0 < 1000; omega) (by omega) (fun M2 C2 => qX7_readPart_131 C2.2.1.L (K0.adv C2 (by omega) (fun M3 C3 => qX7_readPart_138 (CRes.good rfl C3))))
      refine qX7_readPart_81 C.2.1.L (fun _ a b => absurd b a) (fun r1 r2 _ => ?_) (fun r1 r2 r3 => ?_) (fun r1 r2 r3 _ => ?_) (fun _ a _ b => absurd a b) (fun r1 => ?_)
      · rw [e5] at r1
        have q2 := of_decide_eq_true (b2i_n.mp r2)
        rw [pEx_num q2 (by omega), K.2.2.2.2.2.1 q2]
        exact K0.add C (by show m + 0 < 1000; omega) (by omega) (fun M2 C2 => qX7_readPart_131 C2.2.1.L (K0.adv C2 (by omega) (fun M3 C3 => qX7_readPart_138 (CRes.good rfl C3))))
      · rw [e5] at r1
        have q2 := of_decide_eq_false (b2i_z.mp r2)
        have q3 := of_decide_eq_false (b2i_z.mp r3)
        refine K0.adv C (by omega) (fun M2 C2 => qX7_readPart_147 C2.2.1.L (fun r5 => ?_) (fun r5 => ?_))
        · have q4 := b2i_z.mp r5
          have q6 : kW (lexT n t p) 14 = true := by
            rcases hP with q | q | q | q
            · exact absurd q q2
            · exact absurd q q3
            · rw [q4] at q; exact absurd q (by decide)
            · exact q
          rw [pEx_not q6 (by omega)] at hne ⊢
          rw [nI_1]
          refine K0.sub C2 (by omega) (sX_neg h0 (by omega) C2.2.1 hmlt _ _ hne (dpl r1 hd).2) (fun q M3 C3 => qX7_readPart_169 (by decide) (CRes.good q C3)) (fun q M3 L3 e F => qX7_readPart_169 (by decide) (CRes.fail q rfl e F))
        · have q4 := b2i_n.mp r5
          rw [pEx_open q4 (by omega)] at hne ⊢
          rw [nI_1]
          refine K0.sub C2 (by omega) (sX_brk h4 (by omega) C2.2.1 (Nat.le_of_lt hmlt) _ hne (dpl r1 hd).1) (fun q M3 C3 => qX7_readPart_159 (qX7_readPart_169 (by decide) (CRes.good q C3))) (fun q M3 L3 e F => qX7_readPart_159 (qX7_readPart_169 (by decide) (CRes.fail q rfl e F)))
      · rw [e5] at r1
        exact fact (of_decide_eq_false (b2i_z.mp r2)) (of_decide_eq_true (b2i_n.mp r3)) r1
      · rw [e5] at r1
        rw [pEx_deep hP (by omega)]
        exact K0.failX (k := 5) C rfl (by omega) (fun M3 h3 => qX7_readPart_91 (by decide) h3)
    refine qX7_readPart_53 C.2.1.L (fun r => c81 (.inl (of_decide_eq_true (b2i_n.mp r)))) (fun _ r => c81 (.inr (.inl (of_decide_eq_true (b2i_n.mp r))))) (fun _ _ r => c81 (.inr (.inr (.inl (b2i_n.mp r))))) (fun _ _ _ r => c81 (.inr (.inr (.inr ((kkw_eq (by omega)).mp (hkw.symm.trans r)))))) (fun r1 r2 r3 r4 => ?_)
    have hno : ¬ isPart (lexT n t p) := fun z => by
      rcases z with q | q | q | q
      · exact (of_decide_eq_false (b2i_z.mp r1)) q
      · exact (of_decide_eq_false (b2i_z.mp r2)) q
      · rw [b2i_z.mp r3] at q; exact absurd q (by decide)
      · exact r4 (hkw.trans ((kkw_eq (i := 14) (by omega)).mpr q))
    rw [pEx_no hno]
    exact K0.failX (k := 1) C rfl (by omega) (fun M3 h3 => qX7_readPart_80 (by decide) h3)
  have kf : (mi M 25 7 < 17 ∨ 20 < mi M 25 7 → kfa (lexT n t p) = 0) ∧ (¬ mi M 25 7 < 17 → ¬ 20 < mi M 25 7 → kfa (lexT n t p) ≠ 0) := by
    rw [hkw]
    rcases kfa_kkw (K := lexT n t p) with ⟨h1, h, -⟩ | ⟨x, x1, x2, x3, -⟩
    · rw [h1]
      exact ⟨fun _ => h, fun z => absurd (by decide) z⟩
    · rw [x2, x3]
      exact (by decide +kernel : ∀ x, x < 21 → (nI x < 17 ∨ 20 < nI x → x - 16 = 0) ∧ (¬ nI x < 17 → ¬ 20 < nI x → x - 16 ≠ 0)) x x1
  have go : ∀ a b : Bool, a = decide (kty (lexT n t p) = 2) → b = decide (kfa (lexT n t p) ≠ 0) → K0 g YX7_readPart YX9_isSign d 53 [.ref 25, .int 40] [(0, .ref 28), (1, .int (nI dp)), (2, .int (mi M 25 7)), (3, .int (b2i a)), (4, .int (b2i b))] [] M (CRes la lb pa pb0 rl n t M m (pEx n t (f + 1) 0 dp p prOut)) := fun a b ha hb => by
    rw [ha, hb]
    exact K0.sgn C (x := 40) (by omega) (by omega) c53
  refine R0.of (by decide +kernel) (Nat.le_of_ble_eq_true rfl) rfl (qX7_readPart_0 R.L (fun r1 r2 => ?_) (fun r1 r2 r3 => ?_) (fun r1 r2 r3 => ?_) (fun r1 r2 => ?_) (fun r1 r2 r3 => ?_) (fun r1 r2 r3 => ?_)) <;> rw [e2] at r1
  · exact go false false (decide_eq_false r1).symm (decide_eq_false (fun z => z (kf.1 (.inl r2)))).symm
  · exact go false false (decide_eq_false r1).symm (decide_eq_false (fun z => z (kf.1 (.inr r3)))).symm
  · exact go false true (decide_eq_false r1).symm (decide_eq_true (kf.2 r2 r3)).symm
  · exact go true false (decide_eq_true r1).symm (decide_eq_false (fun z => z (kf.1 (.inl r2)))).symm
  · exact go true false (decide_eq_true r1).symm (decide_eq_false (fun z => z (kf.1 (.inr r3)))).symm
  · exact go true true (decide_eq_true r1).symm (decide_eq_true (kf.2 r2 r3)).symm
theorem sX_all : ∀ f, XS g la lb pa pb0 rl n t YX7_readPart 0 f ∧ XS g la lb pa pb0 rl n t YX7_readProduct 1 f ∧ XS g la lb pa pb0 rl n t YX7_readSum 2 f ∧ XS g la lb pa pb0 rl n t YX7_readTest 3 f ∧ XS g la lb pa pb0 rl n t YX7_readExpression 4 f ∧ XT g la lb pa pb0 rl n t YX7_readProduct 5 1 f ∧ XT g la lb pa pb0 rl n t YX7_readSum 6 2 f ∧ XT g la lb pa pb0 rl n t YX7_readExpression 7 4 f
  | 0 => ⟨fun _ _ _ _ _ _ _ _ h => absurd rfl h, fun _ _ _ _ _ _ _ _ h => absurd rfl h, fun _ _ _ _ _ _ _ _ h => absurd rfl h, fun _ _ _ _ _ _ _ _ h => absurd rfl h, fun _ _ _ _ _ _ _ _ h => absurd rfl h, fun _ _ _ _ _ _ _ _ _ _ _ _ h => absurd rfl h, fun _ _ _ _ _ _ _ _ _ _ _ _ h => absurd rfl h, fun _ _ _ _ _ _ _ _ _ _ _ _ h => absurd rfl h⟩
  | f + 1 => by
    obtain ⟨h0, h1, h2, h3, h4, h5, h6, h7⟩ := sX_all f
    exact ⟨sX_part h0 h4, sX_prod h0 h5, sX_sum h1 h6, sX_test h2, sX_expr h3 h7, sT_prod h0 h5, sT_sum h1 h6, sT_expr h3 h7⟩
end RX2
