/-! ===== the verdicts ===== -/
def vdB (F : (Nat → Int32) → Int32) (s l : Int32) (pl : Nat) (SA : Int32) (m : Nat) : Int32 := pb (fun x => bt SA x && !decide (F (mkE s l (nI pl) (nI x)) = 0)) m
def sA (srt : Nat → Int32) : Nat → Int32
  | 0 => 0
  | k + 1 => sA srt k ||| ((1 : Int32) <<< (srt k &&& 31))
def SAof (srt : Nat → Int32) (k pl : Nat) : Int32 := if pl = 0 then 1024 else sA srt k
def VdD (f srt len : Nat → Int32) (F : Nat → (Nat → Int32) → Int32) (n h N : Nat) : Prop := ∀ hl k pl, hl < h → k < n → pl ≤ k → (hl * 10 + k) * 10 + pl < N → f ((hl * 10 + k) * 10 + pl) = vdB (F hl) (srt k) (len k) pl (SAof srt k pl) 11
section TX0c
variable {g : GG} {d : Nat} {M : MM} {a n h : Nat}
abbrev inV (a : Nat) : Nat → Prop := fun b => b = a + 10 ∨ b = a + 11
theorem tX0_judge {hl k pl : Nat} {SA : Int32} {F : (Nat → Int32) → Int32} (C : Cty M a) (hn : mi M a 0 = nI n) (h10 : n ≤ 10) (hh : mi M a 5 = nI h) (h6 : h ≤ 6) (h1 : hl < h) (h2 : k < n) (h3 : pl < 10) (H : LwIs M (a + 7) hl F) (hd : 2 ≤ d) : R0 g YX0_judge d [.ref a, .int (nI hl), .int (nI k), .int (nI pl), .int SA] M (fun rv M1 => rv = none ∧ (∀ j, mi M1 (a + 11) j = if j = (hl * 10 + k) * 10 + pl then vdB F (mi M (a + 2) k) (mi M (a + 3) k) pl SA 11 else mi M (a + 11) j) ∧ Fr (inV a) M M1) := by
  refine R0.of (by decide +kernel) (Nat.le_of_ble_eq_true rfl) rfl (qX0_judge_0 C (K0.ans (d1 := d - 1) (by omega) (tX0_keyOf C hn h10 hh h6 h1 h2 h3 (by omega)) ?_))
  generalize hkey : (hl * 10 + k) * 10 + pl = key
  have hk600 : key < 600 := by omega
  refine qX0_judge_7 C rfl (fun _ => vi hk600 (by decide)) (fun _ => ?_) (fun r => absurd r (nI_m1 (by omega)))
  rw [nI_clamp (by omega)]
  have key2 := up0 (p := fun x => ∀ M1, Fr (inV a) M M1 → (∀ j, mi M1 (a + 11) j = if j = key then vdB F (mi M (a + 2) k) (mi M (a + 3) k) pl SA x else mi M (a + 11) j) → E0 g YX0_judge d 27 [(0, .ref a), (1, .int (nI hl)), (2, .int (nI k)), (3, .int (nI pl)), (4, .int SA), (5, .int (nI key)), (6, .int (nI x))] [] M1 (fun rv M1 => rv = none ∧ (∀ j, mi M1 (a + 11) j = if j = key then vdB F (mi M (a + 2) k) (mi M (a + 3) k) pl SA 11 else mi M (a + 11) j) ∧ Fr (inV a) M M1)) 11 (fun M1 F1 H1 => ?_) (fun x hx ih M1 F1 H1 => ?_)
  · refine key2 _ (Fr.rf.wi (.inr rfl)) (fun j => ?_)
    rw [wi_at]
    by_cases e : j = key
    · rw [if_pos ⟨rfl, e⟩, if_pos e]; rfl
    · rw [if_neg (fun z => e z.2), if_neg e]
  · exact qX0_judge_27 (F1.cty C) (fun r => absurd (by decide) r) (fun r => absurd (by decide) r) (fun _ => ⟨rfl, H1, F1⟩) (fun r => absurd (by decide) r) (fun r => absurd (by decide) r)
  · have n10 : ¬ (10 : Int32) < nI x := by
      rw [show (10 : Int32) = nI 10 from rfl, nI_ltI (by decide) (by omega)]; omega
    have vk : vp_in (nI k) 10 := vi (by omega) (by decide)
    have same : (bt SA x && !decide (F (mkE (mi M (a + 2) k) (mi M (a + 3) k) (nI pl) (nI x)) = 0)) = false → ∀ M2, Fr (inV a) M1 M2 → (∀ j, mi M2 (a + 11) j = mi M1 (a + 11) j) → E0 g YX0_judge d 27 [(0, .ref a), (1, .int (nI hl)), (2, .int (nI k)), (3, .int (nI pl)), (4, .int SA), (5, .int (nI key)), (6, .int (nI x + 1))] [] M2 (fun rv M1 => rv = none ∧ (∀ j, mi M1 (a + 11) j = if j = key then vdB F (mi M (a + 2) k) (mi M (a + 3) k) pl SA 11 else mi M (a + 11) j) ∧ Fr (inV a) M M1) := fun q M2 F2 q2 => by
      rw [nI_1]
      refine ih M2 (F1.trans F2) (fun j => ?_)
      rw [q2, H1]
      have e : vdB F (mi M (a + 2) k) (mi M (a + 3) k) pl SA (x + 1) = vdB F (mi M (a + 2) k) (mi M (a + 3) k) pl SA x := by
        unfold vdB
        rw [pb, q]
        rfl
      rw [e]
    refine qX0_judge_27 (F1.cty C) (fun _ _ => vk) (fun _ _ => vk) (fun r => absurd r n10) (fun _ r => ?_) (fun _ r => ?_)
    · rw [bit_f _ (by omega)] at r
      exact same (by rw [r]; rfl) M1 Fr.rf (fun _ => rfl)
    · rw [bit_t _ (by omega)] at r
      rw [nI_clamp (by omega), F1.i (show ¬ inV a (a + 2) by omega), F1.i (show ¬ inV a (a + 3) by omega)]
      have H2 : LwIs M1 (a + 7) hl F := H.to (F1.i (by omega)) (F1.i (by omega))
      refine K0.set (d1 := d - 1) (by omega) (tX2_valueFor (F1.cty C).a8 H2 (by omega) (by omega)) ?_
      rintro rv M2 ⟨rfl, F2⟩
      have F12 : Fr (inV a) M1 M2 := F2.mono (fun b hb => .inl (by omega))
      have F02 := F1.trans F12
      have e11 : ∀ j, mi M2 (a + 11) j = mi M1 (a + 11) j := fun j => by rw [F2.i (by omega)]
      refine qX0_judge_68 (F02.cty C) rfl (fun _ => vi hk600 (by decide)) (fun r2 => ?_) (fun r2 => ?_)
      · exact same (by rw [decide_eq_true r2]; simp) M2 F12 e11
      · rw [nI_1]
        refine ih _ (F02.wi (.inr rfl)) (fun j => ?_)
        rw [nI_clamp (by omega), wi_at]
        by_cases e : j = key
        · rw [if_pos ⟨rfl, e⟩, if_pos e, e11, H1, if_pos rfl]
          unfold vdB
          rw [pb, if_pos (by rw [r, decide_eq_false r2]; rfl)]
        · rw [if_neg (fun z => e z.2), if_neg e, e11, H1, if_neg e]
theorem tX0_judgeAll {F : Nat → (Nat → Int32) → Int32} (C : Cty M a) (hn : mi M a 0 = nI n) (h10 : n ≤ 10) (hh : mi M a 5 = nI h) (h6 : h ≤ 6) (H : ∀ hl, hl < h → LwIs M (a + 7) hl (F hl)) (hd : 3 ≤ d) : R0 g YX0_judgeAll d [.ref a] M (fun rv M1 => rv = none ∧ VdD (mi M1 (a + 11)) (mi M (a + 2)) (mi M (a + 3)) F n h 600 ∧ Fr (inV a) M M1) := by
  refine R0.of (by decide +kernel) (Nat.le_of_ble_eq_true rfl) rfl (qX0_judgeAll_0 ?_)
  have fr : ∀ {M1}, Fr (inV a) M M1 → Cty M1 a ∧ mi M1 a 0 = nI n ∧ mi M1 a 5 = nI h ∧ (∀ hl, hl < h → LwIs M1 (a + 7) hl (F hl)) ∧ mi M1 (a + 2) = mi M (a + 2) ∧ mi M1 (a + 3) = mi M (a + 3) := fun {M1} F1 => ⟨F1.cty C, by rw [F1.i (by omega)]; exact hn, by rw [F1.i (by omega)]; exact hh, fun hl hhl => (H hl hhl).to (F1.i (by omega)) (F1.i (by omega)), F1.i (by omega), F1.i (by omega)⟩
  have step : ∀ {M1 M2 : MM} {hl k pl : Nat}, hl < h → k < n → pl ≤ k → VdD (mi M1 (a + 11)) (mi M (a + 2)) (mi M (a + 3)) F n h ((hl * 10 + k) * 10 + pl) → (∀ j, mi M2 (a + 11) j = if j = (hl * 10 + k) * 10 + pl then vdB (F hl) (mi M (a + 2) k) (mi M (a + 3) k) pl (SAof (mi M (a + 2)) k pl) 11 else mi M1 (a + 11) j) → VdD (mi M2 (a + 11)) (mi M (a + 2)) (mi M (a + 3)) F n h ((hl * 10 + k) * 10 + (pl + 1)) := fun {M1 M2 hl k pl} h1 h2 h3 D1 q hl' k' pl' g1 g2 g3 g4 => by
    rw [q]
    by_cases e : (hl' * 10 + k') * 10 + pl' = (hl * 10 + k) * 10 + pl
    · have e1 : pl' = pl := by omega
      have e2 : k' = k := by omega
      have e3 : hl' = hl := by omega
      subst e1; subst e2; subst e3
      rw [if_pos rfl]
    · rw [if_neg e]
      exact D1 hl' k' pl' g1 g2 g3 (by omega)
  have key := up0 (p := fun hl => ∀ M1, Fr (inV a) M M1 → VdD (mi M1 (a + 11)) (mi M (a + 2)) (mi M (a + 3)) F n h ((hl * 10 + 0) * 10 + 0) → E0 g YX0_judgeAll d 2 [(0, .ref a), (1, .int (nI hl))] [] M1 (fun rv M1 => rv = none ∧ VdD (mi M1 (a + 11)) (mi M (a + 2)) (mi M (a + 3)) F n h 600 ∧ Fr (inV a) M M1)) h (fun M1 F1 D1 => ?_) (fun hl hhl ih M1 F1 D1 => ?_)
  · exact key M Fr.rf (fun hl k pl _ _ _ q => absurd q (by omega))
  · obtain ⟨C1, n1, g1, -⟩ := fr F1
    have le : mi M1 a 5 ≤ nI h := by rw [g1]; exact nI_le (Nat.le_refl _) (by omega)
    exact qX0_judgeAll_2 C1 (fun _ => ⟨rfl, fun hl k pl q1 q2 q3 q4 => D1 hl k pl q1 q2 q3 (by omega), F1⟩) (fun r => absurd le r)
  · obtain ⟨C1, n1, g1, -⟩ := fr F1
    have nle : ¬ mi M1 a 5 ≤ nI hl := by rw [g1, nI_leI (by omega) (by omega)]; omega
    refine qX0_judgeAll_2 C1 (fun r => absurd r nle) (fun _ => ?_)
    have key2 := up0 (p := fun k => ∀ M1, Fr (inV a) M M1 → VdD (mi M1 (a + 11)) (mi M (a + 2)) (mi M (a + 3)) F n h ((hl * 10 + k) * 10 + 0) → E0 g YX0_judgeAll d 14 [(0, .ref a), (1, .int (nI hl)), (2, .int (sA (mi M (a + 2)) k)), (3, .int (nI k))] [] M1 (fun rv M1 => rv = none ∧ VdD (mi M1 (a + 11)) (mi M (a + 2)) (mi M (a + 3)) F n h 600 ∧ Fr (inV a) M M1)) n (fun M2 F2 D2 => ?_) (fun k hk ih2 M2 F2 D2 => ?_)
    · exact key2 M1 F1 D1
    · obtain ⟨C2, n2, g2, -⟩ := fr F2
      have le : mi M2 a 0 ≤ nI n := by rw [n2]; exact nI_le (Nat.le_refl _) (by omega)
      refine qX0_judgeAll_14 C2 (fun _ => ?_) (fun r => absurd le r)
      rw [nI_1]
      exact ih M2 F2 (fun hl' k' pl' q1 q2 q3 q4 => D2 hl' k' pl' q1 q2 q3 (by omega))
    · obtain ⟨C2, n2, g2, L2, s2, l2⟩ := fr F2
      have nle : ¬ mi M2 a 0 ≤ nI k := by rw [n2, nI_leI (by omega) (by omega)]; omega
      refine qX0_judgeAll_14 C2 (fun r => absurd r nle) (fun _ => ?_)
      refine K0.set (d1 := d - 1) (by omega) (tX0_judge (pl := 0) C2 n2 h10 g2 h6 hhl hk (by omega) (L2 hl hhl) (by omega)) ?_
      rintro rv M3 ⟨rfl, q3, F3⟩
      rw [s2, l2] at q3
      have D3 := step hhl hk (Nat.zero_le _) D2 q3
      refine qX0_judgeAll_32 ?_
      have key3 := up (p := fun pl => ∀ M3, 1 ≤ pl → Fr (inV a) M M3 → VdD (mi M3 (a + 11)) (mi M (a + 2)) (mi M (a + 3)) F n h ((hl * 10 + k) * 10 + pl) → E0 g YX0_judgeAll d 35 [(0, .ref a), (1, .int (nI hl)), (2, .int (sA (mi M (a + 2)) k)), (3, .int (nI k)), (4, .int (nI pl))] [] M3 (fun rv M1 => rv = none ∧ VdD (mi M1 (a + 11)) (mi M (a + 2)) (mi M (a + 3)) F n h 600 ∧ Fr (inV a) M M1)) (k + 1) (fun M4 _ F4 D4 => ?_) (fun pl hpl ih3 M4 hp1 F4 D4 => ?_) 1 (by omega)
      · exact key3 M3 (by omega) (F2.trans F3) D3
      · obtain ⟨C4, n4, g4, L4, s4, l4⟩ := fr F4
        have lt : nI k < nI (k + 1) := nI_lt (by omega) (by omega)
        refine qX0_judgeAll_35 C4 (fun _ => vi (by omega) (by decide)) (fun _ => ?_) (fun r => absurd lt r)
        rw [nI_clamp (by omega), s4, nI_1]
        refine ih2 M4 F4 (fun hl' k' pl' q1 q2 q3 q4 => D4 hl' k' pl' q1 q2 q3 ?_)
        by_cases e : hl' * 10 + k' = hl * 10 + k
        · have : k' = k := by omega
          omega
        · omega
      · obtain ⟨C4, n4, g4, L4, s4, l4⟩ := fr F4
        have nlt : ¬ nI k < nI pl := nI_nlt (by omega) (by omega)
        refine qX0_judgeAll_35 C4 (fun r => absurd r nlt) (fun r => absurd r nlt) (fun _ => ?_)
        refine K0.set (d1 := d - 1) (by omega) (tX0_judge (pl := pl) C4 n4 h10 g4 h6 hhl hk (by omega) (L4 hl hhl) (by omega)) ?_
        rintro rv M5 ⟨rfl, q5, F5⟩
        rw [s4, l4] at q5
        have D5 := step hhl hk (by omega) D4 (fun j => by rw [q5 j]; unfold SAof; rw [if_neg (show ¬ pl = 0 by omega)])
        refine qX0_judgeAll_50 ?_
        rw [nI_1]
        exact ih3 M5 (by omega) (F4.trans F5) D5
end TX0c
/-! what a law hates, told by its value alone -/
def sHL (srt len : Nat → Int32) (F : (Nat → Int32) → Int32) (row : Int32) : Nat → Int32 × Nat × Int32
  | 0 => (0, 0, 10)
  | k + 1 => if bt row k then ((if F (mkE (srt k) (len k) (nI (sHL srt len F row k).2.1) (sHL srt len F row k).2.2) = 0 then (sHL srt len F row k).1 else (sHL srt len F row k).1 ||| ((1 : Int32) <<< (nI k &&& 31))), (sHL srt len F row k).2.1 + 1, srt k) else sHL srt len F row k
def SrtOk (n : Nat) (srt : Nat → Int32) : Prop := ∀ k, k < n → ∃ s, s ≤ 9 ∧ srt k = nI s
theorem sA_bt {n : Nat} {srt : Nat → Int32} (h : SrtOk n srt) : ∀ k, k ≤ n → ∀ j x, j < k → srt j = nI x → x ≤ 9 → bt (sA srt k) x = true
  | 0, _, j, x, hj, _, _ => absurd hj (by omega)
  | k + 1, hk, j, x, hj, e, hx => by
    rw [sA, b_or]
    by_cases q : j = k
    · subst q
      rw [e, b_one (by omega) (by omega)]; simp
    · rw [sA_bt h k (by omega) j x (by omega) e hx]; rfl
theorem sHat_law {n h hl : Nat} {srt len vd : Nat → Int32} {F : Nat → (Nat → Int32) → Int32} {row : Int32} (hs : SrtOk n srt) (h10 : n ≤ 10) (h6 : h ≤ 6) (hhl : hl < h) (V : VdD vd srt len F n h 600) : ∀ k, k ≤ n → sHat srt vd hl row k = sHL srt len (F hl) row k ∧ (((sHL srt len (F hl) row k).2.1 = 0 ∧ (sHL srt len (F hl) row k).2.2 = 10) ∨ (0 < (sHL srt len (F hl) row k).2.1 ∧ ∃ j, j < k ∧ (sHL srt len (F hl) row k).2.2 = srt j)) ∧ (sHL srt len (F hl) row k).2.1 ≤ k
  | 0, _ => ⟨rfl, .inl ⟨rfl, rfl⟩, Nat.le_refl _⟩
  | k + 1, hk => by
    obtain ⟨e, inv, le⟩ := sHat_law hs h10 h6 hhl V (row := row) k (by omega)
    unfold sHat sHL
    rw [e]
    cases q : bt row k
    · rw [if_neg (by decide), if_neg (by decide)]
      refine ⟨rfl, ?_, by omega⟩
      rcases inv with i | ⟨i1, j, i2, i3⟩
      · exact .inl i
      · exact .inr ⟨i1, j, by omega, i3⟩
    · rw [if_pos rfl, if_pos rfl]
      refine ⟨?_, .inr ⟨Nat.succ_pos _, k, by omega, rfl⟩, Nat.succ_le_succ le⟩
      have hv := V hl k (sHL srt len (F hl) row k).2.1 hhl (by omega) le (by omega)
      obtain ⟨x, hx, ex, hb⟩ : ∃ x, x ≤ 10 ∧ (sHL srt len (F hl) row k).2.2 = nI x ∧ bt (SAof srt k (sHL srt len (F hl) row k).2.1) x = true := by
        rcases inv with ⟨i1, i2⟩ | ⟨i1, j, i2, i3⟩
        · refine ⟨10, by omega, i2, ?_⟩
          unfold SAof
          rw [if_pos i1]
          decide +kernel
        · obtain ⟨x, x1, x2⟩ := hs j (by omega)
          refine ⟨x, by omega, i3.trans x2, ?_⟩
          unfold SAof
          rw [if_neg (by omega)]
          exact sA_bt hs k (by omega) j x i2 x2 x1
      have hc : ((vd ((hl * 10 + k) * 10 + (sHL srt len (F hl) row k).2.1) >>> ((sHL srt len (F hl) row k).2.2 &&& 31)) &&& 1) = 1 ↔ ¬ F hl (mkE (srt k) (len k) (nI (sHL srt len (F hl) row k).2.1) (sHL srt len (F hl) row k).2.2) = 0 := by
        rw [hv, ex, bit_t _ (by omega)]
        unfold vdB
        rw [bt_pb _ 11 (by omega) x (by omega), hb]
        have : x < 11 := by omega
        simp [this]
      by_cases z : F hl (mkE (srt k) (len k) (nI (sHL srt len (F hl) row k).2.1) (sHL srt len (F hl) row k).2.2) = 0
      · rw [if_pos z, if_neg (fun y => hc.mp y z)]
      · rw [if_neg z, if_pos (hc.mpr z)]
