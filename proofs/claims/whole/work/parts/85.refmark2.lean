/-! ===== the reference: marks laid and gone back to, counts ===== -/
abbrev inRf : Nat → Prop := fun b => 130 ≤ b ∧ b ≤ 171 ∧ b ≠ 131
abbrev inRp : Nat → Prop := fun b => b = 130 ∨ (142 ≤ b ∧ b ≤ 171)
def RPub (M M1 : MM) : Prop := Fr inRp M M1 ∧ mi M1 130 1 = mi M 130 1
theorem Sc.pub {M M1 : MM} (h : Sc M M1) : RPub M M1 := ⟨h.1.mono (fun b hb => by omega), h.2.1⟩
theorem RDd.pub {M M1 : MM} {c : CD} {u : UU} {T : TT} (h : RDd M M1 c u T) : RPub M M1 := ⟨h.2.2.2.mono (fun b hb => by omega), h.2.2.1⟩
theorem RPub.trans {M M1 M2 : MM} (h : RPub M M1) (h2 : RPub M1 M2) : RPub M M2 := ⟨h.1.trans h2.1, h2.2.trans h.2⟩
section MK2
variable {g : GG} {d : Nat} {M : MM} {la lb pa pb0 rl : Nat} {c : CD} {F : Nat → (Nat → Int32) → Int32} {T T2 : TT} {u : UU} {p p2 : PP} {w w2 : SV} {mk : Nat → KK}
theorem tX12_markNo {x y : Int32} (L : Lay M la lb pa pb0 rl) (hx : sIn x 4 = false) (hd : 1 ≤ d) : R0 g YX12_mark d [.ref 130, .int x, .int y] M (QR 0 M) := by
  have s1 : Sc M (wi M 130 0 0) := Sc.t0
  have w1 : wIn x 0 3 = sIn x 4 := wIn_sIn (m := 3) (by decide)
  refine R0.of (by decide +kernel) (Nat.le_of_ble_eq_true rfl) rfl (qX12_mark_0 L rfl (K0.ans (d1 := d - 1) (by omega) tX12_within ?_))
  rw [w1, hx]
  exact qX12_mark_11 (s1.1.lay L) rfl rfl (fun z => absurd rfl z) (fun z => absurd rfl z) (fun z => absurd rfl z) (fun _ => ⟨rfl, s1⟩) (fun z => absurd rfl z) (fun z => absurd rfl z) (fun z => absurd rfl z) (fun z => absurd rfl z) (fun z => absurd rfl z) (fun z => absurd rfl z) (fun z => absurd rfl z) (fun z => absurd rfl z) (fun z => absurd rfl z)
theorem tX12_mark {i : Nat} {y : Bool} (L : Lay M la lb pa pb0 rl) (O : COk c F) (A : RAll M c F T u p w mk) (p40 : p.1 ≤ 40) (hi : i < 4) (hd : 1 ≤ d) : R0 g YX12_mark d [.ref 130, .int (nI i), .int (b2i y)] M (fun rv M1 => ((y = false ∧ rv = some (.int 1) ∧ RAll M1 c F T u p w (fun j => if j = i then (true, T, p, w) else mk j)) ∨ (y = true ∧ (mk i).1 = false ∧ rv = some (.int 0) ∧ RAll M1 c F T u p w mk) ∨ (y = true ∧ (mk i).1 = true ∧ rv = some (.int 1) ∧ RAll M1 c F (mk i).2.1 (0, u.2) (mk i).2.2.1 (mk i).2.2.2 mk)) ∧ RPub M M1) := by
  have h10 := O.1
  have s1 : Sc M (wi M 130 0 0) := Sc.t0
  have L1 := s1.1.lay L
  have A1 := A.sc h10 s1
  have ei : (nI i).toNatClampNeg = i := nI_clamp (by omega)
  have hv : vp_in (nI i) 4 := vi hi (by decide)
  have e1 : (1 + nI i : Int32) = nI (1 + i) := nI_add 1 i
  have wi3 : wIn (nI i) 0 3 = true := by rw [show (3 : Int32) = nI 3 from rfl, wIn_nI (by omega) (by decide)]; exact decide_eq_true (by omega)
  refine R0.of (by decide +kernel) (Nat.le_of_ble_eq_true rfl) rfl (qX12_mark_0 L rfl (K0.ans (d1 := d - 1) (by omega) tX12_within ?_))
  rw [wi3]
  have n1 : vp_nar .boolean 1 = 1 := by decide
  have F2 : Fr (inC 167) (wi M 130 0 0) (wi (wi M 130 0 0) 167 i 1) := Fr.rf.wi rfl
  have L2 := F2.lay L1
  obtain ⟨a1, a2, a3, a4, a5, a6⟩ := A1
  have P2 : RPub M (wi (wi M 130 0 0) 167 i 1) := s1.pub.trans ⟨F2.mono (fun b hb => by omega), by rw [F2.i (by omega)]⟩
  cases y
  · refine qX12_mark_11 (M1 := wi (wi M 130 0 0) 167 i 1) (M2 := wi (wi M 130 0 0) 167 i 1) L1 (by rw [ei, n1]) (by rw [ei, n1]) (fun _ _ => hv) (fun _ z => absurd rfl z) (fun _ z => absurd rfl z) (fun z => absurd z (by decide)) (fun _ _ _ _ => ?_) (fun _ _ _ z => absurd rfl z) (fun _ _ z => absurd rfl z) (fun _ _ z => absurd rfl z) (fun _ z => absurd rfl z) (fun _ z => absurd rfl z) (fun _ z => absurd rfl z) (fun _ z => absurd rfl z) (fun _ z => absurd rfl z)
    rw [e1]
    refine K0.set (d1 := d - 1) (by omega) (tX12_laysLines (o1 := 0) (o2 := 1 + i) L2 (by omega) (by omega) (by omega)) ?_
    rintro rv M3 ⟨rfl, l1, l2, l3, F3⟩
    have L3 := F3.lay L2
    have W3 : RSe M3 0 w := (a5.fr F2 (fun b h1 h2 => by omega)).fr F3 (fun b h1 h2 => by omega)
    have Q2 : RLn (wi (wi M 130 0 0) 167 i 1) 0 p := a4.fr F2 (fun b h1 h2 => by omega)
    refine qX12_mark_68 L3 (K0.set (d1 := d - 1) (by omega) (tX12_laysSeen (o1 := 0) (o2 := 1 + i) L3 W3 (by omega) (by omega) (by omega)) ?_)
    rintro rv M4 ⟨rfl, m1, m2, F4⟩
    have L4 := F4.lay L3
    refine qX12_mark_75 L4 (fun _ => ?_) (fun z => absurd rfl z)
    rw [show (19 : Int32) = nI 19 from rfl, pk_mul]
    refine K0.set (d1 := d - 1) (by omega) (tX12_copies (x := 0) (y := 19 * i) (L4.s (a := 162) rfl (by decide)) (L4.s (a := 165) rfl (by decide)) (by omega) (by omega) (by decide) (by decide) (by decide)) ?_
    rintro rv M5 ⟨rfl, c1, c2, F5⟩
    have e162 : mi M4 162 = mi (wi M 130 0 0) 162 := by rw [F4.i (by omega), F3.i (by omega), F2.i (by omega)]
    refine qX12_mark_119 ⟨.inl ⟨rfl, rfl, ?_, ?_, ?_, ?_, ?_, fun j hj => ?_⟩, ?_⟩
    · exact (((a1.fr F2 (fun b hb => by omega)).fr F3 (fun b hb => by omega)).fr F4 (fun b hb => by omega)).fr F5 (fun b hb => by omega)
    · rw [F5.i (by omega), e162]; exact a2
    · exact (((a3.fr F2 (by rw [F2.i (by omega)]) (by omega)).fr F3 (by rw [F3.i (by omega)]) (by omega)).fr F4 (by rw [F4.i (by omega)]) (by omega)).fr F5 (by rw [F5.i (by omega)]) (by omega)
    · exact ((Q2.other p40 (by omega) l2 l3).fr F4 (fun b h1 h2 => by omega)).fr F5 (fun b h1 h2 => by omega)
    · exact (m2 0 w (by omega) W3).fr F5 (fun b h1 h2 => by omega)
    · show RMk M5 (cn c) (ch c) j (if j = i then (true, T, p, w) else mk j)
      by_cases e : j = i
      · subst e
        rw [if_pos rfl]
        refine ⟨?_, fun _ => ⟨?_, ?_, p40, ?_⟩⟩
        · rw [F5.i (by omega), F4.i (by omega), F3.i (by omega), wi_at, if_pos ⟨rfl, rfl⟩]; rfl
        · refine a2.cong h10 (fun k hk => ?_)
          rw [c1 k hk, Nat.zero_add, e162]
        · exact ((Q2.over p40 l1 l3).fr F4 (fun b h1 h2 => by omega)).fr F5 (fun b h1 h2 => by omega)
        · exact m1.fr F5 (fun b h1 h2 => by omega)
      · rw [if_neg e]
        obtain ⟨k1, k2⟩ := a6 j hj
        refine ⟨?_, fun z => ?_⟩
        · rw [F5.i (by omega), F4.i (by omega), F3.i (by omega), wi_at, if_neg (fun z => e z.2)]; exact k1
        · obtain ⟨q1, q2, q3, q4⟩ := k2 z
          refine ⟨q1.cong h10 (fun k hk => ?_), ?_, q3, ?_⟩
          · rw [c2 _ (by omega), F4.i (by omega), F3.i (by omega), F2.i (by omega)]
          · exact (((q2.fr F2 (fun b h1 h2 => by omega)).other q3 (by omega) l2 l3).fr F4 (fun b h1 h2 => by omega)).fr F5 (fun b h1 h2 => by omega)
          · exact (m2 (1 + j) _ (by omega) ((q4.fr F2 (fun b h1 h2 => by omega)).fr F3 (fun b h1 h2 => by omega))).fr F5 (fun b h1 h2 => by omega)
    · exact ((P2.trans ⟨F3.mono (fun b hb => by omega), by rw [F3.i (by omega)]⟩).trans ⟨F4.mono (fun b hb => by omega), by rw [F4.i (by omega)]⟩).trans ⟨F5.mono (fun b hb => by omega), by rw [F5.i (by omega)]⟩
  · have k67 : mi (wi M 130 0 0) 167 (nI i).toNatClampNeg = b2i (mk i).1 := by rw [ei]; exact (a6 i hi).1
    cases hb : (mk i).1
    · rw [hb] at k67
      exact qX12_mark_11 (M1 := wi (wi M 130 0 0) 167 i 1) (M2 := wi (wi M 130 0 0) 167 i 1) L1 (by rw [ei, n1]) (by rw [ei, n1]) (fun _ _ => hv) (fun _ _ => hv) (fun _ _ _ => hv) (fun z => absurd z (by decide)) (fun _ z => absurd z (by decide)) (fun _ z => absurd z (by decide)) (fun _ z => absurd z (by decide)) (fun _ z => absurd z (by decide)) (fun _ _ z => absurd k67 z) (fun _ _ z => absurd k67 z) (fun _ _ z => absurd k67 z) (fun _ _ z => absurd k67 z) (fun _ _ _ => ⟨.inr (.inl ⟨rfl, rfl, rfl, a1, a2, a3, a4, a5, a6⟩), s1.pub⟩)
    · rw [hb] at k67
      have kn : ¬ mi (wi M 130 0 0) 167 (nI i).toNatClampNeg = 0 := by rw [k67]; decide
      refine qX12_mark_11 (M1 := wi (wi M 130 0 0) 167 i 1) (M2 := wi (wi M 130 0 0) 167 i 1) L1 (by rw [ei, n1]) (by rw [ei, n1]) (fun _ _ => hv) (fun _ _ => hv) (fun _ _ _ => hv) (fun z => absurd z (by decide)) (fun _ z => absurd z (by decide)) (fun _ z => absurd z (by decide)) (fun _ z => absurd z (by decide)) (fun _ z => absurd z (by decide)) (fun _ _ _ z => absurd z (by decide)) (fun _ _ _ z => absurd z (by decide)) (fun _ _ _ _ z => absurd z (by decide)) (fun _ _ _ _ _ => ?_) (fun _ _ z => absurd z kn)
      rw [e1]
      obtain ⟨k1, k2⟩ := a6 i hi
      obtain ⟨q1, q2, q3, q4⟩ := k2 hb
      have Q2 : RLn (wi (wi M 130 0 0) 167 i 1) (1 + i) (mk i).2.2.1 := q2.fr F2 (fun b h1 h2 => by omega)
      refine K0.set (d1 := d - 1) (by omega) (tX12_laysLines (o1 := 1 + i) (o2 := 0) L2 (by omega) (by omega) (by omega)) ?_
      rintro rv M3 ⟨rfl, l1, l2, l3, F3⟩
      have L3 := F3.lay L2
      have W3 : RSe M3 (1 + i) (mk i).2.2.2 := (q4.fr F2 (fun b h1 h2 => by omega)).fr F3 (fun b h1 h2 => by omega)
      refine qX12_mark_68 L3 (K0.set (d1 := d - 1) (by omega) (tX12_laysSeen (o1 := 1 + i) (o2 := 0) L3 W3 (by omega) (by omega) (by omega)) ?_)
      rintro rv M4 ⟨rfl, m1, m2, F4⟩
      have L4 := F4.lay L3
      refine qX12_mark_75 L4 (fun z => absurd z (by decide)) (fun _ => ?_)
      rw [show (19 : Int32) = nI 19 from rfl, pk_mul]
      refine K0.set (d1 := d - 1) (by omega) (tX12_copies (x := 19 * i) (y := 0) (L4.s (a := 165) rfl (by decide)) (L4.s (a := 162) rfl (by decide)) (by omega) (by omega) (by decide) (by decide) (by decide)) ?_
      rintro rv M5 ⟨rfl, c1, c2, F5⟩
      have F6 : Fr (inC 130) M5 (wi M5 130 49 0) := Fr.rf.wi rfl
      refine qX12_mark_95 (F5.lay L4) rfl (qX12_mark_119 ⟨.inr (.inr ⟨rfl, rfl, rfl, ?_, ?_, ⟨Nat.zero_le _, ?_, fun j hj => absurd hj (Nat.not_lt_zero _)⟩, ?_, ?_, fun j hj => ?_⟩), ?_⟩)
      · exact ((((a1.fr F2 (fun b hb => by omega)).fr F3 (fun b hb => by omega)).fr F4 (fun b hb => by omega)).fr F5 (fun b hb => by omega)).fr F6 (fun b hb => by omega)
      · refine q1.cong h10 (fun k hk => ?_)
        rw [F6.i (by omega), ← Nat.zero_add k, c1 k hk, Nat.zero_add, F4.i (by omega), F3.i (by omega), F2.i (by omega)]
      · rw [wi_at, if_pos ⟨rfl, rfl⟩]; rfl
      · exact (((Q2.over q3 l1 l3).fr F4 (fun b h1 h2 => by omega)).fr F5 (fun b h1 h2 => by omega)).fr F6 (fun b h1 h2 => by omega)
      · exact (m1.fr F5 (fun b h1 h2 => by omega)).fr F6 (fun b h1 h2 => by omega)
      · obtain ⟨k1, k2⟩ := a6 j hj
        refine ⟨?_, fun z => ?_⟩
        · rw [F6.i (by omega), F5.i (by omega), F4.i (by omega), F3.i (by omega), wi_at]
          by_cases e : j = i
          · rw [if_pos ⟨rfl, e⟩, e, hb]; rfl
          · rw [if_neg (fun z => e z.2)]; exact k1
        · obtain ⟨r1, r2, r3, r4⟩ := k2 z
          refine ⟨?_, ?_, r3, ?_⟩
          · rw [F6.i (by omega), F5.i (by omega), F4.i (by omega), F3.i (by omega), F2.i (by omega)]; exact r1
          · exact ((((r2.fr F2 (fun b h1 h2 => by omega)).other r3 (by omega) l2 l3).fr F4 (fun b h1 h2 => by omega)).fr F5 (fun b h1 h2 => by omega)).fr F6 (fun b h1 h2 => by omega)
          · exact ((m2 (1 + j) _ (by omega) ((r4.fr F2 (fun b h1 h2 => by omega)).fr F3 (fun b h1 h2 => by omega))).fr F5 (fun b h1 h2 => by omega)).fr F6 (fun b h1 h2 => by omega)
      · exact (((P2.trans ⟨F3.mono (fun b hb => by omega), by rw [F3.i (by omega)]⟩).trans ⟨F4.mono (fun b hb => by omega), by rw [F4.i (by omega)]⟩).trans ⟨F5.mono (fun b hb => by omega), by rw [F5.i (by omega)]⟩).trans ⟨F6.mono (fun b hb => by omega), by rw [wi_at, if_neg (by omega)]⟩
theorem tX12_count {x : Int32} (L : Lay M la lb pa pb0 rl) (O : COk c F) (A : RAll M c F T u p w mk) (TO : TOk c T) (hd : 1 ≤ d) : R0 g YX12_count d [.ref 130, .int x] M (QR (cCnt c (tvOf (cn c) T) (0, u.1, fun _ => tvOf (cn c) T) (p.1, fun _ => 0, fun _ => 0, fun _ => 0, fun _ => 0) w (mi M 130 1) x) M) := by
  have h10 := O.1
  have h6 := O.2.1
  have s1 : Sc M (wi M 130 0 0) := Sc.t0
  have L1 := s1.1.lay L
  obtain ⟨a1, a2, a3, a4, a5, a6⟩ := A.sc h10 s1
  refine R0.of (by decide +kernel) (Nat.le_of_ble_eq_true rfl) rfl (qX12_count_0 L rfl (K0.ans (d1 := d - 1) (by omega) tX12_within ?_))
  cases q : wIn x 0 10
  · have n := fun (j : Nat) (hj : j ≤ 10) => wno (m := 10) (by decide) hj q
    have e : cCnt c (tvOf (cn c) T) (0, u.1, fun _ => tvOf (cn c) T) (p.1, fun _ => 0, fun _ => 0, fun _ => 0, fun _ => 0) w (mi M 130 1) x = -1 := by
      unfold cCnt
      have n0 : ¬ x.toInt = 0 := n 0 (by omega)
      have n1 : ¬ x.toInt = 1 := n 1 (by omega)
      have n2 : ¬ x.toInt = 2 := n 2 (by omega)
      have n3 : ¬ x.toInt = 3 := n 3 (by omega)
      have n4 : ¬ x.toInt = 4 := n 4 (by omega)
      have n5 : ¬ x.toInt = 5 := n 5 (by omega)
      have n6 : ¬ x.toInt = 6 := n 6 (by omega)
      have n7 : ¬ x.toInt = 7 := n 7 (by omega)
      have n8 : ¬ x.toInt = 8 := n 8 (by omega)
      have n9 : ¬ x.toInt = 9 := n 9 (by omega)
      have n10 : ¬ x.toInt = 10 := n 10 (by omega)
      rw [if_neg n0, if_neg n1, if_neg n2, if_neg n3, if_neg n4, if_neg n5, if_neg n6, if_neg n7, if_neg n8, if_neg n9, if_neg n10]
    rw [e]
    exact qX12_count_12 L1 (fun z => absurd rfl z) (fun z => absurd rfl z) (fun z => absurd rfl z) (fun z => absurd rfl z) (fun z => absurd rfl z) (fun z => absurd rfl z) (fun z => absurd rfl z) (fun z => absurd rfl z) (fun z => absurd rfl z) (fun z => absurd rfl z) (fun z => absurd rfl z) (fun _ => ⟨rfl, s1⟩)
  · obtain ⟨y, hy, rfl⟩ := wIn_of (m := 10) (by decide) q
    have le : ∀ (k : Nat) (z : Int32), z = nI k → k < 100 → (z ≤ nI y ↔ k ≤ y) := fun k z hz hk => by rw [hz]; exact nI_leI (by omega) (by omega)
    have ne : ∀ (k : Nat) (z : Int32), z = nI k → k < 100 → (nI y = z ↔ y = k) := fun k z hz hk => by rw [hz]; exact nI_eq (by omega) (by omega)
    have et : (nI y).toInt = (y : Int) := nI_toInt (by omega)
    have l2 := le 2 2 rfl (by omega)
    have l5 := le 5 5 rfl (by omega)
    have l8 := le 8 8 rfl (by omega)
    have e8 := ne 8 8 rfl (by omega)
    have e9 := ne 9 9 rfl (by omega)
    have e5 := ne 5 5 rfl (by omega)
    have e6 := ne 6 6 rfl (by omega)
    have e2 := ne 2 2 rfl (by omega)
    have e3 := ne 3 3 rfl (by omega)
    refine qX12_count_12 L1 (fun _ r => ?_) (fun _ r1 r2 r3 r4 r5 => ⟨?_, s1⟩) (fun _ r1 r2 r3 r4 r5 => ⟨?_, s1⟩) (fun _ r1 r2 r3 r4 => ⟨?_, s1⟩) (fun _ r1 r2 r3 r4 r5 => ⟨?_, s1⟩) (fun _ r1 r2 r3 r4 r5 => ?_) (fun _ r1 r2 r3 r4 => ⟨?_, s1⟩) (fun _ r1 r2 r3 r4 => ?_) (fun _ r1 r2 r3 r4 => ?_) (fun _ r1 r2 r3 => qX12_count_70 ⟨?_, s1⟩) (fun _ r1 => ⟨?_, s1⟩) (fun z => absurd z (by decide)) <;> simp only [l2, l5, l8, e8, e9, e5, e6, e2, e3] at *
    · exact vi (by omega) (by decide)
    · have : y = 10 := by omega
      subst this
      rw [s1.2.1]; rfl
    · subst r5
      rw [a3.2.1]; rfl
    · subst r4
      rw [a5.2.1]; rfl
    · have : y = 7 := by omega
      subst this
      rw [a4.1]; rfl
    · subst r5
      exact K0.ans (d1 := d - 1) (by omega) (tX12_inDrawers L1 a1 O a2 TO) (qX12_count_101 ⟨rfl, s1⟩)
    · subst r4
      rw [a2.2.2.1]; rfl
    · have : y = 4 := by omega
      subst this
      exact K0.ans (d1 := d - 1) (by omega) (tX12_nextHall L1 a1 O a2 TO) (qX12_count_70 ⟨rfl, s1⟩)
    · subst r4
      rw [a2.1]
      exact K0.ans (d1 := d - 1) (by omega) (tX12_minutesOf L1 a1 O) (qX12_count_63 (qX12_count_70 ⟨rfl, s1⟩))
    · subst r3
      rw [a2.1]; rfl
    · rcases (show y = 0 ∨ y = 1 by omega) with rfl | rfl
      · rw [show (nI 0).toNatClampNeg = 0 from rfl, a1.1]; rfl
      · rw [show (nI 1).toNatClampNeg = 1 from rfl, a1.2.1]; rfl
end MK2
