/-! ===== halls, read by the class ===== -/
theorem kKd_kkw (K : TK) : (kKd K = 4 ∧ (kkw K < 10 ∨ ¬ kkw K ≤ 13)) ∨ ∃ k, k < 4 ∧ kkw K = nI (10 + k) ∧ kKd K = k := by
  have no : ∀ i, i < 21 → ¬ kkw K = nI i → kW K i = false := fun i hi h => by
    cases q : kW K i
    · rfl
    · exact absurd ((kkw_eq hi).mpr q) h
  rcases kkw_of K with ⟨a1, a2⟩ | ⟨y, y1, y2, y3, -⟩
  · refine .inl ⟨?_, .inl ?_⟩
    · unfold kKd
      rw [a2 10 (by decide), a2 11 (by decide), a2 12 (by decide), a2 13 (by decide)]; rfl
    · rw [a1]; decide
  · by_cases h : 10 ≤ y ∧ y ≤ 13
    · refine .inr ⟨y - 10, by omega, by rw [y3, show 10 + (y - 10) = y by omega], ?_⟩
      have one : ∀ i, i < 21 → kW K i = decide (y = i) := fun i hi => by
        by_cases e : y = i
        · rw [← e, y2, decide_eq_true rfl]
        · rw [decide_eq_false e]; exact no i hi (fun z => e (by rw [y3] at z; exact (nI_eq (by omega) (by omega)).mp z))
      unfold kKd
      rw [one 10 (by decide), one 11 (by decide), one 12 (by decide), one 13 (by decide)]
      obtain ⟨h1, h2⟩ := h
      have : y = 10 ∨ y = 11 ∨ y = 12 ∨ y = 13 := by omega
      rcases this with rfl | rfl | rfl | rfl <;> rfl
    · refine .inl ⟨?_, ?_⟩
      · have f : ∀ i, 10 ≤ i → i ≤ 13 → kW K i = false := fun i i1 i2 => no i (by omega) (fun z => by
          rw [y3] at z
          have := (nI_eq (by omega) (by omega)).mp z
          omega)
        unfold kKd
        rw [f 10 (by decide) (by decide), f 11 (by decide) (by decide), f 12 (by decide) (by decide), f 13 (by decide) (by decide)]; rfl
      · rw [y3, show (10 : Int32) = nI 10 from rfl, show (13 : Int32) = nI 13 from rfl, nI_ltI (by omega) (by decide), nI_leI (by omega) (by decide)]
        omega
section STM3
variable {g : GG} {d : Nat} {M M1 M2 : MM} {la lb pa pb0 rl n p : Nat} {t : Nat → Nat} {D : DTs} {x : List Int32}
theorem tX0_addHall {a h : Nat} {j : Int64} {s : Int32} (C : Cty M a) (hn : mi M a 5 = nI h) (h6 : h < 6) : R0 g YX0_addHall d [.ref a, .long j, .int s] M (fun rv M1 => rv = none ∧ mi M1 a 5 = nI (h + 1) ∧ (∀ k, k ≠ 5 → mi M1 a k = mi M a k) ∧ (∀ k, mj M1 (a + 5) k = if k = h then j else mj M (a + 5) k) ∧ (∀ k, mi M1 (a + 6) k = if k = h then s else mi M (a + 6) k) ∧ (∀ k, mi M1 (a + 7 + 2) k = if k = h then mi M (a + 7) 1 else mi M (a + 7 + 2) k) ∧ Fr (fun b => b = a ∨ b = a + 5 ∨ b = a + 6 ∨ b = a + 7 + 2) M M1) := by
  have hlt : ¬ (6 : Int32) ≤ mi M a 5 := by rw [hn]; exact ngl 6 rfl (by decide) h6
  have hv : vp_in (nI h) 6 := vi h6 (by decide)
  have e2 : mi (wi (wj M (a + 5) h j) (a + 6) h s) a 5 = nI h := by rw [wi_at, if_neg (by omega), wj_i, hn]
  have e3 : mi (wi (wi (wj M (a + 5) h j) (a + 6) h s) (a + 7 + 2) h (mi M (a + 7) 1)) a 5 = nI h := by rw [wi_at, if_neg (by omega), e2]
  have em : mi (wi (wj M (a + 5) h j) (a + 6) h s) (a + 7) 1 = mi M (a + 7) 1 := by rw [wi_at, if_neg (by omega), wj_i]
  refine R0.of (by decide +kernel) (Nat.le_of_ble_eq_true rfl) rfl (qX0_addHall_0 (M1 := wj M (a + 5) h j) (M2 := wi (wj M (a + 5) h j) (a + 6) h s) (M3 := wi (wi (wj M (a + 5) h j) (a + 6) h s) (a + 7 + 2) h (mi M (a + 7) 1)) (M4 := wi (wi (wi (wj M (a + 5) h j) (a + 6) h s) (a + 7 + 2) h (mi M (a + 7) 1)) a 5 (nI (h + 1))) C (by rw [hn, nI_clamp (by omega)]) (by rw [hn, nI_clamp (by omega)]) (by rw [e2, em, nI_clamp (by omega)]) (by rw [e3, nI_1]) (fun _ => by rw [hn]; exact hv) (fun _ => by rw [hn]; exact hv) (fun _ => by rw [e2]; exact hv) (fun r => absurd r hlt) (fun _ => ?_))
  refine ⟨rfl, by rw [wi_at, if_pos ⟨rfl, rfl⟩], fun k hk => ?_, fun k => ?_, fun k => ?_, fun k => ?_, ?_⟩
  · rw [wi_at, if_neg (fun z => hk z.2), wi_at, if_neg (by omega), wi_at, if_neg (by omega), wj_i]
  · show mj (wj M (a + 5) h j) (a + 5) k = _
    rw [wj_at]
    by_cases e : k = h
    · rw [if_pos ⟨rfl, e⟩, if_pos e]
    · rw [if_neg (fun z => e z.2), if_neg e]
  · rw [wi_at, if_neg (by omega), wi_at, if_neg (by omega), wi_at]
    by_cases e : k = h
    · rw [if_pos ⟨rfl, e⟩, if_pos e]
    · rw [if_neg (fun z => e z.2), if_neg e, wj_i]
  · rw [wi_at, if_neg (by omega), wi_at]
    by_cases e : k = h
    · rw [if_pos ⟨rfl, e⟩, if_pos e]
    · rw [if_neg (fun z => e z.2), if_neg e, wi_at, if_neg (by omega), wj_i]
  · exact (((Fr.rf.wj (.inr (.inl rfl))).wi (.inr (.inr (.inl rfl)))).wi (.inr (.inr (.inr rfl)))).wi (.inl rfl)
theorem SWq.law {M3 : MM} {q : Nat} {cc : List Int32} (h : SW la lb pa pb0 rl n t M M1 p D []) (C : CInv la lb pa pb0 rl n t M1 M3 (eD D) q cc) : SW la lb pa pb0 rl n t M M3 q D cc := by
  obtain ⟨b1, b2, b3, b4, b5⟩ := h
  obtain ⟨c1, c2, c3, c4, c5⟩ := C
  obtain ⟨d1, d2, d3, d4⟩ := b2
  have hrl := b1.rlr
  refine ⟨c2, ⟨by rw [c1.i (by omega)]; exact d1, by rw [c1.i (by omega)]; exact d2, fun k hk => ?_, fun k hk => ?_⟩, c4, b4.trans (c1.mono (fun b hb => by omega)), by rw [c5, b5]⟩
  · rw [c1.j (show ¬ inR rl (rl + 1) by omega), c1.i (show ¬ inR rl (rl + 2) by omega), c1.i (show ¬ inR rl (rl + 3) by omega), c1.i (show ¬ inR rl (rl + 4) by omega)]
    exact d3 k hk
  · rw [c1.j (show ¬ inR rl (rl + 5) by omega), c1.i (show ¬ inR rl (rl + 6) by omega), c1.i (show ¬ inR rl (rl + 7 + 2) by omega)]
    obtain ⟨g1, g2, g3, g4⟩ := d4 k hk
    refine ⟨g1, g2, g3, g4.pres (fun j j1 j2 => c3 j ?_)⟩
    have := eNl_le (dlw D) (show k + 1 ≤ dh D from hk)
    have e : eNl (dlw D) (k + 1) = eNl (dlw D) k + (rcc (dlw D k)).length := rfl
    show j < eNl (dlw D) (dh D)
    omega
theorem tX7_readHall (h : SW la lb pa pb0 rl n t M M p D []) (O : DOk D) (hE : eD D ≤ p) (hd : 38 ≤ d) : R0 g YX7_readHall d [.ref 28] M (SRes la lb pa pb0 rl n t M (pHall n t p D)) := by
  have hrl := h.r
  have e6 : mi M rl 5 < 6 ↔ dh D < 6 := by rw [h.2.1.2.1]; exact ltl 6 rfl (by decide) (by have := O.2.1; omega)
  have hp0 := h.ple
  unfold pHall
  refine R0.of (by decide +kernel) (Nat.le_of_ble_eq_true rfl) rfl (qX7_readHall_0 h.L (fun r => ?_) (fun r => ?_)) <;> rw [e6] at r
  · rw [if_pos r]
    refine K0.advS h (by omega) (fun M2 h2 => qX7_readHall_25 h2.L (K0.tk (by omega) (tX7_takeNewName h2 O (by omega)) (fun f1 M3 h3 => ?_) (fun f1 M3 q1 q2 q3 => ?_)))
    · rw [chkS_0 f1]
      obtain ⟨w1, w2⟩ := kNm_w (newF_0 f1).1
      have ej : mj M2 25 6 = lJ (hRx 32 (kws (lexT n t (nxT n t p)))) := h2.K.2.2.2.2.1 w1
      rw [ej]
      have k7 : mi M3 25 7 = kkw (lexT n t (n2 n t p)) := h3.kw
      have fl : kKd (lexT n t (n2 n t p)) = 4 → K0 g YX7_readHall YX7_fail d 67 [.ref 28, .int 1] [] [] M3 (SRes la lb pa pb0 rl n t M (if kKd (lexT n t (n2 n t p)) < 4 then
      chkS n t (kwF (lexT n t (n3 n t p)) 5) (n3 n t p) (if rst (pEx n t (fuX n) 4 0 (n4 n t p) prOut) = 0 then
        chkS n t (smF (lexT n t (rpo (pEx n t (fuX n) 4 0 (n4 n t p) prOut)))) (rpo (pEx n t (fuX n) 4 0 (n4 n t p) prOut)) (sOkS (nxT n t (rpo (pEx n t (fuX n) 4 0 (n4 n t p) prOut))) (dAddH D (kws (lexT n t (n1 n t p))) (kKd (lexT n t (n2 n t p))) (pEx n t (fuX n) 4 0 (n4 n t p) prOut)))
      else sFlS (rfa (pEx n t (fuX n) 4 0 (n4 n t p) prOut)))
    else sFlS (fltC n t 1 (n2 n t p)))) := fun z => by
        rw [if_neg (by omega)]
        exact K0.failS (k := 1) h3 (by omega) (fun M4 q1 q2 q3 => qX7_readHall_67 (by decide) (SRes.bad q1 q2 q3))
      rcases kKd_kkw (lexT n t (n2 n t p)) with ⟨z1, z2⟩ | ⟨k, z1, z2, z3⟩
      · refine qX7_readHall_37 h3.L (fun _ _ => fl z1) (fun _ y1 y2 => ?_) (fun _ _ _ => fl z1) (fun z => absurd z (by decide))
        rw [k7] at y1 y2
        rcases z2 with z2 | z2
        · exact absurd z2 y1
        · exact absurd y2 z2
      · have c10 : ¬ mi M3 25 7 < 10 := by rw [k7, z2, show (10 : Int32) = nI 10 from rfl, nI_ltI (by omega) (by decide)]; omega
        have c13 : mi M3 25 7 ≤ 13 := by rw [k7, z2, show (13 : Int32) = nI 13 from rfl, nI_leI (by omega) (by decide)]; omega
        refine qX7_readHall_37 h3.L (fun _ y => absurd y c10) (fun _ _ _ => ?_) (fun _ _ y => absurd c13 y) (fun z => absurd z (by decide))
        rw [if_pos (by omega), k7, z2, z3]
        refine K0.advS h3 (by omega) (fun M4 h4 => qX7_readHall_75 h4.L (K0.tk (by omega) (tX7_takeKeyword (i := 5) h4 (by omega) (by omega)) (fun f2 M5 h5 => ?_) (fun f2 M5 q1 q2 q3 => ?_)))
        · rw [chkS_0 f2]
          have p1 := nxT_le (t := t) hp0
          have p2 := nxT_le (t := t) p1.2.1
          have p3 := nxT_le (t := t) p2.2.1
          have p4 := nxT_le (t := t) p3.2.1
          have hfu : rst (pEx n t (fuX n) 4 0 (n4 n t p) prOut) ≠ 2 := pEx_fuel _ _ _ _ _ p4.2.1 (by omega) (by unfold fuX; omega)
          refine qX7_readHall_80 h5.L (fun z => absurd z (by decide)) (fun _ => K0.set (d1 := d - 1) (by omega) ((sX_all (fuX n)).2.2.2.2.1 0 (n4 n t p) (eD D) (d - 1) M5 (by omega) h5.1 (by show eD D ≤ nxT n t (nxT n t (nxT n t (nxT n t p))); omega) hfu (by omega)) ?_)
          rintro rv M6 (⟨g1, rfl, g2⟩ | ⟨g1, rfl, g2, g3⟩)
          · rw [if_pos g1]
            have h6 := h5.law g2
            refine qX7_readHall_88 h6.L (fun z => absurd z (by decide)) (fun _ => K0.tk (by omega) (tX7_takeSemicolon h6 (by omega)) (fun f3 M7 h7 => ?_) (fun f3 M7 q1 q2 q3 => ?_))
            · rw [chkS_0 f3]
              have ek : (nI (10 + k) - 10) + 0 = nI k := by
                rcases (show k = 0 ∨ k = 1 ∨ k = 2 ∨ k = 3 by omega) with rfl | rfl | rfl | rfl <;> rfl
              refine qX7_readHall_95 h7.L (fun _ => ?_) (fun z => absurd z (by decide))
              rw [ek]
              refine K0.set (d1 := d - 1) (by omega) (tX0_addHall h7.L.crl h7.2.1.2.1 r) ?_
              rintro rv M9 ⟨rfl, b1, b2, b3, b4, b5, F9⟩
              obtain ⟨d1, d2, d3, d4⟩ := h7.2.1
              have hm := h7.1.2.2.2.2.2
              have hlw : ∀ j, j < dh D → (if j = dh D then pEx n t (fuX n) 4 0 (n4 n t p) prOut else dlw D j) = dlw D j := fun j hj => if_neg (by omega)
              have eL : ∀ j, j ≤ dh D → eNl (dlw (dAddH D (kws (lexT n t (n1 n t p))) k (pEx n t (fuX n) 4 0 (n4 n t p) prOut))) j = eNl (dlw D) j := fun j hj => eNl_cong (fun i hi => hlw i (by omega))
              have eT : eD (dAddH D (kws (lexT n t (n1 n t p))) k (pEx n t (fuX n) 4 0 (n4 n t p) prOut)) = eD D + (rcc (pEx n t (fuX n) 4 0 (n4 n t p) prOut)).length := by
                show eNl _ (dh D + 1) = _
                rw [eNl, eL _ (Nat.le_refl _)]
                show _ + (rcc (if dh D = dh D then _ else _)).length = _
                rw [if_pos rfl]
              refine qX7_readHall_114 (.inl ⟨rfl, rfl, h7.mk F9 (fun b hb => by omega) (by rw [F9.i (by omega), hm, sOkS, eT]) ⟨by rw [b2 0 (by omega)]; exact d1, b1, fun k hk => ?_, fun k2 hk => ?_⟩⟩)
              · rw [F9.j (by omega), F9.i (show ¬ (rl + 2 = rl ∨ rl + 2 = rl + 5 ∨ rl + 2 = rl + 6 ∨ rl + 2 = rl + 7 + 2) by omega), F9.i (show ¬ (rl + 3 = rl ∨ rl + 3 = rl + 5 ∨ rl + 3 = rl + 6 ∨ rl + 3 = rl + 7 + 2) by omega), F9.i (show ¬ (rl + 4 = rl ∨ rl + 4 = rl + 5 ∨ rl + 4 = rl + 6 ∨ rl + 4 = rl + 7 + 2) by omega)]
                exact d3 k hk
              · have hk : k2 < dh D + 1 := hk
                rw [b3, b4, b5]
                have e8 : mi M9 (rl + 7 + 1) = mi M7 (rl + 7 + 1) := F9.i (by omega)
                by_cases e : k2 = dh D
                · subst e
                  rw [if_pos rfl, if_pos rfl, if_pos rfl]
                  refine ⟨?_, ?_, ?_, ?_⟩
                  · show _ = lJ (hRx 32 (if dh D = dh D then _ else _)); rw [if_pos rfl]
                  · show _ = nI (if dh D = dh D then _ else _); rw [if_pos rfl]
                  · rw [hm]; exact congrArg nI eT.symm
                  · show SegIs M9 (rl + 7) (eNl _ (dh D)) (rcc (if dh D = dh D then _ else _))
                    rw [if_pos rfl]
                    have : SegIs M9 (rl + 7) (eNl (dlw D) (dh D)) _ := h7.2.2.1.to e8
                    rw [← eL _ (Nat.le_refl _)] at this
                    exact this
                · rw [if_neg e, if_neg e, if_neg e]
                  obtain ⟨g1, g2, g3, g4⟩ := d4 k2 (by omega)
                  refine ⟨?_, ?_, ?_, ?_⟩
                  · show _ = lJ (hRx 32 (if k2 = dh D then _ else _)); rw [if_neg e]; exact g1
                  · show _ = nI (if k2 = dh D then _ else _); rw [if_neg e]; exact g2
                  · rw [g3]; exact congrArg nI (eL _ (by omega)).symm
                  · show SegIs M9 (rl + 7) (eNl _ k2) (rcc (if k2 = dh D then _ else _))
                    rw [if_neg e]
                    have := g4.to e8
                    rw [← eL k2 (by omega)] at this
                    exact this
            · rw [chkS_n f3]; exact qX7_readHall_95 q3 (fun z => absurd rfl z) (fun _ => SRes.bad q1 q2 q3)
          · rw [if_neg (by omega)]
            have F5 := h5.2.2.2.1.trans (g3.mono (fun b hb => by omega))
            exact qX7_readHall_88 (F5.lay h.L) (fun _ => SRes.bad g2 F5 (F5.lay h.L)) (fun z => absurd rfl z)
        · rw [chkS_n f2]; exact qX7_readHall_80 q3 (fun _ => SRes.bad q1 q2 q3) (fun z => absurd rfl z)
    · rw [chkS_n f1]; exact qX7_readHall_37 q3 (fun z => absurd rfl z) (fun z => absurd rfl z) (fun z => absurd rfl z) (fun _ => SRes.bad q1 q2 q3)
  · rw [if_neg r]
    exact K0.failS (k := 5) h (by omega) (fun M3 q1 q2 q3 => qX7_readHall_17 (by decide) (SRes.bad q1 q2 q3))
end STM3
