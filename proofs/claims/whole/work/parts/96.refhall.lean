/-! ===== the reference reads: halls, a county ===== -/
section RH
variable {g : GG} {d : Nat} {B M M1 M2 : MM} {la lb pa pb0 rl n p : Nat} {t : Nat → Nat} {D : DTs}
theorem RcD.addH {w : List Nat} {kd : Nat} {r : PRs} (h : RcD M D) (e132 : ∀ k, mi M1 132 k = if k = 3 then nI (dh D + 1) else mi M 132 k) (e133 : mj M1 133 = mj M 133) (e134 : ∀ k, mj M1 134 k = if k = 6 + dh D then lJ (hRx 27 w) else mj M 134 k) (e135 : mi M1 135 = mi M 135) (e136 : mi M1 136 = mi M 136) (e137 : mi M1 137 = mi M 137) (e138 : ∀ k, k < 6 + dh D → mi M1 138 k = mi M 138 k) (f138 : mi M1 138 (6 + dh D) = nI kd) (e139 : ∀ k, k < 6 + dh D → mi M1 139 k = mi M 139 k) (f139 : mi M1 139 (6 + dh D) = nI (1000 + rNl (dlw D) (dh D))) (e140 : ∀ k, k < 6 + dh D → mi M1 140 k = mi M 140 k) (f140 : mi M1 140 (6 + dh D) = nI (1000 + rNl (dlw D) (dh D) + (rrc r).length)) (e141 : ∀ k, k < 1000 + rNl (dlw D) (dh D) → mi M1 141 k = mi M 141 k) (sg : SegIs M1 140 (1000 + rNl (dlw D) (dh D)) (rrc r)) (e20 : mi M1 130 20 = nI (1000 + rNl (dlw D) (dh D) + (rrc r).length)) : RcD M1 (dAddH D w kd r) := by
  obtain ⟨⟨a1, a2, a3, a4⟩, b, c, e⟩ := h
  have ew : ∀ k, k ≤ dh D → rNl (fun k => if k = dh D then r else dlw D k) k = rNl (dlw D) k := fun k hk => rNl_cong (fun j hj => if_neg (by omega))
  refine ⟨⟨?_, ?_, ?_, fun k hk => ?_⟩, ?_, fun k hk => ?_, ?_⟩
  · rw [e132, if_neg (by omega)]; exact a1
  · rw [e132, if_pos (by omega)]; rfl
  · rw [e133]; exact a3
  · show mj M1 134 (6 * 1 + k) = lJ (hRx 27 (if k = dh D then w else dhn D k))
    have hk : k < dh D + 1 := hk
    rw [e134]
    by_cases z : k = dh D
    · rw [if_pos (by omega), if_pos z]
    · rw [if_neg (by omega), if_neg z]; exact a4 k (by omega)
  · rw [e135, e136, e137]; exact b
  · show mi M1 138 (6 + k) = nI (if k = dh D then kd else dki D k) ∧ mi M1 139 (6 + k) = nI (1000 + rNl (fun k => if k = dh D then r else dlw D k) k) ∧ mi M1 140 (6 + k) = nI (1000 + rNl (fun k => if k = dh D then r else dlw D k) (k + 1)) ∧ SegIs M1 140 (1000 + rNl (fun k => if k = dh D then r else dlw D k) k) (rrc (if k = dh D then r else dlw D k))
    have hk : k < dh D + 1 := hk
    by_cases z : k = dh D
    · rw [rNl, ew k (by omega), if_pos z, if_pos z, z, ← Nat.add_assoc]
      exact ⟨f138, f139, f140, sg⟩
    · have ck := c k (by omega)
      rw [ew k (by omega), ew (k + 1) (by omega), if_neg z, if_neg z, e138 _ (by omega), e139 _ (by omega), e140 _ (by omega)]
      refine ⟨ck.1, ck.2.1, ck.2.2.1, ck.2.2.2.pres (fun j h1 h2 => e141 j ?_)⟩
      have := rNl_le (dlw D) (show k + 1 ≤ dh D by omega)
      rw [rNl] at this
      omega
  · show mi M1 130 20 = nI (1000 + rNl (fun k => if k = dh D then r else dlw D k) (dh D + 1))
    rw [rNl, ew (dh D) (Nat.le_refl _), if_pos rfl, ← Nat.add_assoc]
    exact e20
theorem RcD.wH {a : Nat} {v : Int32} (h : RcD M D) (ha : a = 138 ∨ a = 139) : RcD (wi M a (6 + dh D) v) D := by
  obtain ⟨⟨a1, a2, a3, a4⟩, b, c, e⟩ := h
  have F : Fr (inC a) M (wi M a (6 + dh D) v) := Fr.rf.wi rfl
  refine ⟨⟨by rw [F.i (by omega)]; exact a1, by rw [F.i (by omega)]; exact a2, a3, a4⟩, fun k hk => ?_, fun k hk => ?_, by rw [F.i (by omega)]; exact e⟩
  · rw [F.i (by omega), F.i (by omega), F.i (by omega)]; exact b k hk
  · have ck := c k hk
    refine ⟨?_, ?_, ?_, ck.2.2.2.to (F.i (by omega))⟩ <;> rw [wi_at, if_neg (by omega)]
    · exact ck.1
    · exact ck.2.1
    · exact ck.2.2.1
theorem RTo.rx {b0 : Nat} (h : RTo B M) (F : Fr inRx M M1) (hb : 1000 ≤ b0) (h1 : ∀ j, j < b0 → mi M1 141 j = mi M 141 j) (h2 : ∀ x, x ≠ 4 → x ≠ 5 → x ≠ 6 → x ≠ 8 → x ≠ 9 → x ≠ 20 → mi M1 130 x = mi M 130 x) : RTo B M1 := by
  obtain ⟨a1, a2, a3, a4, a5, a6⟩ := h
  refine ⟨?_, ?_, ?_, fun k hk => (h1 k (by omega)).trans (a4 k hk), a5.trans (F.mono (fun b hb => by omega)), fun x x4 x5 x6 x8 x9 x20 x33 => (h2 x x4 x5 x6 x8 x9 x20).trans (a6 x x4 x5 x6 x8 x9 x20 x33)⟩
  · rw [F.i (show ¬ inRx 132 by omega)]; exact a1
  · rw [F.j (show ¬ inRx 133 by omega), F.i (show ¬ inRx 135 by omega), F.i (show ¬ inRx 136 by omega), F.i (show ¬ inRx 137 by omega)]; exact a2
  · rw [F.j (show ¬ inRx 134 by omega), F.i (show ¬ inRx 138 by omega), F.i (show ¬ inRx 139 by omega), F.i (show ¬ inRx 140 by omega)]; exact a3
theorem kKd_4 {K : TK} : kKd K ≤ 4 := by unfold kKd; repeat (first | split | omega)
theorem tX12_readsHall (h : RcI la lb pa pb0 rl n t B M p D) (O : DOk D) (hE : rNl (dlw D) (dh D) ≤ p) (hd : 4 ≤ d) : R0 g YX12_readsHall d [.ref 130] M (SRr la lb pa pb0 rl n t B (pHall n t p D)) := by
  have d6 := O.2.1
  have e1 : (6 : Int32) + mi M 132 3 = nI (6 + dh D) := by rw [show (6 : Int32) = nI 6 from rfl, show mi M 132 3 = nI (dh D) from h.2.1.1.2.1, nI_add]
  have e12 : (6 : Int32) + mi M 132 3 = 12 ↔ dh D = 6 := by rw [e1, show (12 : Int32) = nI 12 from rfl, nI_eq (by omega) (by decide)]; omega
  have q1 := nxT_le (t := t) h.1.2.2.2
  have q2 := nxT_le (t := t) q1.2.1
  have q3 := nxT_le (t := t) q2.2.1
  have q4 := nxT_le (t := t) q3.2.1
  unfold pHall
  refine R0.of (by decide +kernel) (Nat.le_of_ble_eq_true rfl) rfl (qX12_readsHall_0 h.1.1 (fun r => ?_) (fun r => ?_)) <;> rw [e12] at r
  · have hlt : dh D < 6 := by omega
    have ec : (nI (6 + dh D)).toNatClampNeg = 6 + dh D := nI_clamp (by omega)
    have hv : vp_in (nI (6 + dh D)) 12 := vi (by omega) (by decide)
    rw [if_pos hlt, e1]
    refine K0.rn h (by omega) (fun M1 h1 _ => qX12_readsHall_26 h1.1.1 (K0.rq _ h1 (by omega) (tX12_needsNew h1.1 h1.2.1.1 O (by omega)) (fun _ L b => qX12_readsHall_30 L (fun z => absurd rfl z) (fun _ => b)) (fun z1 M2 h2 _ nm => ?_)))
    rw [chkS_0 z1]
    refine qX12_readsHall_30 h2.1.1 (fun _ => ?_) (fun z => absurd z (by decide))
    rw [nm]
    have w138 : ∀ v : Int32, mi (wi M2 138 (6 + dh D) v) 138 (nI (6 + dh D)).toNatClampNeg = v := fun v => by rw [ec, wi_at, if_pos ⟨rfl, rfl⟩]
    have hw : ∀ v : Int32, RcI la lb pa pb0 rl n t B (wi M2 138 (6 + dh D) v) (n2 n t p) D := fun v => by
      have F : Fr (inC 138) M2 (wi M2 138 (6 + dh D) v) := Fr.rf.wi rfl
      exact ⟨h2.1.fr F (by omega) (by omega), h2.2.1.wH (.inl rfl), h2.2.2.w (by omega) (by omega) (by omega) (by omega) (by omega)⟩
    have hA : ar M2 138 1 12 := h2.1.1.s (a := 138) rfl (by decide)
    -- the kind is known
    have kn : ∀ kd, kd < 4 → kKd (lexT n t (n2 n t p)) = kd → K0 g YX12_readsHall YX12_nextToken d 122 [.ref 130] [(0, .ref 130), (1, .int (nI (6 + dh D))), (2, .long (lJ (hRx 27 (kws (lexT n t (n1 n t p))))))] [] (wi M2 138 (6 + dh D) (nI kd)) (SRr la lb pa pb0 rl n t B (if kKd (lexT n t (n2 n t p)) < 4 then
      chkS n t (kwF (lexT n t (n3 n t p)) 5) (n3 n t p) (if rst (pEx n t (fuX n) 4 0 (n4 n t p) prOut) = 0 then
        chkS n t (smF (lexT n t (rpo (pEx n t (fuX n) 4 0 (n4 n t p) prOut)))) (rpo (pEx n t (fuX n) 4 0 (n4 n t p) prOut)) (sOkS (nxT n t (rpo (pEx n t (fuX n) 4 0 (n4 n t p) prOut))) (dAddH D (kws (lexT n t (n1 n t p))) (kKd (lexT n t (n2 n t p))) (pEx n t (fuX n) 4 0 (n4 n t p) prOut)))
      else sFlS (rfa (pEx n t (fuX n) 4 0 (n4 n t p) prOut)))
    else sFlS (fltC n t 1 (n2 n t p)))) := fun kd hk ek => by
      rw [ek, if_pos hk]
      refine K0.rn (hw (nI kd)) (by omega) (fun M3 h3 F3 => qX12_readsHall_122 h3.1.1 (K0.rq _ h3 (by omega) (tX12_needsWord (i := 5) h3.1 (by omega) (by decide +kernel) (by omega)) (fun _ L b => qX12_readsHall_129 L rfl (fun z => absurd rfl z) (fun z => absurd rfl z) (fun _ => b)) (fun z3 M4 h4 F4 _ => ?_)))
      rw [chkS_0 z3]
      have f138 : mi M4 138 (6 + dh D) = nI kd := by rw [F4.1.i (by omega), F3.1.i (by omega), wi_at, if_pos ⟨rfl, rfl⟩]
      have e20 := h4.2.1.2.2.2
      have F5 : Fr (inC 139) M4 (wi M4 139 (6 + dh D) (nI (1000 + rNl (dlw D) (dh D)))) := Fr.rf.wi rfl
      have h5 : RcI la lb pa pb0 rl n t B (wi M4 139 (6 + dh D) (nI (1000 + rNl (dlw D) (dh D)))) (n4 n t p) D := ⟨h4.1.fr F5 (by omega) (by omega), h4.2.1.wH (.inr rfl), h4.2.2.w (by omega) (by omega) (by omega) (by omega) (by omega)⟩
      have hX : RX la lb pa pb0 rl n t (1000 + rNl (dlw D) (dh D)) (wi M4 139 (6 + dh D) (nI (1000 + rNl (dlw D) (dh D)))) (wi M4 139 (6 + dh D) (nI (1000 + rNl (dlw D) (dh D)))) (n4 n t p) (n4 n t p) [] :=
        ⟨h5.1.1, h5.1.2.1, h5.1.2.2.1, h5.1.2.2.2, h5.2.1.2.2.2, Nat.add_le_add_left (Nat.le_trans hE (Nat.le_trans q1.1 (Nat.le_trans q2.1 (Nat.le_trans q3.1 q4.1)))) 1000, trivial, Fr.rf, fun _ _ => rfl, fun _ _ _ _ _ _ _ => rfl, fun _ _ => rfl⟩
      have hne : rst (pEx n t (fuX n) 4 0 (n4 n t p) prOut) ≠ 2 := pEx_fuel (fuX n) 4 0 (n4 n t p) prOut q4.2.1 (by omega) (by unfold fuX; omega)
      refine qX12_readsHall_129 (M1 := wi M4 139 (6 + dh D) (nI (1000 + rNl (dlw D) (dh D)))) h4.1.1 (by rw [ec, e20]) (fun _ => hv) (fun _ => K0.set (d1 := d - 1) (by omega) (tX12_reads (f := fuX n) hX (by omega) hne) ?_) (fun z => absurd z (by decide))
      generalize pEx n t (fuX n) 4 0 (n4 n t p) prOut = r
      rintro rv M6 (⟨r0, s0, rfl, X⟩ | ⟨r0, s0, rfl, X⟩ | ⟨r0, rfl, X⟩)
      · rw [if_pos r0, chkS_0 (by unfold smF; rw [if_pos s0])]
        obtain ⟨x1, x2, x3, x4, x5, x6, x7, x8, x9, x10, x11⟩ := X
        have F8 : Fr (fun b => b = 140 ∨ b = 134 ∨ b = 132) M6 (wi (wj (wi M6 140 (6 + dh D) (nI (1000 + rNl (dlw D) (dh D) + (rrc r).length))) 134 (6 + dh D) (lJ (hRx 27 (kws (lexT n t (n1 n t p)))))) 132 3 (nI (dh D + 1))) := ((Fr.rf.wi (.inl rfl)).wj (.inr (.inl rfl))).wi (.inr (.inr rfl))
        have e3 : mi M6 132 3 = nI (dh D) := by rw [x8.i (by omega)]; exact h5.2.1.1.2.1
        refine qX12_readsHall_148 (M1 := wi M6 140 (6 + dh D) (nI (1000 + rNl (dlw D) (dh D) + (rrc r).length))) (M2 := wj (wi M6 140 (6 + dh D) (nI (1000 + rNl (dlw D) (dh D) + (rrc r).length))) 134 (6 + dh D) (lJ (hRx 27 (kws (lexT n t (n1 n t p)))))) (M3 := wi (wj (wi M6 140 (6 + dh D) (nI (1000 + rNl (dlw D) (dh D) + (rrc r).length))) 134 (6 + dh D) (lJ (hRx 27 (kws (lexT n t (n1 n t p)))))) 132 3 (nI (dh D + 1))) x1 (by rw [ec, x5]) (by rw [ec]) (by rw [wi_at (a := 140), if_neg (by omega), e3, nI_1]) (fun _ => hv) (fun _ => hv) (fun _ => .inl ⟨rfl, rfl, ?_, ?_, ?_, ?_⟩) (fun z => absurd z (by decide))
        · exact TI.fr ⟨x1, x2, x3, x4⟩ F8 (by omega) (by omega)
        · refine h5.2.1.addH (fun k => ?_) ?_ (fun k => ?_) ?_ ?_ ?_ (fun k hk => ?_) ?_ (fun k hk => ?_) ?_ (fun k hk => ?_) ?_ (fun k hk => ?_) ?_ ?_
          · rw [wi_at]
            by_cases z : k = 3
            · rw [if_pos ⟨rfl, z⟩, if_pos z]
            · rw [if_neg (fun y => z y.2), if_neg z, mi_wj, wi_at, if_neg (by omega), x8.i (by omega)]
          · rw [F8.j (by omega), x8.j (by omega)]
          · rw [mj_wi, wj_at]
            by_cases z : k = 6 + dh D
            · rw [if_pos ⟨rfl, z⟩, if_pos z]
            · rw [if_neg (fun y => z y.2), if_neg z, mj_wi, x8.j (by omega)]
          · rw [F8.i (by omega), x8.i (by omega)]
          · rw [F8.i (by omega), x8.i (by omega)]
          · rw [F8.i (by omega), x8.i (by omega)]
          · rw [F8.i (by omega), x8.i (by omega)]
          · rw [F8.i (by omega), x8.i (by omega), F5.i (by omega)]; exact f138
          · rw [F8.i (by omega), x8.i (by omega)]
          · rw [F8.i (by omega), x8.i (by omega), wi_at, if_pos ⟨rfl, rfl⟩]
          · rw [wi_at, if_neg (by omega), mi_wj, wi_at, if_neg (by omega), x8.i (by omega)]
          · rw [wi_at, if_neg (by omega), mi_wj, wi_at, if_pos ⟨rfl, rfl⟩]
          · rw [F8.i (by omega)]; exact x9 k hk
          · exact x7.to (F8.i (by omega))
          · rw [F8.i (by omega)]; exact x5
        · exact (((h5.2.2.rx x8 (Nat.le_add_right _ _) x9 x10).w (by omega) (by omega) (by omega) (by omega) (by omega)).wl (.inr ⟨rfl, by omega⟩)).w (by omega) (by omega) (by omega) (by omega) (by omega)
        · show rNl (fun k => if k = dh D then r else dlw D k) (dh D + 1) ≤ nxT n t (rpo r)
          rw [rNl, rNl_cong (h := dlw D) (fun j hj => if_neg (by omega)), if_pos rfl]
          omega
      · rw [if_pos r0, chkS_n (by unfold smF; rw [if_neg s0]; decide)]
        have es : smF (lexT n t (rpo r)) = 1 := by unfold smF; rw [if_neg s0]
        rw [es]
        obtain ⟨x1, x2, x3, x4, x5⟩ := X
        exact qX12_readsHall_148 x5 rfl rfl rfl (fun z => absurd rfl z) (fun z => absurd rfl z) (fun z => absurd rfl z) (fun _ => SRr.bad x1 (h5.2.2.rx x2 (Nat.le_add_right _ _) x4 x3) x5)
      · rw [if_neg (by omega)]
        obtain ⟨x1, x2, x3, x4, x5⟩ := X
        exact qX12_readsHall_148 x5 rfl rfl rfl (fun z => absurd rfl z) (fun z => absurd rfl z) (fun z => absurd rfl z) (fun _ => SRr.bad x1 (h5.2.2.rx x2 (Nat.le_add_right _ _) x4 x3) x5)
    refine K0.wdT (i := 10) h2.1 (by omega) (by decide +kernel) (by omega) (qX12_readsHall_52 (M1 := wi M2 138 (6 + dh D) 0) h2.1.1 (by rw [ec]) hA (fun _ => hv) (fun _ => hv) (fun a => ?_) (fun a _ => ?_) (fun a z => absurd (by rw [w138]; decide) z))
    · have n10 : ¬ kW (lexT n t (n2 n t p)) 10 = true := by rw [b2i_z.mp a]; decide
      refine K0.wdT (i := 11) h2.1 (by omega) (by decide +kernel) (by omega) (qX12_readsHall_66 (M1 := wi M2 138 (6 + dh D) 1) h2.1.1 (by rw [ec]) hA (fun _ => hv) (fun _ => hv) (fun a => ?_) (fun a _ => ?_) (fun a z => absurd (by rw [w138]; decide) z))
      · have n11 : ¬ kW (lexT n t (n2 n t p)) 11 = true := by rw [b2i_z.mp a]; decide
        refine K0.wdT (i := 12) h2.1 (by omega) (by decide +kernel) (by omega) (qX12_readsHall_80 (M1 := wi M2 138 (6 + dh D) 2) h2.1.1 (by rw [ec]) hA (fun _ => hv) (fun _ => hv) (fun a => ?_) (fun a _ => ?_) (fun a z => absurd (by rw [w138]; decide) z))
        · have n12 : ¬ kW (lexT n t (n2 n t p)) 12 = true := by rw [b2i_z.mp a]; decide
          refine K0.wdT (i := 13) h2.1 (by omega) (by decide +kernel) (by omega) (qX12_readsHall_94 (M1 := wi M2 138 (6 + dh D) (-1)) (M2 := wi M2 138 (6 + dh D) 3) h2.1.1 (by rw [ec]) (by rw [ec]) hA (fun _ => hv) (fun _ => hv) (fun _ => hv) (fun _ => hv) (fun a z => ?_) (fun a _ => ?_) (fun a _ => ?_) (fun a z => absurd (by rw [w138]; decide) z))
          · rw [w138] at z; exact absurd z (by decide)
          · have n13 : ¬ kW (lexT n t (n2 n t p)) 13 = true := by rw [b2i_z.mp a]; decide
            have ek : kKd (lexT n t (n2 n t p)) = 4 := by unfold kKd; rw [if_neg n10, if_neg n11, if_neg n12, if_neg n13]
            rw [if_neg (by omega)]
            exact K0.rf (k := 1) (hw (-1)) (by omega) (fun M3 b => qX12_readsHall_117 (by decide) b)
          · exact kn 3 (by omega) (by unfold kKd; rw [if_neg n10, if_neg n11, if_neg n12, if_pos (b2i_n.mp a)])
        · exact kn 2 (by omega) (by unfold kKd; rw [if_neg n10, if_neg n11, if_pos (b2i_n.mp a)])
      · exact kn 1 (by omega) (by unfold kKd; rw [if_neg n10, if_pos (b2i_n.mp a)])
    · exact kn 0 (by omega) (by unfold kKd; rw [if_pos (b2i_n.mp a)])
  · rw [if_neg (show ¬ dh D < 6 by omega)]
    exact K0.rf (k := 5) h (by omega) (fun M2 b => qX12_readsHall_21 (by decide) b)
/-- from what was fed to the first token -/
theorem tX12_begins (L : Lay M la lb pa pb0 rl) (T : RTp M n t) (hd : 2 ≤ d) : R0 g YX12_begins d [.ref 130] M (fun rv M1 => rv = none ∧ TI la lb pa pb0 rl n t M1 0 ∧ Fr (inC 130) M M1 ∧ mi M1 130 1 = 0 ∧ (∀ x, x ≠ 1 → x ≠ 3 → x ≠ 4 → x ≠ 5 → x ≠ 6 → x ≠ 8 → mi M1 130 x = mi M 130 x) ∧ ∀ x, x ≠ 7 → mj M1 130 x = mj M 130 x) := by
  have F3 : Fr (inC 130) M (wi (wi (wi M 130 3 (nI n)) 130 1 0) 130 4 0) := Fr.wi (S := inC 130) (Fr.wi (S := inC 130) (Fr.wi (S := inC 130) Fr.rf rfl) rfl) rfl
  have e : ∀ x, mi (wi (wi (wi M 130 3 (nI n)) 130 1 0) 130 4 0) 130 x = if x = 4 then 0 else if x = 1 then 0 else if x = 3 then nI n else mi M 130 x := fun x => by
    rw [wi_at]
    by_cases z4 : x = 4
    · rw [if_pos ⟨rfl, z4⟩, if_pos z4]
    · rw [if_neg (fun y => z4 y.2), if_neg z4, wi_at]
      by_cases z1 : x = 1
      · rw [if_pos ⟨rfl, z1⟩, if_pos z1]
      · rw [if_neg (fun y => z1 y.2), if_neg z1, wi_at]
        by_cases z3 : x = 3
        · rw [if_pos ⟨rfl, z3⟩, if_pos z3]
        · rw [if_neg (fun y => z3 y.2), if_neg z3]
  refine R0.of (by decide +kernel) (Nat.le_of_ble_eq_true rfl) rfl (qX12_begins_0 (M1 := wi M 130 3 (nI n)) (M2 := wi (wi M 130 3 (nI n)) 130 1 0) (M3 := wi (wi (wi M 130 3 (nI n)) 130 1 0) 130 4 0) L (by rw [T.2.1]) rfl rfl ?_)
  have R3 : RRd (wi (wi (wi M 130 3 (nI n)) 130 1 0) 130 4 0) n t := ⟨T.1, by rw [e 3]; rfl, fun k hk => by rw [F3.i (by omega)]; exact T.2.2 k hk⟩
  refine K0.set (d1 := d - 1) (by omega) (tX12_nextToken (p := 0) (F3.lay L) R3 (by rw [e 4]; rfl) (Nat.zero_le _) (by omega)) ?_
  rintro rv M2 ⟨rfl, H2, F2⟩
  refine qX12_begins_22 ⟨rfl, ⟨F2.1.lay (F3.lay L), F2.rd R3, H2, Nat.zero_le _⟩, F3.trans F2.1, ?_, fun x x1 x3 x4 x5 x6 x8 => ?_, fun x x7 => F2.2.2 x x7⟩
  · rw [F2.2.1 1 (by omega) (by omega) (by omega) (by omega), e 1]; rfl
  · rw [F2.2.1 x x4 x5 x6 x8, e x, if_neg x4, if_neg x1, if_neg x3]
theorem all_loop (hd : 5 ≤ d) (r : SRs) : ∀ f p D M, n - p < f → RcI la lb pa pb0 rl n t B M p D → DOk D → eD D ≤ p → rNl (dlw D) (dh D) ≤ p → pCo n t f p D = r → E0 g YX12_readsAll d 25 [(0, .ref 130)] [] M (SRr la lb pa pb0 rl n t B r)
  | 0, p, D, M, hf, _, _, _, _, _ => by omega
  | f + 1, p, D, M, hf, h, O, hE, hN, hr => by
    have e0 := h.1.2.2.1.ty lexT_ty 0 0 rfl (by omega)
    rw [pCo] at hr
    refine qX12_readsAll_25 h.1.1 (fun z => ?_) (fun z => ?_) <;> rw [e0] at z
    · rw [if_pos z] at hr
      rw [← hr]
      exact .inl ⟨rfl, rfl, h.1, h.2.1, h.2.2, hN⟩
    · rw [if_neg z] at hr
      have gd := pStm_gd (t := t) h.1.2.2.2 O hE z
      have next : ∀ rv M2, SRr la lb pa pb0 rl n t B (pStm n t p D) rv M2 → E0 g YX12_readsAll d 88 [(0, .ref 130)] rv.toList M2 (SRr la lb pa pb0 rl n t B r) := fun rv M2 q => by
        rcases q with ⟨q1, rfl, q2, q3, q4, q5⟩ | ⟨q1, rfl, q2, q3, q4⟩
        · rw [if_pos q1] at hr
          rcases gd with ⟨g1, -⟩ | ⟨-, -, g2, g3, g4, g5⟩
          · omega
          · exact qX12_readsAll_88 (fun _ => all_loop hd r f _ _ M2 (by omega) ⟨q2, q3, q4⟩ g4 g5 q5 hr) (fun y => absurd y (by decide))
        · rw [if_neg (by omega)] at hr
          rw [← hr]
          exact qX12_readsAll_88 (fun y => absurd rfl y) (fun _ => .inr ⟨q1, rfl, q2, q3, q4⟩)
      refine K0.wdT (i := 0) h.1 (by omega) (by decide +kernel) (by omega) (qX12_readsAll_39 h.1.1 (fun a => ?_) (fun a => ?_))
      · have n0 : ¬ kW (lexT n t p) 0 = true := by rw [b2i_z.mp a]; decide
        refine K0.wdT (i := 3) h.1 (by omega) (by decide +kernel) (by omega) (qX12_readsAll_56 h.1.1 (fun a => ?_) (fun a => ?_))
        · have n3' : ¬ kW (lexT n t p) 3 = true := by rw [b2i_z.mp a]; decide
          refine K0.wdT (i := 4) h.1 (by omega) (by decide +kernel) (by omega) (qX12_readsAll_73 h.1.1 (fun a => ?_) (fun a => ?_))
          · have n4' : ¬ kW (lexT n t p) 4 = true := by rw [b2i_z.mp a]; decide
            have e : pStm n t p D = sFlS (fltC n t 1 p) := by unfold pStm; rw [if_neg n0, if_neg n3', if_neg n4']
            exact K0.rf (k := 1) h (by omega) (fun M2 b => next (some (.int 0)) M2 (by rw [e]; exact b))
          · have e : pStm n t p D = pHall n t p D := by unfold pStm; rw [if_neg n0, if_neg n3', if_pos (b2i_n.mp a)]
            refine K0.set (d1 := d - 1) (by omega) (tX12_readsHall h O hN (by omega)) (fun rv M2 q => ?_)
            rw [← e] at q
            rcases q with ⟨q1, rfl, q2⟩ | ⟨q1, rfl, q2⟩
            · exact qX12_readsAll_80 (next _ M2 (.inl ⟨q1, rfl, q2⟩))
            · exact qX12_readsAll_80 (next _ M2 (.inr ⟨q1, rfl, q2⟩))
        · have e : pStm n t p D = pNeeds n t p D := by unfold pStm; rw [if_neg n0, if_pos (b2i_n.mp a)]
          refine K0.set (d1 := d - 1) (by omega) (tX12_readsNeeds h O hN (by omega)) (fun rv M2 q => ?_)
          rw [← e] at q
          rcases q with ⟨q1, rfl, q2⟩ | ⟨q1, rfl, q2⟩
          · exact qX12_readsAll_63 (next _ M2 (.inl ⟨q1, rfl, q2⟩))
          · exact qX12_readsAll_63 (next _ M2 (.inr ⟨q1, rfl, q2⟩))
      · have e : pStm n t p D = pShot n t p D := by unfold pStm; rw [if_pos (b2i_n.mp a)]
        refine K0.set (d1 := d - 1) (by omega) (tX12_readsShot h O hN (by omega)) (fun rv M2 q => ?_)
        rw [← e] at q
        rcases q with ⟨q1, rfl, q2⟩ | ⟨q1, rfl, q2⟩
        · exact qX12_readsAll_46 (next _ M2 (.inl ⟨q1, rfl, q2⟩))
        · exact qX12_readsAll_46 (next _ M2 (.inr ⟨q1, rfl, q2⟩))
/-- told is kept; nothing but what reading uses has changed -/
def RTm (M M2 : MM) : Prop := (∀ k, k < 2 → mi M2 132 k = mi M 132 k) ∧ (∀ k, k < 10 → mj M2 133 k = mj M 133 k ∧ mi M2 135 k = mi M 135 k ∧ mi M2 136 k = mi M 136 k ∧ mi M2 137 k = mi M 137 k) ∧ (∀ k, k < 6 → mj M2 134 k = mj M 134 k ∧ mi M2 138 k = mi M 138 k ∧ mi M2 139 k = mi M 139 k ∧ mi M2 140 k = mi M 140 k) ∧ (∀ k, k < 1000 → mi M2 141 k = mi M 141 k) ∧ Fr inRc M M2 ∧ mi M2 130 1 = 0 ∧ ∀ x, x ≠ 1 → x ≠ 3 → x ≠ 4 → x ≠ 5 → x ≠ 6 → x ≠ 8 → x ≠ 9 → x ≠ 20 → x ≠ 33 → mi M2 130 x = mi M 130 x
theorem tX12_readsAll (L : Lay M la lb pa pb0 rl) (T : RTp M n t) (hd : 5 ≤ d) : R0 g YX12_readsAll d [.ref 130] M (fun rv M2 => Lay M2 la lb pa pb0 rl ∧ RTm M M2 ∧ (((ctyT n t).1 = 0 ∧ rv = some (.int 1) ∧ RcD M2 (ctyT n t).2.2.2 ∧ rNl (dlw (ctyT n t).2.2.2) (dh (ctyT n t).2.2.2) ≤ 1000) ∨ ((ctyT n t).1 = 1 ∧ rv = some (.int 0) ∧ mi M2 130 9 = (ctyT n t).2.1))) := by
  have F3 : Fr (fun b => b = 130 ∨ b = 132) M (wi (wi (wi M 132 2 0) 132 3 0) 130 20 1000) := ((Fr.rf.wi (.inr rfl)).wi (.inr rfl)).wi (.inl rfl)
  have e132 : ∀ k, mi (wi (wi (wi M 132 2 0) 132 3 0) 130 20 1000) 132 k = if k = 2 ∨ k = 3 then 0 else mi M 132 k := fun k => by
    rw [wi_at, if_neg (by omega), wi_at]
    by_cases z3 : k = 3
    · rw [if_pos ⟨rfl, z3⟩, if_pos (.inr z3)]
    · rw [if_neg (fun y => z3 y.2), wi_at]
      by_cases z2 : k = 2
      · rw [if_pos ⟨rfl, z2⟩, if_pos (.inl z2)]
      · rw [if_neg (fun y => z2 y.2), if_neg (by omega)]
  have e130 : ∀ x, x ≠ 20 → mi (wi (wi (wi M 132 2 0) 132 3 0) 130 20 1000) 130 x = mi M 130 x := fun x hx => by rw [wi_at, if_neg (fun y => hx y.2), wi_at, if_neg (by omega), wi_at, if_neg (by omega)]
  have T3 : RTp (wi (wi (wi M 132 2 0) 132 3 0) 130 20 1000) n t := ⟨T.1, by rw [e130 1 (by omega)]; exact T.2.1, fun k hk => by rw [F3.i (by omega)]; exact T.2.2 k hk⟩
  refine R0.of (by decide +kernel) (Nat.le_of_ble_eq_true rfl) rfl (qX12_readsAll_0 (M1 := wi M 132 2 0) (M2 := wi (wi M 132 2 0) 132 3 0) (M3 := wi (wi (wi M 132 2 0) 132 3 0) 130 20 1000) L rfl rfl rfl (K0.set (d1 := d - 1) (by omega) (tX12_begins (F3.lay L) T3 (by omega)) ?_))
  rintro rv M4 ⟨rfl, I4, F4, b1, b2, -⟩
  have hn := T.1
  have O := dEmp_ok
  have hD : RcD M4 dEmp := by
    refine ⟨⟨?_, ?_, fun k hk => absurd hk (Nat.not_lt_zero _), fun k hk => absurd hk (Nat.not_lt_zero _)⟩, fun k hk => absurd hk (Nat.not_lt_zero _), fun k hk => absurd hk (Nat.not_lt_zero _), ?_⟩
    · rw [F4.i (by omega), e132, if_pos (.inl rfl)]; rfl
    · rw [F4.i (by omega), e132, if_pos (.inr rfl)]; rfl
    · rw [b2 20 (by omega) (by omega) (by omega) (by omega) (by omega) (by omega), wi_at, if_pos ⟨rfl, rfl⟩]; rfl
  have conv : ∀ M2, RTo M4 M2 → Lay M2 la lb pa pb0 rl ∧ RTm M M2 := fun M2 q => by
    obtain ⟨a1, a2, a3, a4, a5, a6⟩ := q
    have G : Fr inRc M M2 := (F3.mono (fun b hb => by omega)).trans ((F4.mono (fun b hb => .inl hb)).trans a5)
    refine ⟨G.lay L, fun k hk => ?_, fun k hk => ?_, fun k hk => ?_, fun k hk => ?_, G, ?_, fun x x1 x3 x4 x5 x6 x8 x9 x20 x33 => ?_⟩
    · rw [a1 k hk, F4.i (by omega), e132, if_neg (by omega)]
    · have q := a2 k hk
      rw [F4.j (by omega), F4.i (by omega), F4.i (by omega), F4.i (by omega), F3.j (by omega), F3.i (by omega), F3.i (by omega), F3.i (by omega)] at q
      exact q
    · have q := a3 k hk
      rw [F4.j (by omega), F4.i (by omega), F4.i (by omega), F4.i (by omega), F3.j (by omega), F3.i (by omega), F3.i (by omega), F3.i (by omega)] at q
      exact q
    · rw [a4 k hk, F4.i (by omega), F3.i (by omega)]
    · rw [a6 1 (by omega) (by omega) (by omega) (by omega) (by omega) (by omega) (by omega)]; exact b1
    · rw [a6 x x4 x5 x6 x8 x9 x20 x33, b2 x x1 x3 x4 x5 x6 x8, e130 x x20]
  refine EX.to (all_loop (g := g) hd (ctyT n t) (n + 1) 0 dEmp M4 (by omega) ⟨I4, hD, RTo.rf⟩ O (Nat.le_refl _) (Nat.le_refl _) rfl) ?_
  rintro rv M2 (⟨q1, q2, q3, q4, q5, q6⟩ | ⟨q1, q2, q3, q4, -⟩)
  · exact ⟨(conv M2 q5).1, (conv M2 q5).2, .inl ⟨q1, q2, q4, Nat.le_trans q6 (Nat.le_trans q3.2.2.2 hn)⟩⟩
  · exact ⟨(conv M2 q4).1, (conv M2 q4).2, .inr ⟨q1, q2, q3⟩⟩
end RH
