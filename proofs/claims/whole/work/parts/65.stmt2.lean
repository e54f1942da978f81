/-! ===== a county, read by the class ===== -/
theorem eNl_cong {f h : Nat → PRs} : ∀ {k}, (∀ j, j < k → f j = h j) → eNl f k = eNl h k
  | 0, _ => rfl
  | k + 1, q => by rw [eNl, eNl, eNl_cong (k := k) (fun j hj => q j (by omega)), q k (by omega)]
theorem eNl_le (f : Nat → PRs) {a b : Nat} (h : a ≤ b) : eNl f a ≤ eNl f b := by
  induction b with
  | zero => have : a = 0 := by omega
            rw [this]; exact Nat.le_refl _
  | succ b ih =>
    by_cases e : a = b + 1
    · rw [e]; exact Nat.le_refl _
    · have := ih (by omega)
      rw [eNl]; omega
theorem chkS_0 {n : Nat} {t : Nat → Nat} {fk p : Nat} {k : SRs} (h : fk = 0) : chkS n t fk p k = k := if_pos h
theorem chkS_n {n : Nat} {t : Nat → Nat} {fk p : Nat} {k : SRs} (h : fk ≠ 0) : chkS n t fk p k = sFlS (fltC n t fk p) := if_neg h
theorem chkS_ok {n : Nat} {t : Nat → Nat} {fk p : Nat} {k : SRs} (h : (chkS n t fk p k).1 = 0) : fk = 0 ∧ chkS n t fk p k = k := by
  by_cases q : fk = 0
  · exact ⟨q, chkS_0 q⟩
  · rw [chkS_n q] at h; exact absurd (show (1 : Nat) = 0 from h) (by decide)
theorem newF_0 {D : DTs} {K : TK} (h : newF D K = 0) : kNm K = true ∧ nmL (dsn D) (kws K) (dn D) 0 = -1 ∧ nmL (dhn D) (kws K) (dh D) 0 = -1 := by
  unfold newF at h
  by_cases q : kNm K = true
  · rw [if_pos q] at h
    by_cases q2 : nmL (dsn D) (kws K) (dn D) 0 = -1 ∧ nmL (dhn D) (kws K) (dh D) 0 = -1
    · exact ⟨q, q2⟩
    · rw [if_neg q2] at h; omega
  · rw [if_neg q] at h; omega
theorem nuF_0 {K : TK} {lo hi : Nat} (h : nuF K lo hi = 0) : kty K = 2 ∧ lo ≤ knu K ∧ knu K ≤ hi := by
  unfold nuF at h
  by_cases q : kty K = 2
  · rw [if_pos q] at h
    by_cases q2 : lo ≤ knu K ∧ knu K ≤ hi
    · exact ⟨q, q2⟩
    · rw [if_neg q2] at h; omega
  · rw [if_neg q] at h; omega
theorem kwF_0 {K : TK} {i : Nat} (h : kwF K i = 0) : kW K i = true := by
  unfold kwF at h
  by_cases q : kW K i = true
  · exact q
  · rw [if_neg q] at h; omega
theorem smF_0 {K : TK} (h : smF K = 0) : kIs K 59 = true := by
  unfold smF at h
  by_cases q : kIs K 59 = true
  · exact q
  · rw [if_neg q] at h; omega
theorem toF_0 {K : TK} {ix : Int32} (h : toF K ix = 0) : kNm K = true ∧ ix ≠ -1 := by
  unfold toF at h
  by_cases q : kNm K = true
  · rw [if_pos q] at h
    by_cases q2 : ix = -1
    · rw [if_pos q2] at h; omega
    · exact ⟨q, q2⟩
  · rw [if_neg q] at h; omega
section STM2
variable {g : GG} {d : Nat} {M M1 M2 : MM} {la lb pa pb0 rl n p : Nat} {t : Nat → Nat} {D : DTs} {x : List Int32}
theorem SRes.bad {c : Int32} (q1 : mi M2 28 2 = c) (q2 : Fr (inW rl) M M2) (q3 : Lay M2 la lb pa pb0 rl) : SRes la lb pa pb0 rl n t M (sFlS c) (some (.int 0)) M2 := .inr ⟨rfl, rfl, q1, q2, q3⟩
theorem tX0_addShot {a : Nat} {j : Int64} {s l : Int32} (C : Cty M a) (hn : mi M a 0 = nI n) (h : n < 10) : R0 g YX0_addShot d [.ref a, .long j, .int s, .int l] M (fun rv M1 => rv = none ∧ mi M1 a 0 = nI (n + 1) ∧ (∀ k, k ≠ 0 → mi M1 a k = mi M a k) ∧ (∀ k, mj M1 (a + 1) k = if k = n then j else mj M (a + 1) k) ∧ (∀ k, mi M1 (a + 2) k = if k = n then s else mi M (a + 2) k) ∧ (∀ k, mi M1 (a + 3) k = if k = n then l else mi M (a + 3) k) ∧ (∀ k, mi M1 (a + 4) k = if k = n then 0 else mi M (a + 4) k) ∧ Fr (fun b => a ≤ b ∧ b ≤ a + 4) M M1) := by
  have hlt : ¬ (10 : Int32) ≤ mi M a 0 := by rw [hn]; exact ngl 10 rfl (by decide) h
  have hv : vp_in (nI n) 10 := vi h (by decide)
  have e2 : mi (wi (wj M (a + 1) n j) (a + 2) n s) a 0 = nI n := by rw [wi_at, if_neg (by omega), wj_i, hn]
  have e3 : mi (wi (wi (wj M (a + 1) n j) (a + 2) n s) (a + 3) n l) a 0 = nI n := by rw [wi_at, if_neg (by omega), e2]
  have e4 : mi (wi (wi (wi (wj M (a + 1) n j) (a + 2) n s) (a + 3) n l) (a + 4) n 0) a 0 = nI n := by rw [wi_at, if_neg (by omega), e3]
  refine R0.of (by decide +kernel) (Nat.le_of_ble_eq_true rfl) rfl (qX0_addShot_0 (M1 := wj M (a + 1) n j) (M2 := wi (wj M (a + 1) n j) (a + 2) n s) (M3 := wi (wi (wj M (a + 1) n j) (a + 2) n s) (a + 3) n l) (M4 := wi (wi (wi (wj M (a + 1) n j) (a + 2) n s) (a + 3) n l) (a + 4) n 0) (M5 := wi (wi (wi (wi (wj M (a + 1) n j) (a + 2) n s) (a + 3) n l) (a + 4) n 0) a 0 (nI (n + 1))) C (by rw [hn, nI_clamp (by omega)]) (by rw [hn, nI_clamp (by omega)]) (by rw [e2, nI_clamp (by omega)]) (by rw [e3, nI_clamp (by omega)]) (by rw [e4, nI_1]) (fun _ => by rw [hn]; exact hv) (fun _ => by rw [hn]; exact hv) (fun _ => by rw [e2]; exact hv) (fun _ => by rw [e3]; exact hv) (fun r => absurd r hlt) (fun _ => ?_))
  refine ⟨rfl, by rw [wi_at, if_pos ⟨rfl, rfl⟩], fun k hk => ?_, fun k => ?_, fun k => ?_, fun k => ?_, fun k => ?_, ?_⟩
  · rw [wi_at, if_neg (fun z => hk z.2), wi_at, if_neg (by omega), wi_at, if_neg (by omega), wi_at, if_neg (by omega), wj_i]
  · show mj (wj M (a + 1) n j) (a + 1) k = _
    rw [wj_at]
    by_cases e : k = n
    · rw [if_pos ⟨rfl, e⟩, if_pos e]
    · rw [if_neg (fun z => e z.2), if_neg e]
  · rw [wi_at, if_neg (by omega), wi_at, if_neg (by omega), wi_at, if_neg (by omega), wi_at]
    by_cases e : k = n
    · rw [if_pos ⟨rfl, e⟩, if_pos e]
    · rw [if_neg (fun z => e z.2), if_neg e, wj_i]
  · rw [wi_at, if_neg (by omega), wi_at, if_neg (by omega), wi_at]
    by_cases e : k = n
    · rw [if_pos ⟨rfl, e⟩, if_pos e]
    · rw [if_neg (fun z => e z.2), if_neg e, wi_at, if_neg (by omega), wj_i]
  · rw [wi_at, if_neg (by omega), wi_at]
    by_cases e : k = n
    · rw [if_pos ⟨rfl, e⟩, if_pos e]
    · rw [if_neg (fun z => e z.2), if_neg e, wi_at, if_neg (by omega), wi_at, if_neg (by omega), wj_i]
  · exact ((((Fr.rf.wj (by omega)).wi (by omega)).wi (by omega)).wi (by omega)).wi (by omega)
/-- from a changed draft on -/
theorem SWq.mk {D2 : DTs} (h : SW la lb pa pb0 rl n t M M1 p D x) {S : Nat → Prop} (F : Fr S M1 M2) (hS : ∀ b, S b → rl ≤ b ∧ b ≤ rl + 9) (hm : mi M2 (rl + 7) 1 = nI (eD D2)) (hD : DrIs M2 rl D2) : SW la lb pa pb0 rl n t M M2 p D2 [] := by
  have hrl := h.r
  obtain ⟨⟨L, W, T, K, hp, -⟩, -, -, a4, a5⟩ := h
  have no : ∀ b, (b = 25 ∨ b = 26 ∨ b = 27 ∨ b = 28) → ¬ S b := fun b hb hs => by have := hS b hs; omega
  exact ⟨⟨F.lay L, fun i hi => by rw [F.j (no 26 (by omega))]; exact W i hi, T.fr F (no 25 (by omega)) (no 27 (by omega)), K.fr F (no 25 (by omega)), hp, hm⟩, hD, trivial, a4.trans (F.mono (fun b hb => .inr (.inr (hS b hb)))), by rw [F.i (no 28 (by omega))]; exact a5⟩
theorem tX7_readShot (h : SW la lb pa pb0 rl n t M M p D []) (O : DOk D) (hd : 4 ≤ d) : R0 g YX7_readShot d [.ref 28] M (SRes la lb pa pb0 rl n t M (pShot n t p D)) := by
  have hrl := h.r
  have e10 : mi M rl 0 < 10 ↔ dn D < 10 := by rw [h.2.1.1]; exact ltl 10 rfl (by decide) (by have := O.1; omega)
  unfold pShot
  refine R0.of (by decide +kernel) (Nat.le_of_ble_eq_true rfl) rfl (qX7_readShot_0 h.L (fun r => ?_) (fun r => ?_)) <;> rw [e10] at r
  · rw [if_pos r]
    refine K0.advS h (by omega) (fun M2 h2 => qX7_readShot_25 h2.L (K0.tk (by omega) (tX7_takeNewName h2 O (by omega)) (fun f1 M3 h3 => ?_) (fun f1 M3 q1 q2 q3 => ?_)))
    · rw [chkS_0 f1]
      obtain ⟨w1, w2⟩ := kNm_w (newF_0 f1).1
      have ej : mj M2 25 6 = lJ (hRx 32 (kws (lexT n t (nxT n t p)))) := h2.K.2.2.2.2.1 w1
      rw [ej]
      refine qX7_readShot_37 h3.L (fun z => absurd z (by decide)) (fun _ => K0.tk (by omega) (tX7_takeKeyword (i := 1) h3 (by omega) (by omega)) (fun f2 M4 h4 => ?_) (fun f2 M4 q1 q2 q3 => ?_))
      · rw [chkS_0 f2]
        refine qX7_readShot_45 h4.L (fun _ => K0.tk (by omega) (tX7_takeNumber (lo := 0) (hi := 9) h4 (by omega) (by omega) (by omega)) (fun f3 M5 h5 => ?_) (fun f3 M5 q1 q2 q3 => ?_)) (fun z => absurd z (by decide))
        · rw [chkS_0 f3]
          have e3 : mi M4 25 8 = nI (knu (lexT n t (n3 n t p))) := h4.K.2.2.2.2.2.1 (nuF_0 f3).1
          rw [e3]
          refine qX7_readShot_65 h5.L (fun z => absurd z (by decide)) (fun _ => K0.tk (by omega) (tX7_takeKeyword (i := 2) h5 (by omega) (by omega)) (fun f4 M6 h6 => ?_) (fun f4 M6 q1 q2 q3 => ?_))
          · rw [chkS_0 f4]
            refine qX7_readShot_73 h6.L (fun _ => K0.tk (by omega) (tX7_takeNumber (lo := 1) (hi := 60) h6 (by omega) (by omega) (by omega)) (fun f5 M7 h7 => ?_) (fun f5 M7 q1 q2 q3 => ?_)) (fun z => absurd z (by decide))
            · rw [chkS_0 f5]
              have e5 : mi M6 25 8 = nI (knu (lexT n t (n5 n t p))) := h6.K.2.2.2.2.2.1 (nuF_0 f5).1
              rw [e5]
              refine qX7_readShot_94 h7.L (fun z => absurd z (by decide)) (fun _ => K0.tk (by omega) (tX7_takeSemicolon h7 (by omega)) (fun f6 M8 h8 => ?_) (fun f6 M8 q1 q2 q3 => ?_))
              · rw [chkS_0 f6]
                refine qX7_readShot_101 h8.L (fun _ => K0.set (d1 := d - 1) (by omega) (tX0_addShot h8.L.crl h8.2.1.1 r) ?_) (fun z => absurd z (by decide))
                rintro rv M9 ⟨rfl, b1, b2, b3, b4, b5, b6, F9⟩
                obtain ⟨d1, d2, d3, d4⟩ := h8.2.1
                refine qX7_readShot_117 (.inl ⟨rfl, rfl, h8.mk F9 (fun b hb => by omega) (by rw [F9.i (by omega)]; exact h8.1.2.2.2.2.2) ⟨b1, by rw [b2 5 (by omega)]; exact d2, fun k hk => ?_, fun k hk => ?_⟩⟩)
                · have hk : k < dn D + 1 := hk
                  rw [b3, b4, b5, b6]
                  show (if k = dn D then lJ (hRx 32 (kws (lexT n t (nxT n t p)))) else mj M8 (rl + 1) k) = lJ (hRx 32 (if k = dn D then kws (lexT n t (n1 n t p)) else dsn D k)) ∧ (if k = dn D then nI (knu (lexT n t (n3 n t p))) else mi M8 (rl + 2) k) = nI (if k = dn D then knu (lexT n t (n3 n t p)) else dso D k) ∧ (if k = dn D then nI (knu (lexT n t (n5 n t p))) else mi M8 (rl + 3) k) = nI (if k = dn D then knu (lexT n t (n5 n t p)) else dle D k) ∧ (if k = dn D then 0 else mi M8 (rl + 4) k) = (if k = dn D then 0 else dnd D k)
                  by_cases e : k = dn D
                  · simp only [if_pos e]; exact ⟨trivial, trivial, trivial, trivial⟩
                  · simp only [if_neg e]; exact d3 k (by omega)
                · rw [F9.j (show ¬ (rl ≤ rl + 5 ∧ rl + 5 ≤ rl + 4) by omega), F9.i (show ¬ (rl ≤ rl + 6 ∧ rl + 6 ≤ rl + 4) by omega), F9.i (show ¬ (rl ≤ rl + 7 + 2 ∧ rl + 7 + 2 ≤ rl + 4) by omega)]
                  obtain ⟨g1, g2, g3, g4⟩ := d4 k hk
                  exact ⟨g1, g2, g3, g4.to (F9.i (by omega))⟩
              · rw [chkS_n f6]; exact qX7_readShot_101 q3 (fun z => absurd rfl z) (fun _ => SRes.bad q1 q2 q3)
            · rw [chkS_n f5]; exact qX7_readShot_94 q3 (fun _ => SRes.bad q1 q2 q3) (fun z => absurd rfl z)
          · rw [chkS_n f4]; exact qX7_readShot_73 q3 (fun z => absurd rfl z) (fun _ => SRes.bad q1 q2 q3)
        · rw [chkS_n f3]; exact qX7_readShot_65 q3 (fun _ => SRes.bad q1 q2 q3) (fun z => absurd rfl z)
      · rw [chkS_n f2]; exact qX7_readShot_45 q3 (fun z => absurd rfl z) (fun _ => SRes.bad q1 q2 q3)
    · rw [chkS_n f1]; exact qX7_readShot_37 q3 (fun _ => SRes.bad q1 q2 q3) (fun z => absurd rfl z)
  · rw [if_neg r]
    exact K0.failS (k := 5) h (by omega) (fun M3 q1 q2 q3 => qX7_readShot_17 (by decide) (SRes.bad q1 q2 q3))
theorem sIx_of (O : DOk D) (h : sIx n t D p ≠ -1) : ∃ k, k < dn D ∧ sIx n t D p = nI k := by
  rcases nmL_of (dsn D) (kws (lexT n t p)) (dn D) 0 with q | ⟨k, -, k2, -, k4⟩
  · exact absurd q h
  · exact ⟨k, by omega, k4⟩
theorem hIx_of (O : DOk D) (h : hIx n t D p ≠ -1) : ∃ k, k < dh D ∧ hIx n t D p = nI k := by
  rcases nmL_of (dhn D) (kws (lexT n t p)) (dh D) 0 with q | ⟨k, -, k2, -, k4⟩
  · exact absurd q h
  · exact ⟨k, by omega, k4⟩
theorem tX7_readNeeds (h : SW la lb pa pb0 rl n t M M p D []) (O : DOk D) (hd : 4 ≤ d) : R0 g YX7_readNeeds d [.ref 28] M (SRes la lb pa pb0 rl n t M (pNeeds n t p D)) := by
  have hrl := h.r
  have h10 := O.1
  unfold pNeeds
  refine R0.of (by decide +kernel) (Nat.le_of_ble_eq_true rfl) rfl (qX7_readNeeds_0 h.L (K0.advS h (by omega) (fun M2 h2 => qX7_readNeeds_7 h2.L (K0.ans (d1 := d - 1) (by omega) (tX0_shotNamed h2.L.crl h2.2.1.1 O.1) ?_))))
  have e1 : toF (lexT n t (n1 n t p)) (sNm (mj M2 (rl + 1)) (mj M2 25 6) (dn D) 0) = toF (lexT n t (n1 n t p)) (sIx n t D (n1 n t p)) := by
    by_cases q : kNm (lexT n t (n1 n t p)) = true
    · rw [h2.shotNm O q]
    · unfold toF; rw [if_neg q, if_neg q]
  refine qX7_readNeeds_21 h2.L (K0.tk (by omega) (tX7_takeTold h2 (by omega)) (fun f1 M3 h3 => ?_) (fun f1 M3 q1 q2 q3 => ?_))
  · rw [e1] at f1
    rw [chkS_0 f1]
    obtain ⟨m1, m2⟩ := toF_0 f1
    rw [h2.shotNm O m1]
    obtain ⟨a, a1, a2⟩ := sIx_of O m2
    rw [a2]
    refine qX7_readNeeds_27 h3.L (fun _ => K0.ans (d1 := d - 1) (by omega) (tX0_shotNamed h3.L.crl h3.2.1.1 O.1) (qX7_readNeeds_46 h3.L (K0.ans (d1 := d - 1) (by omega) (tX7_isName h3.L h3.K lexT_ty) ?_))) (fun z => absurd z (by decide))
    have take : ∀ ix : Int32, toF (lexT n t (n2 n t p)) ix = toF (lexT n t (n2 n t p)) (sIx n t D (n2 n t p)) → (toF (lexT n t (n2 n t p)) (sIx n t D (n2 n t p)) = 0 → ix = sIx n t D (n2 n t p) ∧ ¬ (sIx n t D (n2 n t p) = nI a ∨ bt (dnd D (nI a).toNatClampNeg) (sIx n t D (n2 n t p)).toNatClampNeg = true)) → K0 g YX7_readNeeds YX7_takeTold d 82 [.ref 28, .int ix] [(0, .ref 28), (1, .int (nI a)), (2, .int ix)] [] M3 (SRes la lb pa pb0 rl n t M (chkS n t (toF (lexT n t (n2 n t p)) (sIx n t D (n2 n t p))) (n2 n t p) (if sIx n t D (n2 n t p) = nI a ∨ bt (dnd D (nI a).toNatClampNeg) (sIx n t D (n2 n t p)).toNatClampNeg = true then sFlS (fltC n t 3 (n2 n t p)) else chkS n t (smF (lexT n t (n3 n t p))) (n3 n t p) (sOkS (n4 n t p) (dAddN D (nI a).toNatClampNeg (sIx n t D (n2 n t p)).toNatClampNeg))))) := fun ix e hx => by
      refine K0.tk (by omega) (tX7_takeTold h3 (by omega)) (fun f2 M4 h4 => ?_) (fun f2 M4 q1 q2 q3 => ?_)
      · rw [e] at f2
        obtain ⟨rfl, hno⟩ := hx f2
        obtain ⟨b, b1, b2⟩ := sIx_of O (toF_0 f2).2
        rw [chkS_0 f2, if_neg hno, b2]
        refine qX7_readNeeds_82 h4.L (fun z => absurd z (by decide)) (fun _ => K0.tk (by omega) (tX7_takeSemicolon h4 (by omega)) (fun f3 M5 h5 => ?_) (fun f3 M5 q1 q2 q3 => ?_))
        · rw [chkS_0 f3]
          refine qX7_readNeeds_89 h5.L (fun _ => ⟨d - 1, (fun rv M6 => rv = none ∧ M6 = wi M5 (rl + 4) a (dnd D a ||| ((1 : Int32) <<< (nI b &&& 31)))), by omega, ?_, ?_⟩) (fun z => absurd z (by decide))
          · refine R0.of (by decide +kernel) (Nat.le_of_ble_eq_true rfl) rfl (qX0_addNeed_0 h5.L.crl (K0.ans (d1 := d - 1 - 1) (by omega) (tX0_isShot h5.L.crl) ?_))
            rw [h5.2.1.1, sIn_nI (by omega) (by omega), decide_eq_true a1]
            refine qX0_addNeed_5 h5.L.crl rfl (fun _ => vi (by omega) (by decide)) (fun z => absurd z (by decide)) (fun _ => ⟨rfl, ?_⟩)
            rw [nI_clamp (by omega), (h5.2.1.2.2.1 a a1).2.2.2]
          · rintro rv M6 ⟨rfl, rfl⟩
            have F6 : Fr (fun b => b = rl + 4) M5 (wi M5 (rl + 4) a (dnd D a ||| ((1 : Int32) <<< (nI b &&& 31)))) := Fr.rf.wi rfl
            obtain ⟨d1, d2, d3, d4⟩ := h5.2.1
            refine qX7_readNeeds_103 (.inl ⟨rfl, rfl, h5.mk F6 (fun b hb => by omega) (by rw [F6.i (by omega)]; exact h5.1.2.2.2.2.2) ⟨by rw [F6.i (by omega)]; exact d1, by rw [F6.i (by omega)]; exact d2, fun k hk => ?_, fun k hk => ?_⟩⟩)
            · obtain ⟨g1, g2, g3, g4⟩ := d3 k hk
              rw [F6.j (by omega), F6.i (show ¬ rl + 2 = rl + 4 by omega), F6.i (show ¬ rl + 3 = rl + 4 by omega), wi_at]
              refine ⟨g1, g2, g3, ?_⟩
              show _ = (if k = (nI a).toNatClampNeg then dnd D k ||| ((1 : Int32) <<< (nI (nI b).toNatClampNeg &&& 31)) else dnd D k)
              rw [nI_clamp (by omega), nI_clamp (by omega)]
              by_cases e : k = a
              · rw [if_pos ⟨rfl, e⟩, if_pos e, e]
              · rw [if_neg (fun z => e z.2), if_neg e]; exact g4
            · obtain ⟨g1, g2, g3, g4⟩ := d4 k hk
              rw [F6.j (by omega), F6.i (show ¬ rl + 6 = rl + 4 by omega), F6.i (show ¬ rl + 7 + 2 = rl + 4 by omega)]
              exact ⟨g1, g2, g3, g4.to (F6.i (by omega))⟩
        · rw [chkS_n f3]; exact qX7_readNeeds_89 q3 (fun z => absurd rfl z) (fun _ => SRes.bad q1 q2 q3)
      · rw [e] at f2 q1
        rw [chkS_n f2]
        exact qX7_readNeeds_82 q3 (fun _ => SRes.bad q1 q2 q3) (fun z => absurd rfl z)
    have flt3 : toF (lexT n t (n2 n t p)) (sIx n t D (n2 n t p)) = 0 → (sIx n t D (n2 n t p) = nI a ∨ bt (dnd D (nI a).toNatClampNeg) (sIx n t D (n2 n t p)).toNatClampNeg = true) → K0 g YX7_readNeeds YX7_fail d 76 [.ref 28, .int 3] [] [] M3 (SRes la lb pa pb0 rl n t M (chkS n t (toF (lexT n t (n2 n t p)) (sIx n t D (n2 n t p))) (n2 n t p) (if sIx n t D (n2 n t p) = nI a ∨ bt (dnd D (nI a).toNatClampNeg) (sIx n t D (n2 n t p)).toNatClampNeg = true then sFlS (fltC n t 3 (n2 n t p)) else chkS n t (smF (lexT n t (n3 n t p))) (n3 n t p) (sOkS (n4 n t p) (dAddN D (nI a).toNatClampNeg (sIx n t D (n2 n t p)).toNatClampNeg))))) := fun f2 hq => by
      rw [chkS_0 f2, if_pos hq]
      exact K0.failS (k := 3) h3 (by omega) (fun M4 q1 q2 q3 => qX7_readNeeds_76 (by decide) (SRes.bad q1 q2 q3))
    refine qX7_readNeeds_51 h3.L (fun r => ?_) (fun r r2 => ?_) (fun r r2 => ?_)
    · rw [b2i_z] at r
      have e0 : ∀ ix, toF (lexT n t (n2 n t p)) ix = 1 := fun ix => by unfold toF; rw [if_neg (by rw [r]; decide)]
      exact take _ (by rw [e0, e0]) (fun z => by rw [e0] at z; omega)
    · have r := b2i_n.mp r
      rw [h3.shotNm O r] at r2
      exact flt3 (by unfold toF; rw [if_pos r, r2, if_neg (nI_m1 (by omega))]) (.inl r2)
    · have r := b2i_n.mp r
      rw [h3.shotNm O r] at r2 ⊢
      refine K0.ans (d1 := d - 1) (by omega) (tX0_isNeeded h3.L.crl h3.2.1.1 O.1 a1 (by omega)) ?_
      rw [(h3.2.1.2.2.1 a a1).2.2.2]
      by_cases q : sIx n t D (n2 n t p) = -1
      · have ef : (sIn (sIx n t D (n2 n t p)) (nI (dn D)) && decide (((dnd D a >>> (sIx n t D (n2 n t p) &&& 31)) &&& 1) = 1)) = false := by
          rw [q]
          have : sIn (-1) (nI (dn D)) = false := rfl
          rw [this]; rfl
        rw [ef]
        exact qX7_readNeeds_68 h3.L (fun _ => take _ rfl (fun z => by unfold toF at z; rw [if_pos r, if_pos q] at z; omega)) (fun z => absurd rfl z)
      · obtain ⟨b, b1, b2⟩ := sIx_of O q
        have et : (sIn (sIx n t D (n2 n t p)) (nI (dn D)) && decide (((dnd D a >>> (sIx n t D (n2 n t p) &&& 31)) &&& 1) = 1)) = bt (dnd D (nI a).toNatClampNeg) (sIx n t D (n2 n t p)).toNatClampNeg := by
          rw [b2, sIn_nI (by omega) (by omega), decide_eq_true b1, Bool.true_and, nI_clamp (by omega), nI_clamp (by omega)]
          cases z : bt (dnd D a) b
          · exact decide_eq_false ((bit_f _ (by omega)).mpr z)
          · exact decide_eq_true ((bit_t _ (by omega)).mpr z)
        rw [et]
        refine qX7_readNeeds_68 h3.L (fun z => ?_) (fun z => ?_)
        · rw [b2i_z] at z
          refine take _ rfl (fun _ => ⟨rfl, fun y => ?_⟩)
          rcases y with y | y
          · exact r2 y
          · rw [z] at y; exact absurd y (by decide)
        · rw [b2i_n] at z
          exact flt3 (by unfold toF; rw [if_pos r, if_neg q]) (.inr z)
  · rw [e1] at f1 q1
    rw [chkS_n f1]
    exact qX7_readNeeds_27 q3 (fun z => absurd rfl z) (fun _ => SRes.bad q1 q2 q3)
end STM2
