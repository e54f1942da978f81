/-! ===== the reference: how the tour goes on ===== -/
def stB (c : CD) (v : TV) (but : Int32) (p : Nat) (row : Int32) : Int32 := if nI (spl c v p) = but then row else row &&& (cTk c (spl c v p) row ^^^ (-1))
def rowB (c : CD) (v : TV) (but : Int32) : Nat → Nat → Int32 → Int32
  | 0, _, row => row
  | j + 1, p, row => rowB c v but j (p + 1) (stB c v but p row)
def sillyB (c : CD) (v : TV) (but : Int32) : Nat → Nat → Int32 → Int32
  | 0, _, _ => -1
  | j + 1, p, row => if cSen c (stB c v but p row) then sillyB c v but j (p + 1) (stB c v but p row) else nI (spl c v p)
def goneB (c : CD) (v : TV) (but : Int32) (k : Nat) : Nat → Nat → Int32 → Int32
  | 0, _, _ => -1
  | j + 1, p, row => if bt (row &&& (stB c v but p row ^^^ (-1))) k then nI (spl c v p) else goneB c v but k j (p + 1) (stB c v but p row)
theorem and_bit (x : Int32) {k : Nat} (hk : k < 32) : (x &&& ((1 : Int32) <<< (nI k &&& 31))) = 0 ↔ bt x k = false := by
  constructor
  · intro h
    have := congrArg (fun z => bt z k) h
    simp only [b_and, b_one hk hk, b_0, decide_true, Bool.and_true] at this
    exact this
  · intro h
    refine b_ext fun i hi => ?_
    rw [b_and, b_one hk hi, b_0]
    by_cases e : i = k
    · rw [e, h]; rfl
    · rw [decide_eq_false e, Bool.and_false]
theorem stB_sub {c : CD} {v : TV} {but : Int32} {p k : Nat} {row : Int32} (h : bt row k = false) : bt (stB c v but p row) k = false := by
  unfold stB
  split
  · exact h
  · rw [b_and, h, Bool.false_and]
theorem goneB_out {c : CD} {v : TV} {but : Int32} {k : Nat} : ∀ j p row, bt row k = false → goneB c v but k j p row = -1
  | 0, _, _, _ => rfl
  | j + 1, p, row, h => by
    rw [goneB, b_and, h, Bool.false_and, if_neg (by decide)]
    exact goneB_out j (p + 1) _ (stB_sub h)
theorem spl_31 {c : CD} {v : TV} {p : Nat} (h6 : ch c ≤ 6) (hp : p < ch c) : spl c v p < 2 ^ 31 := by
  unfold spl
  split <;> omega
theorem stB_m1 {c : CD} {v : TV} {p : Nat} {row : Int32} (h6 : ch c ≤ 6) (hp : p < ch c) : stB c v (-1) p row = row &&& (cTk c (spl c v p) row ^^^ (-1)) := if_neg (nI_m1 (spl_31 h6 hp))
theorem sillyB_m1 {c : CD} {v : TV} (h6 : ch c ≤ 6) : ∀ j p row, p + j ≤ ch c → sillyB c v (-1) j p row = sillyF c v j p row
  | 0, _, _, _ => rfl
  | j + 1, p, row, h => by rw [sillyB, sillyF, stB_m1 h6 (by omega), sillyB_m1 h6 j _ _ (by omega)]
theorem rowB_m1 {c : CD} {v : TV} (h6 : ch c ≤ 6) : ∀ j p row, p + j ≤ ch c → rowB c v (-1) j p row = rowF c v j p row
  | 0, _, _, _ => rfl
  | j + 1, p, row, h => by rw [rowB, rowF, stB_m1 h6 (by omega), rowB_m1 h6 j _ _ (by omega)]
theorem goneB_m1 {c : CD} {v : TV} {k : Nat} (h6 : ch c ≤ 6) (h10 : cn c ≤ 10) (hk : k < 32) : ∀ j p row, p + j ≤ ch c → goneB c v (-1) k j p row = goneF c v (nI k) j p row
  | 0, _, _, _ => rfl
  | j + 1, p, row, h => by
    rw [goneB, goneF, stB_m1 h6 (by omega), goneB_m1 h6 h10 hk j _ _ (by omega)]
    have e : bt (row &&& ((row &&& (cTk c (spl c v p) row ^^^ (-1))) ^^^ (-1))) k = bt (cTk c (spl c v p) row) k := by
      rw [b_and, b_not _ hk, b_and, b_not _ hk]
      have := cTk_sub (c := c) (hl := spl c v p) (row := row) h10 k hk
      cases x : bt (cTk c (spl c v p) row) k
      · cases bt row k <;> rfl
      · rw [this x]; rfl
    rw [e]
    by_cases z : bt (cTk c (spl c v p) row) k = true
    · rw [if_pos z, if_pos ((bit_t _ hk).mpr z)]
    · rw [if_neg z, if_neg (fun y => z ((bit_t _ hk).mp y))]
section GO
variable {g : GG} {d : Nat} {M : MM} {la lb pa pb0 rl : Nat} {c : CD} {F : Nat → (Nat → Int32) → Int32} {T : TT} {but : Int32}
abbrev inGo : Nat → Prop := fun b => b = 130 ∨ (144 ≤ b ∧ b ≤ 153) ∨ b = 162 ∨ b = 168 ∨ b = 169
def GoF (c : CD) (v : TV) (but : Int32) (tu : Bool) (j p : Nat) (row : Int32) (M2 M3 : MM) : Prop := mi M3 130 52 = (if mi M2 130 52 = -1 then sillyB c v but j p row else mi M2 130 52) ∧ mi M3 130 53 = togF c v but j p row (mi M2 130 53) ∧ (∀ q, q < ch c → mi M3 168 (ordF (ch c) tu q) = if p ≤ q then rowB c v but (q + 1 - p) p row else mi M2 168 (ordF (ch c) tu q)) ∧ (∀ k, k < cn c → mi M3 169 k = if goneB c v but k j p row = -1 then mi M2 169 k else goneB c v but k j p row) ∧ (∀ x, x ≠ 52 → x ≠ 53 → mi M3 130 x = mi M2 130 x) ∧ mi M3 130 49 = mi M2 130 49 ∧ Fr inGo M2 M3
theorem go_loop (O : COk c F) (TO : TOk c T) (hd : 7 ≤ d) {P : Option Value → MM → Prop} : ∀ j p T' M2, p + j = ch c → RSt (mi M2 162) (cn c) (ch c) T' → T'.2 = T.2 → RCo M2 c F → Lay M2 la lb pa pb0 rl → Ng (mi M2 130 52) → (∀ M3, GoF c (tvOf (cn c) T) but T.2.1 j p (tp (tvOf (cn c) T')) M2 M3 → E0 g YX12_goesOn d 72 [(0, .ref 130), (1, .int but), (2, .int (nI (ch c)))] [] M3 P) → E0 g YX12_goesOn d 72 [(0, .ref 130), (1, .int but), (2, .int (nI p))] [] M2 P := by
  have h10 := O.1
  have h6 := O.2.1
  intro j
  induction j with
  | zero =>
    intro p T' M2 hp S2 eT R2 L2 n2 k
    have : p = ch c := by omega
    subst this
    exact k M2 ⟨by split; assumption; rfl, rfl, fun q hq => by rw [if_neg (by omega)], fun q hq => rfl, fun _ _ _ => rfl, rfl, Fr.rf⟩
  | succ j ih =>
    intro p T' M2 hp S2 eT R2 L2 n2 k
    have hpc : p < ch c := by omega
    have lt : ¬ mi M2 132 1 ≤ nI p := by rw [R2.2.1, nI_leI (by omega) (by omega)]; omega
    have e3 : (3 + nI p : Int32) = nI (3 + p) := nI_add 3 p
    have eo : spl c (tvOf (cn c) T) p = ordF (ch c) T.2.1 p := spl_ord hpc
    obtain ⟨oi, ol⟩ := ordF_inv (tu := T.2.1) hpc
    have eh : mi M2 162 ((3 + nI p : Int32)).toNatClampNeg = nI (ordF (ch c) T.2.1 p) := by
      rw [e3, nI_clamp (by omega), S2.2.2.2.1 p (by omega), show T'.2.1 = T.2.1 by rw [eT]]
    -- behind the cut
    have after : ∀ M3 T2, RSt (mi M3 162) (cn c) (ch c) T2 → T2.2 = T.2 → tp (tvOf (cn c) T2) = stB c (tvOf (cn c) T) but p (tp (tvOf (cn c) T')) → Fr inG2 M2 M3 → E0 g YX12_goesOn d 109 [(0, .ref 130), (1, .int but), (2, .int (nI p)), (3, .int (nI (ordF (ch c) T.2.1 p))), (4, .int (tp (tvOf (cn c) T')))] [] M3 P := fun M3 T2 S3 e2 er F3 => by
      have L3 := F3.lay L2
      have R3 := R2.fr F3 (fun b hb => by omega)
      refine qX12_goesOn_109 ?_
      have key := up0 (p := fun i => ∀ M4, (∀ k, k < i → mi M4 169 k = if bt (tp (tvOf (cn c) T') &&& (tp (tvOf (cn c) T2) ^^^ (-1))) k then nI (ordF (ch c) T.2.1 p) else mi M2 169 k) → (∀ k, i ≤ k → mi M4 169 k = mi M2 169 k) → Fr (inC 169) M3 M4 → E0 g YX12_goesOn d 112 [(0, .ref 130), (1, .int but), (2, .int (nI p)), (3, .int (nI (ordF (ch c) T.2.1 p))), (4, .int (tp (tvOf (cn c) T'))), (5, .int (nI i))] [] M4 P) (cn c) (fun M4 A B F4 => ?_) (fun i hi ih2 M4 A B F4 => ?_)
      · exact key M3 (fun k hk => absurd hk (by omega)) (fun k _ => by rw [F3.i (by omega)]) Fr.rf
      · have L4 := F4.lay L3
        have R4 := R3.fr F4 (fun b hb => by omega)
        have ge : mi M4 132 0 ≤ nI (cn c) := by rw [R4.1]; exact Int32.le_refl _
        have eoc : (nI (ordF (ch c) T.2.1 p)).toNatClampNeg = ordF (ch c) T.2.1 p := nI_clamp (by omega)
        have e162 : mi M4 162 0 = tp (tvOf (cn c) T2) := by rw [F4.i (by omega)]; exact S3.1
        have F5 : Fr (fun b => b = 168 ∨ b = 169) M3 (wi M4 168 (ordF (ch c) T.2.1 p) (tp (tvOf (cn c) T2))) := (F4.mono (fun b hb => .inr hb)).wi (.inl rfl)
        refine qX12_goesOn_112 (M1 := wi M4 168 (ordF (ch c) T.2.1 p) (tp (tvOf (cn c) T2))) L4 (by rw [eoc, e162]) rfl (fun _ => vi (by omega) (by decide)) (fun z => absurd ge z) (fun _ => ?_) (fun z => absurd ge z) (fun z => absurd ge z)
        have L5 := F5.lay L3
        have R5 := R3.fr F5 (fun b hb => by omega)
        have e5 : mi (wi M4 168 (ordF (ch c) T.2.1 p) (tp (tvOf (cn c) T2))) 162 0 = tp (tvOf (cn c) T2) := by rw [wi_at, if_neg (by omega)]; exact e162
        have e53 : mi (wi M4 168 (ordF (ch c) T.2.1 p) (tp (tvOf (cn c) T2))) 130 53 = mi M2 130 53 := by rw [F5.i (by omega), F3.i (by omega)]
        rw [e5, e53]
        refine K0.ans (d1 := d - 1) (by omega) (tX12_minutesOf L5 R5 O) ?_
        have F6 : Fr inGo M2 (wi (wi M4 168 (ordF (ch c) T.2.1 p) (tp (tvOf (cn c) T2))) 130 53 (mi M2 130 53 + cMin c (tp (tvOf (cn c) T2)))) := ((F3.mono (fun b hb => by omega)).trans (F5.mono (fun b hb => by omega))).wi (.inl rfl)
        have S6 : RSt (mi (wi (wi M4 168 (ordF (ch c) T.2.1 p) (tp (tvOf (cn c) T2))) 130 53 (mi M2 130 53 + cMin c (tp (tvOf (cn c) T2)))) 162) (cn c) (ch c) T2 := S3.cong h10 (fun k hk => by rw [wi_at, if_neg (by omega), F5.i (by omega)])
        have R6 := R2.fr F6 (fun b hb => by omega)
        have a52 : mi (wi (wi M4 168 (ordF (ch c) T.2.1 p) (tp (tvOf (cn c) T2))) 130 53 (mi M2 130 53 + cMin c (tp (tvOf (cn c) T2)))) 130 52 = mi M2 130 52 := by rw [wi_at, if_neg (by omega), F5.i (by omega), F3.i (by omega)]
        -- on to the next place
        have next : ∀ M7, Fr inGo (wi (wi M4 168 (ordF (ch c) T.2.1 p) (tp (tvOf (cn c) T2))) 130 53 (mi M2 130 53 + cMin c (tp (tvOf (cn c) T2)))) M7 → (∀ b, b ≠ 130 → mi M7 b = mi (wi (wi M4 168 (ordF (ch c) T.2.1 p) (tp (tvOf (cn c) T2))) 130 53 (mi M2 130 53 + cMin c (tp (tvOf (cn c) T2)))) b) → (∀ x, x ≠ 52 → mi M7 130 x = mi (wi (wi M4 168 (ordF (ch c) T.2.1 p) (tp (tvOf (cn c) T2))) 130 53 (mi M2 130 53 + cMin c (tp (tvOf (cn c) T2)))) 130 x) → mi M7 130 52 = (if mi M2 130 52 = -1 then (if cSen c (tp (tvOf (cn c) T2)) then -1 else nI (ordF (ch c) T.2.1 p)) else mi M2 130 52) → E0 g YX12_goesOn d 72 [(0, .ref 130), (1, .int but), (2, .int (nI p + 1))] [] M7 P := fun M7 F7 b7 x7 s7 => by
          rw [nI_1]
          have ng7 : Ng (mi M7 130 52) := by
            rw [s7]
            split
            · split
              · exact Ng.m
              · exact Ng.n (by omega)
            · exact n2
          refine ih (p + 1) T2 M7 (by omega) (S6.cong h10 (fun k _ => by rw [b7 162 (by omega)])) e2 (R6.fr F7 (fun b hb => by omega)) (F7.lay (F6.lay L2)) ng7 (fun M8 G8 => k M8 ?_)
          obtain ⟨g1, g2, g3, g4, g5, g6, g7⟩ := G8
          rw [er] at g1 g2 g3 g4 s7
          refine ⟨?_, ?_, fun q hq => ?_, fun k hk => ?_, ?_, ?_, (F6.trans F7).trans g7⟩
          · rw [g1, s7, sillyB, eo]
            by_cases z : mi M2 130 52 = -1
            · rw [if_pos z, if_pos z]
              by_cases y : cSen c (stB c (tvOf (cn c) T) but p (tp (tvOf (cn c) T'))) = true
              · rw [if_pos y, if_pos y, if_pos rfl]
              · rw [if_neg y, if_neg y, if_neg (nI_m1 (by omega))]
            · rw [if_neg z, if_neg z, if_neg z]
          · rw [g2, x7 53 (by omega), wi_at, if_pos ⟨rfl, rfl⟩, er]
            rw [togF]
            unfold stB
            by_cases z : nI (spl c (tvOf (cn c) T) p) = but
            · rw [if_pos z, if_pos z]
            · rw [if_neg z, if_neg z]
          · rw [g3 q hq]
            by_cases z : p + 1 ≤ q
            · rw [if_pos z, if_pos (by omega), show q + 1 - p = (q + 1 - (p + 1)) + 1 by omega, rowB]
            · rw [if_neg z, b7 168 (by omega), wi_at, if_neg (by omega), wi_at]
              by_cases e : q = p
              · subst e
                rw [if_pos ⟨rfl, rfl⟩, if_pos (Nat.le_refl _), show q + 1 - q = 0 + 1 by omega, rowB, rowB, er]
              · rw [if_neg (fun y => e (by have := (ordF_inv (tu := T.2.1) hq).1; rw [y.2, oi] at this; exact this.symm)), if_neg (by omega), F4.i (by omega), F3.i (by omega)]
          · have e7 : mi M7 169 k = if bt (tp (tvOf (cn c) T') &&& (stB c (tvOf (cn c) T) but p (tp (tvOf (cn c) T')) ^^^ (-1))) k then nI (ordF (ch c) T.2.1 p) else mi M2 169 k := by
              rw [b7 169 (by omega), wi_at, if_neg (by omega), wi_at, if_neg (by omega), A k hk, er]
            rw [g4 k hk, e7, goneB, eo]
            cases z : bt (tp (tvOf (cn c) T') &&& (stB c (tvOf (cn c) T) but p (tp (tvOf (cn c) T')) ^^^ (-1))) k
            · simp only [Bool.false_eq_true, if_false]
            · have out : bt (stB c (tvOf (cn c) T) but p (tp (tvOf (cn c) T'))) k = false := by
                rw [b_and, b_not _ (by omega)] at z
                cases y : bt (stB c (tvOf (cn c) T) but p (tp (tvOf (cn c) T'))) k
                · rfl
                · rw [y, Bool.not_true, Bool.and_false] at z; exact absurd z (by decide)
              rw [goneB_out _ _ _ out, if_pos rfl, if_pos rfl, if_pos rfl, if_neg (nI_m1 (by omega))]
          · intro x h52 h53
            rw [g5 x h52 h53, x7 x h52, wi_at, if_neg (fun z => h53 z.2), F5.i (by omega), F3.i (by omega)]
          · rw [g6, x7 49 (by omega), wi_at, if_neg (by omega), F5.i (by omega), F3.i (by omega)]
        have ob130 : ob (wi M4 168 (ordF (ch c) T.2.1 p) (tp (tvOf (cn c) T2))) 130 12 := L5.s (a := 130) rfl (by decide)
        refine qX12_goesOn_183 L5 rfl ob130 (fun r => ?_) (fun r => ?_) <;> rw [a52] at r
        · rw [n2.ge] at r
          exact next _ Fr.rf (fun _ _ => rfl) (fun _ _ => rfl) (by rw [if_neg r]; exact a52)
        · rw [n2.ge] at r
          have r := Classical.not_not.mp r
          rw [show mi (wi (wi M4 168 (ordF (ch c) T.2.1 p) (tp (tvOf (cn c) T2))) 130 53 (mi M2 130 53 + cMin c (tp (tvOf (cn c) T2)))) 162 0 = tp (tvOf (cn c) T2) from S6.1]
          refine K0.ans (d1 := d - 1) (by omega) (tX12_makesSense (F6.lay L2) R6 O) (qX12_goesOn_204 (F6.lay L2) rfl (fun y => ?_) (fun y => ?_))
          · rw [b2i_n] at y
            refine next _ Fr.rf (fun _ _ => rfl) (fun _ _ => rfl) ?_
            rw [a52, if_pos r, if_pos (show cSen c (tp (tvOf (cn c) T2)) = true from y)]; exact r
          · rw [b2i_z] at y
            refine next _ (Fr.rf.wi (.inl rfl)) (fun b hb => ?_) (fun x hx => ?_) ?_
            · funext q; rw [wi_at, if_neg (fun z => hb z.1)]
            · rw [wi_at, if_neg (fun z => hx z.2)]
            · rw [wi_at, if_pos ⟨rfl, rfl⟩, if_pos r, if_neg (by rw [show cSen c (tp (tvOf (cn c) T2)) = false from y]; decide)]
      · have L4 := F4.lay L3
        have R4 := R3.fr F4 (fun b hb => by omega)
        have lt2 : ¬ mi M4 132 0 ≤ nI i := by rw [R4.1, nI_leI (by omega) (by omega)]; omega
        have e162 : mi M4 162 0 = tp (tvOf (cn c) T2) := by rw [F4.i (by omega)]; exact S3.1
        refine qX12_goesOn_112 L4 rfl rfl (fun z => absurd z lt2) (fun _ _ => vi (by omega) (by decide)) (fun z => absurd z lt2) (fun _ r => ?_) (fun _ r => ?_) <;> rw [e162, and_bit _ (by omega)] at r <;> rw [nI_1]
        · refine ih2 M4 (fun k hk => ?_) (fun k hk => B k (by omega)) F4
          by_cases e : k = i
          · rw [e, r, if_neg (by decide)]; exact B i (Nat.le_refl _)
          · exact A k (by omega)
        · have r : bt (tp (tvOf (cn c) T') &&& (tp (tvOf (cn c) T2) ^^^ (-1))) i = true := by
            cases z : bt (tp (tvOf (cn c) T') &&& (tp (tvOf (cn c) T2) ^^^ (-1))) i
            · exact absurd z r
            · rfl
          rw [nI_clamp (by omega)]
          refine ih2 _ (fun k hk => ?_) (fun k hk => ?_) (F4.wi rfl)
          · rw [wi_at]
            by_cases e : k = i
            · rw [if_pos ⟨rfl, e⟩, e, if_pos r]
            · rw [if_neg (fun z => e z.2)]; exact A k (by omega)
          · rw [wi_at, if_neg (by omega)]; exact B k (by omega)
    refine qX12_goesOn_72 L2 (fun _ => by rw [e3]; exact vi (by omega) (by decide)) (fun z => absurd z lt) (fun _ r => ?_) (fun _ r => ?_) <;> rw [eh] at r ⊢ <;> rw [S2.1]
    · exact after M2 T' S2 eT (by unfold stB; rw [eo, if_pos r]) Fr.rf
    · refine K0.set (d1 := d - 1) (by omega) (tX12_cuts L2 R2 O S2 ol (by omega)) ?_
      rintro rv M3 ⟨rfl, S3, F3⟩
      refine after M3 _ S3 eT ?_ F3
      unfold stB
      rw [eo, if_neg r]
      exact (congrArg (fun z : TV => z.1) (vShow_c (T := T') (hl := ordF (ch c) T.2.1 p) h10)).symm
theorem nPl_T (TO : TOk c T) (h6 : ch c ≤ 6) : nPl c (tvOf (cn c) T) = plF (ch c) T := by
  unfold nPl plF spl
  have x0 := TO.2
  by_cases h : ch c = 0
  · rw [if_pos h] at x0
    rw [if_pos h, h, x0]
    cases T.2.1 <;> rfl
  · rw [if_neg h] at x0
    rw [if_neg h]
    have e : tNx (tvOf (cn c) T) = T.2.2.1 := by
      show (nI T.2.2.1).toNatClampNeg = T.2.2.1
      exact nI_clamp (by omega)
    rw [e]; rfl
theorem plF_le (TO : TOk c T) : plF (ch c) T ≤ ch c := by
  have x0 := TO.2
  by_cases h : ch c = 0
  · rw [if_pos h] at x0
    unfold plF
    rw [x0, h]; split <;> omega
  · rw [if_neg h] at x0
    exact Nat.le_of_lt (ordF_pl x0).2
/-- behind goesOn -/
def GoA (c : CD) (T : TT) (but : Int32) (M M1 : MM) : Prop := mi M1 130 52 = sillyB c (tvOf (cn c) T) but (ch c - plF (ch c) T) (plF (ch c) T) (tp (tvOf (cn c) T)) ∧ mi M1 130 53 = togF c (tvOf (cn c) T) but (ch c - plF (ch c) T) (plF (ch c) T) (tp (tvOf (cn c) T)) 0 ∧ (∀ q, q < ch c → mi M1 168 (ordF (ch c) T.2.1 q) = if plF (ch c) T ≤ q then rowB c (tvOf (cn c) T) but (q + 1 - plF (ch c) T) (plF (ch c) T) (tp (tvOf (cn c) T)) else -1) ∧ (∀ k, k < cn c → mi M1 169 k = goneB c (tvOf (cn c) T) but k (ch c - plF (ch c) T) (plF (ch c) T) (tp (tvOf (cn c) T))) ∧ Sc M M1 ∧ mi M1 130 0 = mi M 130 0
theorem tX12_goesOn (L : Lay M la lb pa pb0 rl) (R : RCo M c F) (O : COk c F) (S : RSt (mi M 162) (cn c) (ch c) T) (TO : TOk c T) (hd : 7 ≤ d) : R0 g YX12_goesOn d [.ref 130, .int but] M (fun rv M1 => rv = none ∧ GoA c T but M M1) := by
  have h10 := O.1
  have h6 := O.2.1
  have hpl := plF_le TO
  refine R0.of (by decide +kernel) (Nat.le_of_ble_eq_true rfl) rfl (qX12_goesOn_0 L (K0.set (d1 := d - 1) (by omega) (tX12_copies (x := 0) (y := 0) (L.s (a := 162) rfl (by decide)) (L.s (a := 163) rfl (by decide)) (by omega) (by omega) (by decide) (by decide) (by decide)) ?_))
  rintro rv B ⟨rfl, cB, -, FB⟩
  have LB := FB.lay L
  refine qX12_goesOn_13 LB rfl rfl ?_
  have F2 : Fr (inC 130) B (wi (wi B 130 52 (-1)) 130 53 0) := Fr.wi (S := inC 130) (Fr.wi (S := inC 130) Fr.rf rfl) rfl
  have k52 : mi (wi (wi B 130 52 (-1)) 130 53 0) 130 52 = -1 := by rw [wi_at, if_neg (by omega), wi_at, if_pos ⟨rfl, rfl⟩]
  have k53 : mi (wi (wi B 130 52 (-1)) 130 53 0) 130 53 = 0 := by rw [wi_at, if_pos ⟨rfl, rfl⟩]
  have k1 : mi (wi (wi B 130 52 (-1)) 130 53 0) 130 1 = mi B 130 1 := by rw [wi_at, if_neg (by omega), wi_at, if_neg (by omega)]
  have k0 : mi (wi (wi B 130 52 (-1)) 130 53 0) 130 0 = mi B 130 0 := by rw [wi_at, if_neg (by omega), wi_at, if_neg (by omega)]
  have k49 : mi (wi (wi B 130 52 (-1)) 130 53 0) 130 49 = mi B 130 49 := by rw [wi_at, if_neg (by omega), wi_at, if_neg (by omega)]
  generalize wi (wi B 130 52 (-1)) 130 53 0 = M2 at *
  have key3 : ∀ M3, Fr (fun b => b = 168 ∨ b = 169) M2 M3 → (∀ k, k < 6 → mi M3 168 k = -1) → (∀ k, k < 10 → mi M3 169 k = -1) → E0 g YX12_goesOn d 72 [(0, .ref 130), (1, .int but), (2, .int (mi M3 162 1))] [] M3 (fun rv M1 => rv = none ∧ GoA c T but M M1) := fun M3 F3 A B2 => by
    have F03 : Fr inGo B M3 := (F2.mono (fun b hb => .inl hb)).trans (F3.mono (fun b hb => by omega))
    have L3 := F03.lay LB
    have R3 : RCo M3 c F := (R.fr FB (fun b hb => by omega)).fr F03 (fun b hb => by omega)
    have S3 : RSt (mi M3 162) (cn c) (ch c) T := by rw [F3.i (by omega), F2.i (by omega), FB.i (by omega)]; exact S
    have a52 : mi M3 130 52 = -1 := by rw [F3.i (by omega)]; exact k52
    rw [S3.2.1]
    refine go_loop O TO hd (ch c - plF (ch c) T) (plF (ch c) T) T M3 (by omega) S3 rfl R3 L3 (by rw [a52]; exact Ng.m) (fun M4 G => ?_)
    obtain ⟨g1, g2, g3, g4, g5, g6, g7⟩ := G
    have R4 := R3.fr g7 (fun b hb => by omega)
    have ge : mi M4 132 1 ≤ nI (ch c) := by rw [R4.2.1]; exact Int32.le_refl _
    have F04 := F03.trans g7
    refine qX12_goesOn_72 (g7.lay L3) (fun z => absurd ge z) (fun _ => K0.cb (M0 := M) (M1 := B) (g7.lay L3) cB FB (F04.mono (fun b hb => by omega)) (fun k _ => by rw [F04.i (by omega)]) ?_ ?_ (by omega) (fun M5 s5 F5 => qX12_goesOn_231 ⟨rfl, ?_, ?_, fun q hq => ?_, fun k hk => ?_, s5, ?_⟩)) (fun z => absurd ge z) (fun z => absurd ge z)
    · rw [g5 1 (by omega) (by omega), F3.i (by omega)]; exact k1
    · rw [g6, F3.i (by omega)]; exact k49
    · rw [F5.i (by omega), g1, a52, if_pos rfl]
    · rw [F5.i (by omega), g2, show mi M3 130 53 = 0 by rw [F3.i (by omega)]; exact k53]
    · rw [F5.i (by omega), g3 q hq, A _ (by have := (ordF_inv (tu := T.2.1) hq).2; omega)]
    · rw [F5.i (by omega), g4 k hk, B2 k (by omega)]
      split
      · rename_i z; exact z.symm
      · rfl
    · rw [F5.i (by omega), g5 0 (by omega) (by omega), F3.i (by omega), k0, FB.i (by omega)]
  have key2 : ∀ M3, Fr (inC 168) M2 M3 → (∀ k, k < 6 → mi M3 168 k = -1) → E0 g YX12_goesOn d 46 [(0, .ref 130), (1, .int but), (2, .int 0)] [] M3 (fun rv M1 => rv = none ∧ GoA c T but M M1) := fun M3 F3 A => by
    have key := up0 (p := fun i => ∀ M4, (∀ k, k < i → mi M4 169 k = -1) → Fr (inC 169) M3 M4 → E0 g YX12_goesOn d 46 [(0, .ref 130), (1, .int but), (2, .int (nI i))] [] M4 (fun rv M1 => rv = none ∧ GoA c T but M M1)) 10 (fun M4 B2 F4 => ?_) (fun i hi ih M4 B2 F4 => ?_)
    · exact key M3 (fun k hk => absurd hk (by omega)) Fr.rf
    · have L4 := F4.lay (F3.lay (F2.lay LB))
      exact qX12_goesOn_46 L4 rfl (fun z => absurd (by decide) z) (fun _ => key3 M4 ((F3.mono (fun b hb => .inl hb)).trans (F4.mono (fun b hb => .inr hb))) (fun k hk => by rw [F4.i (by omega)]; exact A k hk) B2) (fun z => absurd (by decide) z)
    · have L4 := F4.lay (F3.lay (F2.lay LB))
      refine qX12_goesOn_46 L4 rfl (fun _ => vi (by omega) (by decide)) (fun z => absurd z (ngl 10 rfl (by decide) hi)) (fun _ => ?_)
      rw [nI_1, nI_clamp (by omega)]
      refine ih _ (fun k hk => ?_) (F4.wi rfl)
      rw [wi_at]
      by_cases e : k = i
      · rw [if_pos ⟨rfl, e⟩]
      · rw [if_neg (fun z => e z.2)]; exact B2 k (by omega)
  have key := up0 (p := fun i => ∀ M4, (∀ k, k < i → mi M4 168 k = -1) → Fr (inC 168) M2 M4 → E0 g YX12_goesOn d 25 [(0, .ref 130), (1, .int but), (2, .int (nI i))] [] M4 (fun rv M1 => rv = none ∧ GoA c T but M M1)) 6 (fun M4 B2 F4 => ?_) (fun i hi ih M4 B2 F4 => ?_)
  · exact key M2 (fun k hk => absurd hk (by omega)) Fr.rf
  · exact qX12_goesOn_25 (F4.lay (F2.lay LB)) rfl (fun z => absurd (by decide) z) (fun _ => key2 M4 F4 B2) (fun z => absurd (by decide) z)
  · refine qX12_goesOn_25 (F4.lay (F2.lay LB)) rfl (fun _ => vi (by omega) (by decide)) (fun z => absurd z (ngl 6 rfl (by decide) hi)) (fun _ => ?_)
    rw [nI_1, nI_clamp (by omega)]
    refine ih _ (fun k hk => ?_) (F4.wi rfl)
    rw [wi_at]
    by_cases e : k = i
    · rw [if_pos ⟨rfl, e⟩]
    · rw [if_neg (fun z => e z.2)]; exact B2 k (by omega)
/-- what a hall shows, if it is ahead -/
def cAhd (c : CD) (v : TV) (i : Int32) : Int32 := if isAhd c v i then rowF c v (spl c v i.toNatClampNeg + 1 - nPl c v) (nPl c v) (tp v) else -1
theorem GoA.row {M1 : MM} {hl : Nat} (G : GoA c T (-1) M M1) (O : COk c F) (TO : TOk c T) (hh : hl < ch c) : mi M1 168 hl = cAhd c (tvOf (cn c) T) (nI hl) := by
  have h6 := O.2.1
  obtain ⟨o1, o2⟩ := ordF_inv (tu := T.2.1) hh
  have g := G.2.2.1 (ordF (ch c) T.2.1 hl) o2
  rw [o1] at g
  unfold cAhd isAhd
  rw [sIn_nI (by omega) (by omega), decide_eq_true hh, Bool.true_and, nI_clamp (by omega), spl_ord hh, nPl_T TO h6, g]
  by_cases z : plF (ch c) T ≤ ordF (ch c) T.2.1 hl
  · rw [if_pos z, decide_eq_true z, if_pos rfl, rowB_m1 h6 _ _ _ (by omega)]
  · rw [if_neg z, decide_eq_false z, if_neg (by decide)]
end GO
