/-! ===== the reference's row, turned, kept ===== -/
theorem nI_sb {a b : Nat} (h : b ≤ a) : nI a - nI b = nI (a - b) := by
  have e : nI a = nI (a - b) + nI b := by rw [nI_add, Nat.sub_add_cancel h]
  rw [e, Int32.add_sub_cancel]
theorem half : ∀ h, h ≤ 6 → nI h / 2 = nI (h / 2) := by decide +kernel
abbrev UU : Type := Nat × (Nat → TT)
def uPut (u : UU) (T : TT) : UU := if u.1 = 16 then (16, fun i => if i = 15 then T else u.2 (i + 1)) else (u.1 + 1, fun i => if i = u.1 then T else u.2 i)
def RUn (M : MM) (n h : Nat) (u : UU) : Prop := u.1 ≤ 16 ∧ mi M 130 49 = nI u.1 ∧ ∀ i, i < u.1 → RSt (fun k => mi M 166 (19 * i + k)) n h (u.2 i)
abbrev inSc : Nat → Prop := fun b => b = 130 ∨ (142 ≤ b ∧ b ≤ 153) ∨ b = 162 ∨ b = 163 ∨ b = 164 ∨ (168 ≤ b ∧ b ≤ 171)
/-- nothing that lasts is changed -/
def Sc (M M1 : MM) : Prop := Fr inSc M M1 ∧ mi M1 130 1 = mi M 130 1 ∧ mi M1 130 49 = mi M 130 49 ∧ ∀ k, k < 19 → mi M1 162 k = mi M 162 k
abbrev QR (v : Int32) (M : MM) : Option Value → MM → Prop := fun rv M1 => rv = some (.int v) ∧ Sc M M1
theorem Sc.rf {M : MM} : Sc M M := ⟨Fr.rf, rfl, rfl, fun _ _ => rfl⟩
theorem Sc.trans {M M1 M2 : MM} (h : Sc M M1) (h2 : Sc M1 M2) : Sc M M2 := ⟨h.1.trans h2.1, h2.2.1.trans h.2.1, h2.2.2.1.trans h.2.2.1, fun k hk => (h2.2.2.2 k hk).trans (h.2.2.2 k hk)⟩
theorem Sc.of {S : Nat → Prop} {M M1 : MM} (h : Fr S M M1) (hS : ∀ b, S b → inSc b ∧ b ≠ 130 ∧ b ≠ 162) : Sc M M1 := ⟨h.mono (fun b hb => (hS b hb).1), by rw [h.i (fun z => (hS 130 z).2.1 rfl)], by rw [h.i (fun z => (hS 130 z).2.1 rfl)], fun k _ => by rw [h.i (fun z => (hS 162 z).2.2 rfl)]⟩
theorem Sc.w {M M1 : MM} (h : Sc M M1) {k : Nat} {v : Int32} (h1 : k ≠ 1) (h49 : k ≠ 49) : Sc M (wi M1 130 k v) := ⟨h.1.wi (.inl rfl), by rw [wi_at, if_neg (fun z => h1 z.2.symm)]; exact h.2.1, by rw [wi_at, if_neg (fun z => h49 z.2.symm)]; exact h.2.2.1, fun k hk => by rw [wi_at, if_neg (by omega)]; exact h.2.2.2 k hk⟩
theorem Sc.wl {M M1 : MM} (h : Sc M M1) {k : Nat} {v : Int64} : Sc M (wj M1 130 k v) := ⟨h.1.wj (.inl rfl), h.2.1, h.2.2.1, h.2.2.2⟩
theorem Sc.t0 {M : MM} : Sc M (wi M 130 0 0) := Sc.rf.w (by omega) (by omega)
theorem t0row {M : MM} : mi (wi M 130 0 0) 162 = mi M 162 := by funext j; rw [wi_at, if_neg (by omega)]
theorem RSt.sc {M M1 : MM} {n h : Nat} {T : TT} (S : RSt (mi M 162) n h T) (hn : n ≤ 10) (s : Sc M M1) : RSt (mi M1 162) n h T := S.cong hn s.2.2.2
section R2
variable {g : GG} {d : Nat} {M : MM} {la lb pa pb0 rl : Nat} {c : CD} {F : Nat → (Nat → Int32) → Int32} {T : TT} {u : UU}
theorem RCo.sc {M1 : MM} (R : RCo M c F) (h : Sc M M1) : RCo M1 c F := R.fr h.1 (fun b hb => by omega)
theorem tX12_turns (L : Lay M la lb pa pb0 rl) (R : RCo M c F) (O : COk c F) (S : RSt (mi M 162) (cn c) (ch c) T) (TO : TOk c T) : R0 g YX12_turns d [.ref 130] M (fun rv M1 => rv = none ∧ RSt (mi M1 162) (cn c) (ch c) (tTurn T) ∧ Fr (inC 162) M M1) := by
  have h10 := O.1
  have h6 := O.2.1
  obtain ⟨s0, s1, s2, s3, s4⟩ := S
  refine R0.of (by decide +kernel) (Nat.le_of_ble_eq_true rfl) rfl (qX12_turns_0 L ?_)
  rw [R.2.1]
  have key := up0 (p := fun i => ∀ M1, (∀ k, k < 3 → mi M1 162 k = mi M 162 k) → (∀ k, 9 ≤ k → mi M1 162 k = mi M 162 k) → (∀ k, k < 6 → mi M1 162 (3 + k) = nI (ordF (ch c) T.2.1 (if k < ch c ∧ (k < i ∨ ch c - i ≤ k) then ch c - 1 - k else k))) → Fr (inC 162) M M1 → E0 g YX12_turns d 9 [(0, .ref 130), (1, .int (nI (ch c))), (2, .int (nI i))] [] M1 (fun rv M1 => rv = none ∧ RSt (mi M1 162) (cn c) (ch c) (tTurn T) ∧ Fr (inC 162) M M1)) (ch c / 2) (fun M1 A B C F1 => ?_) (fun i hi ih M1 A B C F1 => ?_)
  · refine key M (fun _ _ => rfl) (fun _ _ => rfl) (fun k hk => ?_) Fr.rf
    rw [if_neg (by omega)]; exact s3 k hk
  · have ge : nI (ch c) / 2 ≤ nI (ch c / 2) := by rw [half _ h6]; exact Int32.le_refl _
    have C2 : ∀ k, k < 6 → mi M1 162 (3 + k) = nI (ordF (ch c) (tTurn T).2.1 k) := fun k hk => by
      rw [C k hk]
      congr 1
      show _ = ordF (ch c) (!T.2.1) k
      unfold ordF
      cases T.2.1 <;> simp <;> split <;> (try split) <;> omega
    refine qX12_turns_9 (F1.lay L) rfl rfl rfl (fun z => absurd ge z) (fun z => absurd ge z) (fun _ r => ⟨rfl, ?_, F1⟩) (fun _ r => ⟨rfl, ?_, F1.wi rfl⟩) (fun z => absurd ge z)
    · rw [nI_le0 (by omega)] at r
      have x0 := TO.2
      rw [if_pos r] at x0
      refine ⟨by rw [A 0 (by omega)]; exact s0, ?_, by rw [A 2 (by omega)]; exact s2, C2, fun k hk => by rw [B _ (by omega)]; exact s4 k hk⟩
      rw [A 1 (by omega), s1]
      unfold plF
      rw [show (tTurn T).2.2.1 = T.2.2.1 from rfl, x0, r]
      show nI (if T.2.1 = true then 0 - 1 - 0 else 0) = nI (if (!T.2.1) = true then 0 - 1 - 0 else 0)
      cases T.2.1 <;> rfl
    · rw [nI_le0 (by omega)] at r
      have x0 := TO.2
      rw [if_neg r] at x0
      have hp := (ordF_pl x0).2
      refine ⟨?_, ?_, ?_, fun k hk => ?_, fun k hk => ?_⟩
      · rw [wi_at, if_neg (by omega), A 0 (by omega)]; exact s0
      · rw [wi_at, if_pos ⟨rfl, rfl⟩, A 1 (by omega), s1, show (1 : Int32) = nI 1 from rfl, nI_sb (by omega), nI_sb (by omega)]
        congr 1
        unfold plF at hp ⊢
        show _ = if (!T.2.1) = true then ch c - 1 - T.2.2.1 else T.2.2.1
        cases q : T.2.1 <;> rw [q] at hp <;> simp <;> omega
      · rw [wi_at, if_neg (by omega), A 2 (by omega)]; exact s2
      · rw [wi_at, if_neg (by omega)]; exact C2 k hk
      · rw [wi_at, if_neg (by omega), B _ (by omega)]; exact s4 k hk
  · have lt : ¬ nI (ch c) / 2 ≤ nI i := by rw [half _ h6, nI_leI (by omega) (by omega)]; omega
    have ea : (3 + nI i : Int32) = nI (3 + i) := nI_add 3 i
    have eb : ((3 + nI (ch c) : Int32) - 1) - nI i = nI (3 + (ch c - 1 - i)) := by
      rw [show (3 + nI (ch c) : Int32) = nI (3 + ch c) from nI_add 3 _, show (1 : Int32) = nI 1 from rfl, nI_sb (by omega), nI_sb (by omega)]
      congr 1; omega
    refine qX12_turns_9 (F1.lay L) rfl rfl rfl (fun _ => by rw [ea]; exact vi (by omega) (by decide)) (fun _ => by rw [eb]; exact vi (by omega) (by decide)) (fun z => absurd z lt) (fun z => absurd z lt) (fun _ => ?_)
    rw [nI_1, ea, eb, nI_clamp (by omega), nI_clamp (by omega)]
    refine ih _ (fun k hk => ?_) (fun k hk => ?_) (fun k hk => ?_) ((F1.wi rfl).wi rfl)
    · rw [wi_at, if_neg (by omega), wi_at, if_neg (by omega)]; exact A k hk
    · rw [wi_at, if_neg (by omega), wi_at, if_neg (by omega)]; exact B k hk
    · rw [wi_at, wi_at]
      by_cases e1 : k = ch c - 1 - i
      · rw [if_pos ⟨rfl, by omega⟩, C i (by omega), if_neg (by omega), if_pos (by omega)]
        congr 2; omega
      · rw [if_neg (by omega)]
        by_cases e2 : k = i
        · rw [if_pos ⟨rfl, by omega⟩, C (ch c - 1 - i) (by omega), if_neg (by omega), if_pos (by omega)]
          congr 2; omega
        · rw [if_neg (by omega), C k hk]
          by_cases q : k < ch c ∧ (k < i ∨ ch c - i ≤ k)
          · rw [if_pos q, if_pos (by omega)]
          · rw [if_neg q, if_neg (by omega)]
theorem tX12_placeOf {hl : Nat} (L : Lay M la lb pa pb0 rl) (O : COk c F) (S : RSt (mi M 162) (cn c) (ch c) T) (hh : hl < ch c) : R0 g YX12_placeOf d [.ref 130, .int (nI hl)] M (Ans (nI (ordF (ch c) T.2.1 hl)) M) := by
  have h6 := O.2.1
  obtain ⟨o1, o2⟩ := ordF_inv (tu := T.2.1) hh
  refine R0.of (by decide +kernel) (Nat.le_of_ble_eq_true rfl) rfl (qX12_placeOf_0 ?_)
  have key := up0 (p := fun i => E0 g YX12_placeOf d 2 [(0, .ref 130), (1, .int (nI hl)), (2, .int (nI i))] [] M (Ans (nI (ordF (ch c) T.2.1 hl)) M)) (ordF (ch c) T.2.1 hl) ?_ (fun i hi ih => ?_)
  · exact key
  · have ea : (3 + nI (ordF (ch c) T.2.1 hl) : Int32) = nI (3 + ordF (ch c) T.2.1 hl) := nI_add 3 _
    refine qX12_placeOf_2 L (by rw [ea]; exact vi (by omega) (by decide)) (fun _ => ⟨rfl, rfl⟩) (fun r => absurd ?_ r)
    rw [ea, nI_clamp (by omega), S.2.2.2.1 _ (by omega), o1]
  · have ea : (3 + nI i : Int32) = nI (3 + i) := nI_add 3 _
    refine qX12_placeOf_2 L (by rw [ea]; exact vi (by omega) (by decide)) (fun r => ?_) (fun _ => by rw [nI_1]; exact ih)
    exfalso
    obtain ⟨o3, o4⟩ := ordF_inv (tu := T.2.1) (show i < ch c by omega)
    rw [ea, nI_clamp (by omega), S.2.2.2.1 _ (by omega), nI_eq (by omega) (by omega)] at r
    rw [r] at o3
    omega
theorem tX12_nextHall (L : Lay M la lb pa pb0 rl) (R : RCo M c F) (O : COk c F) (S : RSt (mi M 162) (cn c) (ch c) T) (TO : TOk c T) : R0 g YX12_nextHall d [.ref 130] M (Ans (if ch c = 0 then -1 else nI T.2.2.1) M) := by
  have h6 := O.2.1
  have e0 : mi M 132 1 = 0 ↔ ch c = 0 := by rw [R.2.1, show (0 : Int32) = nI 0 from rfl]; exact nI_eq (by omega) (by decide)
  have x0 := TO.2
  refine R0.of (by decide +kernel) (Nat.le_of_ble_eq_true rfl) rfl (qX12_nextHall_0 L (fun r => ?_) (fun r => ?_) (fun r => ?_)) <;> rw [e0] at r
  · rw [if_neg r] at x0
    exact (S.hall O x0).2
  · rw [if_neg r] at x0
    rw [if_neg r, (S.hall O x0).1]; exact ⟨rfl, rfl⟩
  · rw [if_pos r]; exact ⟨rfl, rfl⟩
theorem tX12_fresh (L : Lay M la lb pa pb0 rl) (R : RCo M c F) (h10 : cn c ≤ 10) (hd : 1 ≤ d) : R0 g YX12_fresh d [.ref 130] M (fun rv M1 => rv = none ∧ RSt (mi M1 162) (cn c) (ch c) T0 ∧ Fr (inC 162) M M1) := by
  refine R0.of (by decide +kernel) (Nat.le_of_ble_eq_true rfl) rfl (qX12_fresh_0 ?_)
  have key2 : ∀ M1, (∀ k, k < 19 → mi M1 162 k = if k = 0 then cFilm c else 0) → Fr (inC 162) M M1 → E0 g YX12_fresh d 33 [(0, .ref 130), (1, .int 0)] [] M1 (fun rv M1 => rv = none ∧ RSt (mi M1 162) (cn c) (ch c) T0 ∧ Fr (inC 162) M M1) := fun M1 A F1 => by
    have key := up0 (p := fun i => ∀ M2, (∀ k, k < 19 → mi M2 162 k = if k = 0 then cFilm c else if 3 ≤ k ∧ k < 3 + i then nI (k - 3) else 0) → Fr (inC 162) M M2 → E0 g YX12_fresh d 33 [(0, .ref 130), (1, .int (nI i))] [] M2 (fun rv M1 => rv = none ∧ RSt (mi M1 162) (cn c) (ch c) T0 ∧ Fr (inC 162) M M1)) 6 (fun M2 B F2 => ?_) (fun i hi ih M2 B F2 => ?_)
    · exact key M1 (fun k hk => by rw [A k hk]; by_cases e : k = 0; rw [if_pos e, if_pos e]; rw [if_neg e, if_neg e, if_neg (by omega)]) F1
    · refine qX12_fresh_33 (F2.lay L) rfl (fun z => absurd (by decide) z) (fun _ => ⟨rfl, ⟨?_, ?_, ?_, fun k hk => ?_, fun k hk => ?_⟩, F2⟩) (fun z => absurd (by decide) z)
      · rw [B 0 (by omega), if_pos rfl]; exact film_pb _ h10
      · rw [B 1 (by omega), if_neg (by omega), if_neg (by omega)]; rfl
      · rw [B 2 (by omega), if_neg (by omega), if_neg (by omega)]; rfl
      · rw [B (3 + k) (by omega), if_neg (by omega), if_pos (by omega)]
        show _ = nI (ordF _ false k)
        unfold ordF
        rw [if_neg (fun z => absurd z.1 (by decide))]
        congr 1; omega
      · rw [B (9 + k) (by omega), if_neg (by omega), if_neg (by omega)]; rfl
    · have ea : (3 + nI i : Int32) = nI (3 + i) := nI_add 3 _
      refine qX12_fresh_33 (F2.lay L) rfl (fun _ => by rw [ea]; exact vi (by omega) (by decide)) (fun z => absurd z (ngl 6 rfl (by decide) hi)) (fun _ => ?_)
      rw [nI_1, ea, nI_clamp (by omega)]
      refine ih _ (fun k hk => ?_) (F2.wi rfl)
      rw [wi_at]
      by_cases e : k = 3 + i
      · rw [if_pos ⟨rfl, e⟩, if_neg (by omega), if_pos (by omega)]
        congr 1; omega
      · rw [if_neg (by omega), B k hk]
        by_cases e0 : k = 0
        · rw [if_pos e0, if_pos e0]
        · rw [if_neg e0, if_neg e0]
          by_cases e3 : 3 ≤ k ∧ k < 3 + i
          · rw [if_pos e3, if_pos (by omega)]
          · rw [if_neg e3, if_neg (by omega)]
  have key := up0 (p := fun i => ∀ M1, (∀ k, k < i → mi M1 162 k = 0) → Fr (inC 162) M M1 → E0 g YX12_fresh d 2 [(0, .ref 130), (1, .int (nI i))] [] M1 (fun rv M1 => rv = none ∧ RSt (mi M1 162) (cn c) (ch c) T0 ∧ Fr (inC 162) M M1)) 19 (fun M1 A F1 => ?_) (fun i hi ih M1 A F1 => ?_)
  · exact key M (fun k hk => absurd hk (by omega)) Fr.rf
  · have R1 := R.fr F1 (fun b hb => by omega)
    refine qX12_fresh_2 (F1.lay L) rfl (fun z => absurd (by decide) z) (fun _ => K0.ans (d1 := d - 1) (by omega) (tX12_allShots (F1.lay L) R1) (qX12_fresh_30 rfl ((F1.lay L).s rfl (by decide)) (vi (k := 0) (by omega) (by decide)) (key2 _ (fun k hk => ?_) (F1.wi rfl)))) (fun z => absurd (by decide) z)
    rw [wi_at]
    by_cases e : k = 0
    · rw [if_pos ⟨rfl, e⟩, if_pos e]
    · rw [if_neg (fun z => e z.2), if_neg e]; exact A k hk
  · refine qX12_fresh_2 (F1.lay L) rfl (fun _ => vi (by omega) (by decide)) (fun z => absurd z (ngl 19 rfl (by decide) hi)) (fun _ => ?_)
    rw [nI_1, nI_clamp (by omega)]
    refine ih _ (fun k hk => ?_) (F1.wi rfl)
    rw [wi_at]
    by_cases e : k = i
    · rw [if_pos ⟨rfl, e⟩]
    · rw [if_neg (fun z => e z.2)]; exact A k (by omega)
theorem tX12_keeps (L : Lay M la lb pa pb0 rl) (O : COk c F) (S : RSt (mi M 162) (cn c) (ch c) T) (U : RUn M (cn c) (ch c) u) (hd : 1 ≤ d) : R0 g YX12_keeps d [.ref 130] M (fun rv M1 => rv = none ∧ RUn M1 (cn c) (ch c) (uPut u T) ∧ mi M1 130 1 = mi M 130 1 ∧ Fr (fun b => b = 130 ∨ b = 166) M M1) := by
  have h10 := O.1
  obtain ⟨u1, u2, u3⟩ := U
  have e16 : mi M 130 49 = 16 ↔ u.1 = 16 := by rw [u2, show (16 : Int32) = nI 16 from rfl]; exact nI_eq (by omega) (by decide)
  -- the copy, behind all else
  have last : ∀ M1 m, m ≤ 15 → mi M1 130 49 = nI m → mi M1 130 1 = mi M 130 1 → Fr (fun b => b = 130 ∨ b = 166) M M1 → (∀ i, i < m → RSt (fun k => mi M1 166 (19 * i + k)) (cn c) (ch c) ((uPut u T).2 i)) → (uPut u T).1 = m + 1 → (uPut u T).2 m = T → K0 g YX12_keeps YX12_copies d 68 [.ref 162, .int 0, .ref 166, .int (19 * (mi M1 130 49))] [(0, .ref 130)] [] M1 (fun rv M1 => rv = none ∧ RUn M1 (cn c) (ch c) (uPut u T) ∧ mi M1 130 1 = mi M 130 1 ∧ Fr (fun b => b = 130 ∨ b = 166) M M1) := fun M1 m hm e1 e2 F1 A B C => by
    rw [e1, show (19 : Int32) = nI 19 from rfl, pk_mul]
    have L1 := F1.lay L
    refine K0.set (d1 := d - 1) (by omega) (tX12_copies (x := 0) (y := 19 * m) (L1.s (a := 162) rfl (by decide)) (L1.s (a := 166) rfl (by decide)) (by omega) (by omega) (by decide) (by decide) (by decide)) ?_
    rintro rv M2 ⟨rfl, c1, c2, F2⟩
    have F02 : Fr (fun b => b = 130 ∨ b = 166) M M2 := F1.trans (F2.mono (fun b hb => .inr hb))
    refine qX12_keeps_68 (F2.lay L1) rfl ⟨rfl, ⟨by rw [B]; omega, ?_, fun i hi => ?_⟩, ?_, F02.wi (.inl rfl)⟩
    · rw [wi_at, if_pos ⟨rfl, rfl⟩, F2.i (by omega), e1, nI_1, B]
    · rw [B] at hi
      by_cases e : i = m
      · subst e
        rw [C]
        refine S.cong h10 (fun k hk => ?_)
        show mi (wi M2 130 49 _) 166 (19 * i + k) = _
        rw [wi_at, if_neg (by omega), c1 k hk, Nat.zero_add, F1.i (show ¬ (162 = 130 ∨ 162 = 166) by omega)]
      · refine (A i (by omega)).cong h10 (fun k hk => ?_)
        show mi (wi M2 130 49 _) 166 (19 * i + k) = _
        rw [wi_at, if_neg (by omega), c2 _ (by omega)]
    · rw [wi_at, if_neg (by omega), F2.i (by omega)]; exact e2
  refine R0.of (by decide +kernel) (Nat.le_of_ble_eq_true rfl) rfl (qX12_keeps_0 L (fun r => ?_) (fun r => ?_)) <;> rw [e16] at r
  · have eu : uPut u T = (u.1 + 1, fun i => if i = u.1 then T else u.2 i) := if_neg r
    refine last M u.1 (by omega) u2 rfl Fr.rf (fun i hi => ?_) (by rw [eu]) (by rw [eu]; exact if_pos rfl)
    rw [eu]
    show RSt _ _ _ (if i = u.1 then T else u.2 i)
    rw [if_neg (by omega)]; exact u3 i hi
  · have eu : uPut u T = (16, fun i => if i = 15 then T else u.2 (i + 1)) := if_pos r
    have key := up0 (p := fun i => ∀ M1, (∀ k, k < i → mi M1 166 k = mi M 166 (k + 19)) → (∀ k, i ≤ k → mi M1 166 k = mi M 166 k) → Fr (inC 166) M M1 → E0 g YX12_keeps d 11 [(0, .ref 130), (1, .int (nI i))] [] M1 (fun rv M1 => rv = none ∧ RUn M1 (cn c) (ch c) (uPut u T) ∧ mi M1 130 1 = mi M 130 1 ∧ Fr (fun b => b = 130 ∨ b = 166) M M1)) 285 (fun M1 A B F1 => ?_) (fun i hi ih M1 A B F1 => ?_)
    · exact key M (fun k hk => absurd hk (by omega)) (fun _ _ => rfl) Fr.rf
    · have F2 : Fr (fun b => b = 130 ∨ b = 166) M (wi M1 130 49 (mi M1 130 49 - 1)) := (F1.mono (fun b hb => .inr hb)).wi (.inl rfl)
      refine qX12_keeps_11 (F1.lay L) rfl rfl (fun z => absurd (by decide) z) (fun z => absurd (by decide) z) (fun _ => last _ 15 (by omega) ?_ ?_ F2 (fun i hi => ?_) (by rw [eu]) (by rw [eu]; rfl)) (fun z => absurd (by decide) z)
      · rw [wi_at, if_pos ⟨rfl, rfl⟩, F1.i (by omega), u2, r]; rfl
      · rw [wi_at, if_neg (by omega), F1.i (by omega)]
      · rw [eu]
        show RSt _ _ _ (if i = 15 then T else u.2 (i + 1))
        rw [if_neg (by omega)]
        refine (u3 (i + 1) (by omega)).cong h10 (fun k hk => ?_)
        show mi (wi M1 130 49 _) 166 (19 * i + k) = _
        rw [wi_at, if_neg (by omega), A _ (by omega)]
        congr 1; omega
    · have ea : (nI i + 19 : Int32) = nI (i + 19) := nI_add i 19
      refine qX12_keeps_11 (F1.lay L) rfl rfl (fun _ => by rw [ea]; exact vi (by omega) (by decide)) (fun _ => vi (by omega) (by decide)) (fun z => absurd z (ngl 285 rfl (by decide) hi)) (fun _ => ?_)
      rw [nI_1, ea, nI_clamp (by omega), nI_clamp (by omega)]
      refine ih _ (fun k hk => ?_) (fun k hk => ?_) (F1.wi rfl)
      · rw [wi_at]
        by_cases e : k = i
        · rw [if_pos ⟨rfl, e⟩, B _ (by omega), e]
        · rw [if_neg (fun z => e z.2)]; exact A k (by omega)
      · rw [wi_at, if_neg (by omega)]; exact B k (by omega)
end R2
