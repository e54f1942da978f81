/-! ===== reading, a level each ===== -/
section PARSE2
variable {n : Nat} {t : Nat → Nat} {f dp p : Nat} {acc : PRs}
abbrev isPart (K : TK) : Prop := kty K = 2 ∨ kfa K ≠ 0 ∨ kIs K 40 = true ∨ kW K 14 = true
theorem pEx_no (h : ¬ isPart (lexT n t p)) : pEx n t (f + 1) 0 dp p acc = prFl (fltC n t 1 p) := by
  show (if isPart (lexT n t p) then _ else _) = _
  exact if_neg h
theorem pEx_deep (h : isPart (lexT n t p)) (hd : 5 ≤ dp) : pEx n t (f + 1) 0 dp p acc = prFl (fltC n t 5 p) := by
  show (if isPart (lexT n t p) then (if 5 ≤ dp then _ else _) else _) = _
  rw [if_pos h, if_pos hd]
theorem pEx_num (h : kty (lexT n t p) = 2) (hd : ¬ 5 ≤ dp) : pEx n t (f + 1) 0 dp p acc = prOk (nxT n t p) [nI (knu (lexT n t p))] [nI (100 + knu (lexT n t p))] (fun _ => nI (knu (lexT n t p))) := by
  show (if isPart (lexT n t p) then (if 5 ≤ dp then _ else if kty (lexT n t p) = 2 then _ else _) else _) = _
  rw [if_pos (.inl h), if_neg hd, if_pos h]
theorem pEx_fact (h0 : ¬ kty (lexT n t p) = 2) (h : kfa (lexT n t p) ≠ 0) (hd : ¬ 5 ≤ dp) : pEx n t (f + 1) 0 dp p acc = prOk (nxT n t p) [0 - nI (kfa (lexT n t p))] [nI (kfa (lexT n t p))] (fun e => e (kfa (lexT n t p))) := by
  show (if isPart (lexT n t p) then (if 5 ≤ dp then _ else if kty (lexT n t p) = 2 then _ else if kfa (lexT n t p) ≠ 0 then _ else _) else _) = _
  rw [if_pos (.inr (.inl h)), if_neg hd, if_neg h0, if_pos h]
theorem pEx_open (h : kIs (lexT n t p) 40 = true) (hd : ¬ 5 ≤ dp) : pEx n t (f + 1) 0 dp p acc = andT (pEx n t f 4 (dp + 1) (nxT n t p) prOut) (fun r => if kIs (lexT n t (rpo r)) 41 = true then prOk (nxT n t (rpo r)) (rcc r) (28 :: (rrc r ++ [29])) (rfv r) else prFl (fltC n t 1 (rpo r))) := by
  have h3 := kIs_ty h
  have hf : ¬ kfa (lexT n t p) ≠ 0 := fun q => by have := kfa_ty q; omega
  show (if isPart (lexT n t p) then (if 5 ≤ dp then _ else if kty (lexT n t p) = 2 then _ else if kfa (lexT n t p) ≠ 0 then _ else if kIs (lexT n t p) 40 = true then _ else _) else _) = _
  rw [if_pos (.inr (.inr (.inl h))), if_neg hd, if_neg (by omega), if_neg hf, if_pos h]
theorem kW_one {K : TK} {i j : Nat} (hi : i < 21) (hj : j < 21) (h : kW K i = true) (h2 : kW K j = true) : i = j := by
  unfold kW at h h2
  simp only [Bool.and_eq_true, decide_eq_true_eq] at h h2
  have e : kwL i = kwL j := h.2.symm.trans h2.2
  exact (by decide +kernel : ∀ i, i < 21 → ∀ j, j < 21 → kwL i = kwL j → i = j) i hi j hj e
theorem pEx_not (h : kW (lexT n t p) 14 = true) (hd : ¬ 5 ≤ dp) : pEx n t (f + 1) 0 dp p acc = andT (pEx n t f 0 (dp + 1) (nxT n t p) prOut) (fun r => prOk (rpo r) (rcc r ++ [-5]) (30 :: rrc r) (fun e => if rfv r e = 0 then 1 else 0)) := by
  have h3 := kW_ty h
  have hf : ¬ kfa (lexT n t p) ≠ 0 := fun q => by
    unfold kfa at q
    have no : ∀ j, j < 21 → j ≠ 14 → ¬ kW (lexT n t p) j = true := fun j hj h14 hk => h14 (kW_one hj (by omega) hk h)
    rw [if_neg (no 17 (by omega) (by omega)), if_neg (no 18 (by omega) (by omega)), if_neg (no 19 (by omega) (by omega)), if_neg (no 20 (by omega) (by omega))] at q
    exact q rfl
  have ho : ¬ kIs (lexT n t p) 40 = true := fun q => by have := kIs_ty q; omega
  show (if isPart (lexT n t p) then (if 5 ≤ dp then _ else if kty (lexT n t p) = 2 then _ else if kfa (lexT n t p) ≠ 0 then _ else if kIs (lexT n t p) 40 = true then _ else _) else _) = _
  rw [if_pos (.inr (.inr (.inr h))), if_neg hd, if_neg (by omega), if_neg hf, if_neg ho]
theorem pEx_1 : pEx n t (f + 1) 1 dp p acc = andT (pEx n t f 0 dp p prOut) (fun r => pEx n t f 5 dp (rpo r) r) := rfl
theorem pEx_2 : pEx n t (f + 1) 2 dp p acc = andT (pEx n t f 1 dp p prOut) (fun r => pEx n t f 6 dp (rpo r) r) := rfl
theorem pEx_4 : pEx n t (f + 1) 4 dp p acc = andT (pEx n t f 3 dp p prOut) (fun r => pEx n t f 7 dp (rpo r) r) := rfl
theorem pEx_3 : pEx n t (f + 1) 3 dp p acc = andT (pEx n t f 2 dp p prOut) (fun a => if kIs (lexT n t (rpo a)) 60 = true then andT (pEx n t f 2 dp (nxT n t (rpo a)) prOut) (fun r => prOk (rpo r) (rcc a ++ (rcc r ++ [-8])) (rrc a ++ (24 :: rrc r)) (jnF (-8) (rfv a) (rfv r))) else if kIs (lexT n t (rpo a)) 61 = true then andT (pEx n t f 2 dp (nxT n t (rpo a)) prOut) (fun r => prOk (rpo r) (rcc a ++ (rcc r ++ [-9])) (rrc a ++ (25 :: rrc r)) (jnF (-9) (rfv a) (rfv r))) else a) := rfl
/-- a tail's step -/
def tlT (n : Nat) (t : Nat → Nat) (f l1 l2 dp p : Nat) (acc : PRs) (c d : Int32) : PRs := andT (pEx n t f l1 dp (nxT n t p) prOut) (fun r => pEx n t f l2 dp (rpo r) (prOk (rpo r) (rcc acc ++ (rcc r ++ [c])) (rrc acc ++ (d :: rrc r)) (jnF c (rfv acc) (rfv r))))
theorem pEx_5 : pEx n t (f + 1) 5 dp p acc = if kIs (lexT n t p) 42 = true then tlT n t f 0 5 dp p acc (-12) 22 else prOk p (rcc acc) (rrc acc) (rfv acc) := rfl
theorem pEx_6 : pEx n t (f + 1) 6 dp p acc = if kIs (lexT n t p) 43 = true then tlT n t f 1 6 dp p acc (-10) 20 else if kIs (lexT n t p) 45 = true then tlT n t f 1 6 dp p acc (-11) 21 else prOk p (rcc acc) (rrc acc) (rfv acc) := rfl
theorem pEx_7 : pEx n t (f + 1) 7 dp p acc = if kW (lexT n t p) 15 = true then tlT n t f 3 7 dp p acc (-6) 26 else if kW (lexT n t p) 16 = true then tlT n t f 3 7 dp p acc (-7) 27 else prOk p (rcc acc) (rrc acc) (rfv acc) := rfl
/-- the fuel is enough -/
theorem pEx_fuel : ∀ f lvl dp p acc, p ≤ n → lvl ≤ 7 → 8 * (n - p) + lvl + 1 ≤ f → rst (pEx n t f lvl dp p acc) ≠ 2 := by
  intro f
  induction f with
  | zero => intro lvl dp p acc hp hl h; omega
  | succ f ih =>
    intro lvl dp p acc hp hl h
    have hnx := nxT_le (t := t) hp
    have aT : ∀ (r : PRs) (k : PRs → PRs), rst r ≠ 2 → (rst r = 0 → rst (k r) ≠ 2) → rst (andT r k) ≠ 2 := fun r k h1 h2 => by
      unfold andT
      split
      · exact h2 (by assumption)
      · exact h1
    have tl : ∀ l1 l2 c d, l1 < 5 → 5 ≤ l2 → l2 ≤ 7 → kty (lexT n t p) ≠ 0 → rst (tlT n t f l1 l2 dp p acc c d) ≠ 2 := fun l1 l2 c d h1 h2 h3 hk => by
      have hlt := hnx.2.2.1 hk
      refine aT _ _ (ih l1 dp _ _ hnx.2.1 (by omega) (by omega)) (fun g1 => ?_)
      have i1 := pEx_len f l1 dp _ prOut hnx.2.1 g1
      exact ih l2 dp _ _ i1.2.1 (by omega) (by omega)
    have fst : ∀ l1 l2, l1 < 5 → l1 + 1 ≤ lvl → 5 ≤ l2 → l2 ≤ 7 → rst (andT (pEx n t f l1 dp p prOut) (fun r => pEx n t f l2 dp (rpo r) r)) ≠ 2 := fun l1 l2 h1 h1' h2 h3 => by
      refine aT _ _ (ih l1 dp _ _ hp (by omega) (by omega)) (fun g1 => ?_)
      have i1 := pEx_len f l1 dp _ prOut hp g1
      have := i1.2.2.2 h1
      exact ih l2 dp _ _ i1.2.1 (by omega) (by omega)
    have ok0 : ∀ p cc rc ff, rst (prOk p cc rc ff) ≠ 2 := fun _ _ _ _ => (by decide : (0 : Nat) ≠ 2)
    have fl0 : ∀ c, rst (prFl c) ≠ 2 := fun _ => (by decide : (1 : Nat) ≠ 2)
    match lvl, hl with
    | 0, _ =>
      by_cases c1 : isPart (lexT n t p)
      · have hk : kty (lexT n t p) ≠ 0 := by
          rcases c1 with q | q | q | q
          · omega
          · have := kfa_ty q; omega
          · have := kIs_ty q; omega
          · have := kW_ty q; omega
        have hlt := hnx.2.2.1 hk
        by_cases c2 : 5 ≤ dp
        · rw [pEx_deep c1 c2]; exact fl0 _
        · by_cases q2 : kty (lexT n t p) = 2
          · rw [pEx_num q2 c2]; exact ok0 _ _ _ _
          · by_cases q3 : kfa (lexT n t p) ≠ 0
            · rw [pEx_fact q2 q3 c2]; exact ok0 _ _ _ _
            · by_cases q4 : kIs (lexT n t p) 40 = true
              · rw [pEx_open q4 c2]
                refine aT _ _ (ih 4 _ _ _ hnx.2.1 (by omega) (by omega)) (fun _ => ?_)
                split
                · exact ok0 _ _ _ _
                · exact fl0 _
              · have q5 : kW (lexT n t p) 14 = true := by
                  rcases c1 with q | q | q | q
                  · exact absurd q q2
                  · exact absurd q q3
                  · exact absurd q q4
                  · exact q
                rw [pEx_not q5 c2]
                exact aT _ _ (ih 0 _ _ _ hnx.2.1 (by omega) (by omega)) (fun _ => ok0 _ _ _ _)
      · rw [pEx_no c1]; exact fl0 _
    | 1, _ => rw [pEx_1]; exact fst 0 5 (by omega) (by omega) (by omega) (by omega)
    | 2, _ => rw [pEx_2]; exact fst 1 6 (by omega) (by omega) (by omega) (by omega)
    | 3, _ =>
      rw [pEx_3]
      refine aT _ _ (ih 2 _ _ _ hp (by omega) (by omega)) (fun g1 => ?_)
      have i1 := pEx_len f 2 dp _ prOut hp g1
      have i14 := i1.2.2.2 (by omega)
      have hn2 := nxT_le (t := t) i1.2.1
      split
      · exact aT _ _ (ih 2 _ _ _ hn2.2.1 (by omega) (by omega)) (fun _ => ok0 _ _ _ _)
      · split
        · exact aT _ _ (ih 2 _ _ _ hn2.2.1 (by omega) (by omega)) (fun _ => ok0 _ _ _ _)
        · rw [g1]; decide
    | 4, _ => rw [pEx_4]; exact fst 3 7 (by omega) (by omega) (by omega) (by omega)
    | 5, _ =>
      rw [pEx_5]
      split
      · exact tl 0 5 _ _ (by omega) (by omega) (by omega) (by rw [kIs_ty (by assumption)]; decide)
      · exact ok0 _ _ _ _
    | 6, _ =>
      rw [pEx_6]
      split
      · exact tl 1 6 _ _ (by omega) (by omega) (by omega) (by rw [kIs_ty (by assumption)]; decide)
      · split
        · exact tl 1 6 _ _ (by omega) (by omega) (by omega) (by rw [kIs_ty (by assumption)]; decide)
        · exact ok0 _ _ _ _
    | 7, _ =>
      rw [pEx_7]
      split
      · exact tl 3 7 _ _ (by omega) (by omega) (by omega) (by rw [kW_ty (by assumption)]; decide)
      · split
        · exact tl 3 7 _ _ (by omega) (by omega) (by omega) (by rw [kW_ty (by assumption)]; decide)
        · exact ok0 _ _ _ _
/-- what is read well has Q, if Q goes along with each way of reading -/
theorem pEx_ind (Q : Nat → Nat → Nat → PRs → PRs → Prop)
    (hnum : ∀ dp p acc, kty (lexT n t p) = 2 → ¬ 5 ≤ dp → Q 0 dp p acc (prOk (nxT n t p) [nI (knu (lexT n t p))] [nI (100 + knu (lexT n t p))] (fun _ => nI (knu (lexT n t p)))))
    (hfact : ∀ dp p acc, kfa (lexT n t p) ≠ 0 → ¬ 5 ≤ dp → Q 0 dp p acc (prOk (nxT n t p) [0 - nI (kfa (lexT n t p))] [nI (kfa (lexT n t p))] (fun e => e (kfa (lexT n t p)))))
    (hopen : ∀ dp p acc r, kIs (lexT n t p) 40 = true → ¬ 5 ≤ dp → rst r = 0 → Q 4 (dp + 1) (nxT n t p) prOut r → kIs (lexT n t (rpo r)) 41 = true → Q 0 dp p acc (prOk (nxT n t (rpo r)) (rcc r) (28 :: (rrc r ++ [29])) (rfv r)))
    (hnot : ∀ dp p acc r, kW (lexT n t p) 14 = true → ¬ 5 ≤ dp → rst r = 0 → Q 0 (dp + 1) (nxT n t p) prOut r → Q 0 dp p acc (prOk (rpo r) (rcc r ++ [-5]) (30 :: rrc r) (fun e => if rfv r e = 0 then 1 else 0)))
    (h1 : ∀ dp p acc r r2, rst r = 0 → rst r2 = 0 → Q 0 dp p prOut r → Q 5 dp (rpo r) r r2 → Q 1 dp p acc r2)
    (h2 : ∀ dp p acc r r2, rst r = 0 → rst r2 = 0 → Q 1 dp p prOut r → Q 6 dp (rpo r) r r2 → Q 2 dp p acc r2)
    (h4 : ∀ dp p acc r r2, rst r = 0 → rst r2 = 0 → Q 3 dp p prOut r → Q 7 dp (rpo r) r r2 → Q 4 dp p acc r2)
    (h3 : ∀ dp p acc a, rst a = 0 → Q 2 dp p prOut a → ¬ kIs (lexT n t (rpo a)) 60 = true → ¬ kIs (lexT n t (rpo a)) 61 = true → Q 3 dp p acc a)
    (h3c : ∀ dp p acc a r c d, ((kIs (lexT n t (rpo a)) 60 = true ∧ c = -8 ∧ d = 24) ∨ (kIs (lexT n t (rpo a)) 61 = true ∧ c = -9 ∧ d = 25)) → rst a = 0 → rst r = 0 → Q 2 dp p prOut a → Q 2 dp (nxT n t (rpo a)) prOut r → Q 3 dp p acc (prOk (rpo r) (rcc a ++ (rcc r ++ [c])) (rrc a ++ (d :: rrc r)) (jnF c (rfv a) (rfv r))))
    (hs : ∀ lvl dp p acc, (lvl = 5 ∧ ¬ kIs (lexT n t p) 42 = true) ∨ (lvl = 6 ∧ ¬ kIs (lexT n t p) 43 = true ∧ ¬ kIs (lexT n t p) 45 = true) ∨ (lvl = 7 ∧ ¬ kW (lexT n t p) 15 = true ∧ ¬ kW (lexT n t p) 16 = true) → Q lvl dp p acc (prOk p (rcc acc) (rrc acc) (rfv acc)))
    (ht : ∀ l1 l2 dp p acc r r2 c d, (l1 = 0 ∧ l2 = 5 ∧ kIs (lexT n t p) 42 = true ∧ c = -12 ∧ d = 22) ∨ (l1 = 1 ∧ l2 = 6 ∧ kIs (lexT n t p) 43 = true ∧ c = -10 ∧ d = 20) ∨ (l1 = 1 ∧ l2 = 6 ∧ kIs (lexT n t p) 45 = true ∧ c = -11 ∧ d = 21) ∨ (l1 = 3 ∧ l2 = 7 ∧ kW (lexT n t p) 15 = true ∧ c = -6 ∧ d = 26) ∨ (l1 = 3 ∧ l2 = 7 ∧ kW (lexT n t p) 16 = true ∧ c = -7 ∧ d = 27) → rst r = 0 → rst r2 = 0 → Q l1 dp (nxT n t p) prOut r → Q l2 dp (rpo r) (prOk (rpo r) (rcc acc ++ (rcc r ++ [c])) (rrc acc ++ (d :: rrc r)) (jnF c (rfv acc) (rfv r))) r2 → Q l2 dp p acc r2) :
    ∀ f lvl dp p acc, lvl ≤ 7 → rst (pEx n t f lvl dp p acc) = 0 → Q lvl dp p acc (pEx n t f lvl dp p acc) := by
  intro f
  induction f with
  | zero => intro lvl dp p acc _ h; exact absurd (show (2 : Nat) = 0 from h) (by decide)
  | succ f ih =>
    intro lvl dp p acc hl h
    have tl : ∀ l1 l2 c d, l1 ≤ 7 → l2 ≤ 7 → (l1 = 0 ∧ l2 = 5 ∧ kIs (lexT n t p) 42 = true ∧ c = -12 ∧ d = 22) ∨ (l1 = 1 ∧ l2 = 6 ∧ kIs (lexT n t p) 43 = true ∧ c = -10 ∧ d = 20) ∨ (l1 = 1 ∧ l2 = 6 ∧ kIs (lexT n t p) 45 = true ∧ c = -11 ∧ d = 21) ∨ (l1 = 3 ∧ l2 = 7 ∧ kW (lexT n t p) 15 = true ∧ c = -6 ∧ d = 26) ∨ (l1 = 3 ∧ l2 = 7 ∧ kW (lexT n t p) 16 = true ∧ c = -7 ∧ d = 27) → rst (tlT n t f l1 l2 dp p acc c d) = 0 → Q l2 dp p acc (tlT n t f l1 l2 dp p acc c d) := fun l1 l2 c d h1 h2 hc h => by
      obtain ⟨g1, g2⟩ := andT_0 h
      unfold tlT at h ⊢
      rw [g2] at h ⊢
      exact ht l1 l2 dp p acc _ _ c d hc g1 h (ih l1 dp _ _ h1 g1) (ih l2 dp _ _ h2 h)
    match lvl, hl with
    | 0, _ =>
      by_cases c1 : isPart (lexT n t p)
      · by_cases c2 : 5 ≤ dp
        · rw [pEx_deep c1 c2] at h; exact absurd (show (1 : Nat) = 0 from h) (by decide)
        · by_cases q2 : kty (lexT n t p) = 2
          · rw [pEx_num q2 c2]; exact hnum dp p acc q2 c2
          · by_cases q3 : kfa (lexT n t p) ≠ 0
            · rw [pEx_fact q2 q3 c2]; exact hfact dp p acc q3 c2
            · by_cases q4 : kIs (lexT n t p) 40 = true
              · rw [pEx_open q4 c2] at h ⊢
                obtain ⟨g1, g2⟩ := andT_0 h
                rw [g2] at h ⊢
                by_cases q6 : kIs (lexT n t (rpo (pEx n t f 4 (dp + 1) (nxT n t p) prOut))) 41 = true
                · rw [if_pos q6]
                  exact hopen dp p acc _ q4 c2 g1 (ih 4 _ _ _ (by omega) g1) q6
                · rw [if_neg q6] at h; exact absurd (show (1 : Nat) = 0 from h) (by decide)
              · have q5 : kW (lexT n t p) 14 = true := by
                  rcases c1 with q | q | q | q
                  · exact absurd q q2
                  · exact absurd q q3
                  · exact absurd q q4
                  · exact q
                rw [pEx_not q5 c2] at h ⊢
                obtain ⟨g1, g2⟩ := andT_0 h
                rw [g2]
                exact hnot dp p acc _ q5 c2 g1 (ih 0 _ _ _ (by omega) g1)
      · rw [pEx_no c1] at h; exact absurd (show (1 : Nat) = 0 from h) (by decide)
    | 1, _ =>
      rw [pEx_1] at h ⊢
      obtain ⟨g1, g2⟩ := andT_0 h
      rw [g2] at h ⊢
      exact h1 dp p acc _ _ g1 h (ih 0 _ _ _ (by omega) g1) (ih 5 _ _ _ (by omega) h)
    | 2, _ =>
      rw [pEx_2] at h ⊢
      obtain ⟨g1, g2⟩ := andT_0 h
      rw [g2] at h ⊢
      exact h2 dp p acc _ _ g1 h (ih 1 _ _ _ (by omega) g1) (ih 6 _ _ _ (by omega) h)
    | 3, _ =>
      rw [pEx_3] at h ⊢
      obtain ⟨g1, g2⟩ := andT_0 h
      rw [g2] at h ⊢
      have i1 := ih 2 dp p prOut (by omega) g1
      by_cases c : kIs (lexT n t (rpo (pEx n t f 2 dp p prOut))) 60 = true
      · rw [if_pos c] at h ⊢
        obtain ⟨g3, g4⟩ := andT_0 h
        rw [g4]
        exact h3c dp p acc _ _ _ _ (.inl ⟨c, rfl, rfl⟩) g1 g3 i1 (ih 2 _ _ _ (by omega) g3)
      · rw [if_neg c] at h ⊢
        by_cases c2 : kIs (lexT n t (rpo (pEx n t f 2 dp p prOut))) 61 = true
        · rw [if_pos c2] at h ⊢
          obtain ⟨g3, g4⟩ := andT_0 h
          rw [g4]
          exact h3c dp p acc _ _ _ _ (.inr ⟨c2, rfl, rfl⟩) g1 g3 i1 (ih 2 _ _ _ (by omega) g3)
        · rw [if_neg c2]
          exact h3 dp p acc _ g1 i1 c c2
    | 4, _ =>
      rw [pEx_4] at h ⊢
      obtain ⟨g1, g2⟩ := andT_0 h
      rw [g2] at h ⊢
      exact h4 dp p acc _ _ g1 h (ih 3 _ _ _ (by omega) g1) (ih 7 _ _ _ (by omega) h)
    | 5, _ =>
      rw [pEx_5] at h ⊢
      by_cases c : kIs (lexT n t p) 42 = true
      · rw [if_pos c] at h ⊢; exact tl 0 5 _ _ (by omega) (by omega) (.inl ⟨rfl, rfl, c, rfl, rfl⟩) h
      · rw [if_neg c]; exact hs 5 dp p acc (.inl ⟨rfl, c⟩)
    | 6, _ =>
      rw [pEx_6] at h ⊢
      by_cases c : kIs (lexT n t p) 43 = true
      · rw [if_pos c] at h ⊢; exact tl 1 6 _ _ (by omega) (by omega) (.inr (.inl ⟨rfl, rfl, c, rfl, rfl⟩)) h
      · rw [if_neg c] at h ⊢
        by_cases c2 : kIs (lexT n t p) 45 = true
        · rw [if_pos c2] at h ⊢; exact tl 1 6 _ _ (by omega) (by omega) (.inr (.inr (.inl ⟨rfl, rfl, c2, rfl, rfl⟩))) h
        · rw [if_neg c2]; exact hs 6 dp p acc (.inr (.inl ⟨rfl, c, c2⟩))
    | 7, _ =>
      rw [pEx_7] at h ⊢
      by_cases c : kW (lexT n t p) 15 = true
      · rw [if_pos c] at h ⊢; exact tl 3 7 _ _ (by omega) (by omega) (.inr (.inr (.inr (.inl ⟨rfl, rfl, c, rfl, rfl⟩)))) h
      · rw [if_neg c] at h ⊢
        by_cases c2 : kW (lexT n t p) 16 = true
        · rw [if_pos c2] at h ⊢; exact tl 3 7 _ _ (by omega) (by omega) (.inr (.inr (.inr (.inr ⟨rfl, rfl, c2, rfl, rfl⟩)))) h
        · rw [if_neg c2]; exact hs 7 dp p acc (.inr (.inr ⟨rfl, c, c2⟩))
/-! the class's steps give the value -/
def GoodC (cc : List Int32) (f : (Nat → Int32) → Int32) (b : Nat) : Prop := ∀ env S, S.length + b ≤ 24 → vRun env cc S = some (f env :: S)
theorem GoodC.mono {cc : List Int32} {f : (Nat → Int32) → Int32} {b b2 : Nat} (h : GoodC cc f b) (hb : b ≤ b2) : GoodC cc f b2 := fun env S q => h env S (by omega)
theorem GoodC.join {c1 c2 : List Int32} {f h : (Nat → Int32) → Int32} {b : Nat} {c : Int32} (h1 : GoodC c1 f (b + 1)) (h2 : GoodC c2 h b) (hc : c ≤ -5) (hc2 : ¬ c = -5) : GoodC (c1 ++ (c2 ++ [c])) (jnF c f h) (b + 1) := fun env S q => by
  rw [vRun_app (h1 env S q), vRun_app (h2 env (f env :: S) (by simp; omega))]
  show (vStep env c (h env :: f env :: S)).bind (vRun env []) = _
  unfold vStep
  rw [if_neg (fun z => z hc), if_neg hc2]
  rfl
def bdC (dp : Nat) : Nat := 1 + 4 * (4 - dp)
theorem fact_atom (env : Nat → Int32) : ∀ k, k ≠ 0 → k ≤ 4 → ¬ (0 - nI k) ≤ (-5 : Int32) ∧ vAtom env (0 - nI k) = env k := by
  intro k h0 h4
  match k, h0, h4 with
  | 1, _, _ => exact ⟨by decide, rfl⟩
  | 2, _, _ => exact ⟨by decide, rfl⟩
  | 3, _, _ => exact ⟨by decide, rfl⟩
  | 4, _, _ => exact ⟨by decide, rfl⟩
theorem pEx_goodC (hnu : ∀ p, kty (lexT n t p) = 2 → knu (lexT n t p) < 2 ^ 31) (f lvl dp p : Nat) (acc : PRs) (hl : lvl ≤ 7) (h : rst (pEx n t f lvl dp p acc) = 0) : (lvl < 5 → dp ≤ 4 ∧ GoodC (rcc (pEx n t f lvl dp p acc)) (rfv (pEx n t f lvl dp p acc)) (bdC dp + lvl)) ∧ (5 ≤ lvl → GoodC (rcc acc) (rfv acc) (bdC dp + (if lvl = 7 then 4 else lvl - 4)) → GoodC (rcc (pEx n t f lvl dp p acc)) (rfv (pEx n t f lvl dp p acc)) (bdC dp + (if lvl = 7 then 4 else lvl - 4))) := by
  refine pEx_ind (fun lvl dp p acc r => (lvl < 5 → dp ≤ 4 ∧ GoodC (rcc r) (rfv r) (bdC dp + lvl)) ∧ (5 ≤ lvl → GoodC (rcc acc) (rfv acc) (bdC dp + (if lvl = 7 then 4 else lvl - 4)) → GoodC (rcc r) (rfv r) (bdC dp + (if lvl = 7 then 4 else lvl - 4)))) ?_ ?_ ?_ ?_ ?_ ?_ ?_ ?_ ?_ ?_ ?_ f lvl dp p acc hl h
  · intro dp p acc q hd
    refine ⟨fun _ => ⟨by omega, fun env S hS => ?_⟩, fun z => absurd z (by omega)⟩
    have hk := hnu p q
    have h5 : ¬ nI (knu (lexT n t p)) ≤ (-5 : Int32) := fun z => nI_pos hk (Int32.lt_of_le_of_lt z (by decide))
    have hS2 : S.length < 24 := by unfold bdC at hS; omega
    show (vStep env (nI (knu (lexT n t p))) S).bind (vRun env []) = _
    unfold vStep
    rw [if_pos h5, if_pos hS2]
    have ei := nI_toInt hk
    have : vAtom env (nI (knu (lexT n t p))) = nI (knu (lexT n t p)) := by unfold vAtom; rw [if_neg (by omega), if_neg (by omega), if_neg (by omega), if_neg (by omega)]
    rw [this]; rfl
  · intro dp p acc q hd
    refine ⟨fun _ => ⟨by omega, fun env S hS => ?_⟩, fun z => absurd z (by omega)⟩
    have hS2 : S.length < 24 := by unfold bdC at hS; omega
    obtain ⟨g1, g2⟩ := fact_atom env _ q kfa_le
    show (vStep env (0 - nI (kfa (lexT n t p))) S).bind (vRun env []) = _
    unfold vStep
    rw [if_pos g1, if_pos hS2, g2]; rfl
  · intro dp p acc r _ hd _ Q1 _
    obtain ⟨g1, g2⟩ := Q1.1 (by omega)
    refine ⟨fun _ => ⟨by omega, ?_⟩, fun z => absurd z (by omega)⟩
    exact GoodC.mono g2 (by unfold bdC; omega)
  · intro dp p acc r _ hd _ Q1
    obtain ⟨g1, g2⟩ := Q1.1 (by omega)
    refine ⟨fun _ => ⟨by omega, fun env S hS => ?_⟩, fun z => absurd z (by omega)⟩
    show vRun env (rcc r ++ [-5]) S = _
    rw [vRun_app (g2 env S (by unfold bdC at hS ⊢; omega))]
    rfl
  · intro dp p acc r r2 _ _ Q1 Q2
    obtain ⟨g1, g2⟩ := Q1.1 (by omega)
    exact ⟨fun _ => ⟨g1, Q2.2 (by omega) (g2.mono (by simp))⟩, fun z => absurd z (by omega)⟩
  · intro dp p acc r r2 _ _ Q1 Q2
    obtain ⟨g1, g2⟩ := Q1.1 (by omega)
    exact ⟨fun _ => ⟨g1, Q2.2 (by omega) (g2.mono (by simp))⟩, fun z => absurd z (by omega)⟩
  · intro dp p acc r r2 _ _ Q1 Q2
    obtain ⟨g1, g2⟩ := Q1.1 (by omega)
    exact ⟨fun _ => ⟨g1, Q2.2 (by omega) (g2.mono (by simp))⟩, fun z => absurd z (by omega)⟩
  · intro dp p acc a _ Q1 _ _
    obtain ⟨g1, g2⟩ := Q1.1 (by omega)
    exact ⟨fun _ => ⟨g1, g2.mono (by omega)⟩, fun z => absurd z (by omega)⟩
  · intro dp p acc a r c d hc _ _ Q1 Q2
    obtain ⟨g1, g2⟩ := Q1.1 (by omega)
    obtain ⟨-, g3⟩ := Q2.1 (by omega)
    refine ⟨fun _ => ⟨g1, ?_⟩, fun z => absurd z (by omega)⟩
    exact GoodC.join (g2.mono (by omega)) g3 (by rcases hc with ⟨-, rfl, -⟩ | ⟨-, rfl, -⟩ <;> decide) (by rcases hc with ⟨-, rfl, -⟩ | ⟨-, rfl, -⟩ <;> decide)
  · intro lvl dp p acc hc
    exact ⟨fun z => absurd z (by omega), fun _ q => q⟩
  · intro l1 l2 dp p acc r r2 c d hc _ _ Q1 Q2
    refine ⟨fun z => absurd z (by omega), fun _ q => Q2.2 (by omega) ?_⟩
    have hcc : c ≤ -5 ∧ ¬ c = -5 := by rcases hc with ⟨-, -, -, rfl, -⟩ | ⟨-, -, -, rfl, -⟩ | ⟨-, -, -, rfl, -⟩ | ⟨-, -, -, rfl, -⟩ | ⟨-, -, -, rfl, -⟩ <;> decide
    obtain ⟨-, g2⟩ := Q1.1 (by omega)
    have e : bdC dp + (if l2 = 7 then 4 else l2 - 4) = bdC dp + l1 + 1 := by
      rcases hc with ⟨rfl, rfl, -⟩ | ⟨rfl, rfl, -⟩ | ⟨rfl, rfl, -⟩ | ⟨rfl, rfl, -⟩ | ⟨rfl, rfl, -⟩ <;> simp <;> omega
    rw [e] at q ⊢
    exact GoodC.join q g2 hcc.1 hcc.2
end PARSE2
