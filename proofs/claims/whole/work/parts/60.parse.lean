/-! ===== the language of laws, read ===== -/
/-- what reading gives: 0 good, 1 a fault, 2 no fuel; the fault; where it goes on; steps of the class, of the reference; the value -/
abbrev PRs : Type := Nat × Int32 × Nat × List Int32 × List Int32 × ((Nat → Int32) → Int32)
abbrev rst (r : PRs) : Nat := r.1
abbrev rfa (r : PRs) : Int32 := r.2.1
abbrev rpo (r : PRs) : Nat := r.2.2.1
abbrev rcc (r : PRs) : List Int32 := r.2.2.2.1
abbrev rrc (r : PRs) : List Int32 := r.2.2.2.2.1
abbrev rfv (r : PRs) : (Nat → Int32) → Int32 := r.2.2.2.2.2
def prOk (p : Nat) (cc rc : List Int32) (f : (Nat → Int32) → Int32) : PRs := (0, 0, p, cc, rc, f)
def prFl (c : Int32) : PRs := (1, c, 0, [], [], fun _ => 0)
def prOut : PRs := (2, 0, 0, [], [], fun _ => 0)
def fltC (n : Nat) (t : Nat → Nat) (k p : Nat) : Int32 := nI (k + 16 * kat (lexT n t p))
def kW (K : TK) (i : Nat) : Bool := decide (kty K = 1) && decide (kws K = kwL i)
/-- which fact: 1 to 4 -/
def kfa (K : TK) : Nat := if kW K 17 then 1 else if kW K 18 then 2 else if kW K 19 then 3 else if kW K 20 then 4 else 0
def nxT (n : Nat) (t : Nat → Nat) (p : Nat) : Nat := ken (lexT n t p)
def jnF (c : Int32) (f h : (Nat → Int32) → Int32) : (Nat → Int32) → Int32 := fun e => vJoin c (f e) (h e)
/-- r, then what follows -/
def andT (r : PRs) (k : PRs → PRs) : PRs := if rst r = 0 then k r else r
/-- level 0 a part, 1 a product, 2 a sum, 3 a test, 4 an expression; 5, 6, 7 what follows the first of a product, a sum, an expression -/
def pEx (n : Nat) (t : Nat → Nat) : Nat → Nat → Nat → Nat → PRs → PRs
  | 0, _, _, _, _ => prOut
  | f + 1, lvl, dp, p, acc =>
    if lvl = 0 then
      (if kty (lexT n t p) = 2 ∨ kfa (lexT n t p) ≠ 0 ∨ kIs (lexT n t p) 40 = true ∨ kW (lexT n t p) 14 = true then
        (if 5 ≤ dp then prFl (fltC n t 5 p)
        else if kty (lexT n t p) = 2 then prOk (nxT n t p) [nI (knu (lexT n t p))] [nI (100 + knu (lexT n t p))] (fun _ => nI (knu (lexT n t p)))
        else if kfa (lexT n t p) ≠ 0 then prOk (nxT n t p) [0 - nI (kfa (lexT n t p))] [nI (kfa (lexT n t p))] (fun e => e (kfa (lexT n t p)))
        else if kIs (lexT n t p) 40 = true then
          andT (pEx n t f 4 (dp + 1) (nxT n t p) prOut) (fun r => if kIs (lexT n t (rpo r)) 41 = true then prOk (nxT n t (rpo r)) (rcc r) (28 :: (rrc r ++ [29])) (rfv r) else prFl (fltC n t 1 (rpo r)))
        else andT (pEx n t f 0 (dp + 1) (nxT n t p) prOut) (fun r => prOk (rpo r) (rcc r ++ [-5]) (30 :: rrc r) (fun e => if rfv r e = 0 then 1 else 0)))
      else prFl (fltC n t 1 p))
    else if lvl = 1 then andT (pEx n t f 0 dp p prOut) (fun r => pEx n t f 5 dp (rpo r) r)
    else if lvl = 5 then
      (if kIs (lexT n t p) 42 = true then andT (pEx n t f 0 dp (nxT n t p) prOut) (fun r => pEx n t f 5 dp (rpo r) (prOk (rpo r) (rcc acc ++ (rcc r ++ [-12])) (rrc acc ++ (22 :: rrc r)) (jnF (-12) (rfv acc) (rfv r))))
      else prOk p (rcc acc) (rrc acc) (rfv acc))
    else if lvl = 2 then andT (pEx n t f 1 dp p prOut) (fun r => pEx n t f 6 dp (rpo r) r)
    else if lvl = 6 then
      (if kIs (lexT n t p) 43 = true then andT (pEx n t f 1 dp (nxT n t p) prOut) (fun r => pEx n t f 6 dp (rpo r) (prOk (rpo r) (rcc acc ++ (rcc r ++ [-10])) (rrc acc ++ (20 :: rrc r)) (jnF (-10) (rfv acc) (rfv r))))
      else if kIs (lexT n t p) 45 = true then andT (pEx n t f 1 dp (nxT n t p) prOut) (fun r => pEx n t f 6 dp (rpo r) (prOk (rpo r) (rcc acc ++ (rcc r ++ [-11])) (rrc acc ++ (21 :: rrc r)) (jnF (-11) (rfv acc) (rfv r))))
      else prOk p (rcc acc) (rrc acc) (rfv acc))
    else if lvl = 3 then
      andT (pEx n t f 2 dp p prOut) (fun a =>
        if kIs (lexT n t (rpo a)) 60 = true then andT (pEx n t f 2 dp (nxT n t (rpo a)) prOut) (fun r => prOk (rpo r) (rcc a ++ (rcc r ++ [-8])) (rrc a ++ (24 :: rrc r)) (jnF (-8) (rfv a) (rfv r)))
        else if kIs (lexT n t (rpo a)) 61 = true then andT (pEx n t f 2 dp (nxT n t (rpo a)) prOut) (fun r => prOk (rpo r) (rcc a ++ (rcc r ++ [-9])) (rrc a ++ (25 :: rrc r)) (jnF (-9) (rfv a) (rfv r)))
        else a)
    else if lvl = 4 then andT (pEx n t f 3 dp p prOut) (fun r => pEx n t f 7 dp (rpo r) r)
    else
      (if kW (lexT n t p) 15 = true then andT (pEx n t f 3 dp (nxT n t p) prOut) (fun r => pEx n t f 7 dp (rpo r) (prOk (rpo r) (rcc acc ++ (rcc r ++ [-6])) (rrc acc ++ (26 :: rrc r)) (jnF (-6) (rfv acc) (rfv r))))
      else if kW (lexT n t p) 16 = true then andT (pEx n t f 3 dp (nxT n t p) prOut) (fun r => pEx n t f 7 dp (rpo r) (prOk (rpo r) (rcc acc ++ (rcc r ++ [-7])) (rrc acc ++ (27 :: rrc r)) (jnF (-7) (rfv acc) (rfv r))))
      else prOk p (rcc acc) (rrc acc) (rfv acc))
section PARSE
variable {n : Nat} {t : Nat → Nat}
theorem lexT_at {p : Nat} (h : p ≤ n) : p ≤ kat (lexT n t p) ∧ kat (lexT n t p) ≤ n := by
  unfold lexT
  rw [lexA_at]
  have := skipB_le t (n - p) p
  omega
theorem nxT_le {p : Nat} (h : p ≤ n) : p ≤ nxT n t p ∧ nxT n t p ≤ n ∧ (kty (lexT n t p) ≠ 0 → p < nxT n t p) ∧ kat (lexT n t p) ≤ nxT n t p := by
  have h1 := skipB_le t (n - p) p
  have h2 := lexA_en (t := t) (show skipB t (n - p) p ≤ n by omega)
  have h3 := lexA_ty (n := n) (t := t) (a := skipB t (n - p) p)
  have h4 := lexT_at (t := t) h
  unfold nxT
  have e : kat (lexT n t p) = skipB t (n - p) p := by unfold lexT; rw [lexA_at]
  rw [e] at h4 ⊢
  unfold lexT
  refine ⟨by omega, by omega, fun hz => ?_, by omega⟩
  have : skipB t (n - p) p < n := by
    rcases Nat.lt_or_ge (skipB t (n - p) p) n with q | q
    · exact q
    · exact absurd (h3.2.mpr q) hz
  have := h2.2.2 this
  omega
theorem kIs_ty {K : TK} {x : Nat} (h : kIs K x = true) : kty K = 3 := by
  unfold kIs at h
  simp only [Bool.and_eq_true, decide_eq_true_eq] at h
  exact h.1
theorem kW_ty {K : TK} {x : Nat} (h : kW K x = true) : kty K = 1 := by
  unfold kW at h
  simp only [Bool.and_eq_true, decide_eq_true_eq] at h
  exact h.1
theorem kfa_ty {K : TK} (h : kfa K ≠ 0) : kty K = 1 := by
  unfold kfa at h
  by_cases a : kW K 17 = true
  · exact kW_ty a
  · by_cases b : kW K 18 = true
    · exact kW_ty b
    · by_cases c : kW K 19 = true
      · exact kW_ty c
      · by_cases e : kW K 20 = true
        · exact kW_ty e
        · rw [if_neg a, if_neg b, if_neg c, if_neg e] at h
          exact absurd rfl h
theorem kfa_le {K : TK} : kfa K ≤ 4 := by unfold kfa; repeat (first | split | omega)
theorem andT_0 {r : PRs} {k : PRs → PRs} (h : rst (andT r k) = 0) : rst r = 0 ∧ andT r k = k r := by
  unfold andT at h ⊢
  by_cases q : rst r = 0
  · rw [if_pos q]; exact ⟨q, rfl⟩
  · rw [if_neg q] at h; exact absurd h q
theorem andT_n {r : PRs} {k : PRs → PRs} (h : rst (andT r k) ≠ 2) : rst r ≠ 2 := by
  unfold andT at h
  by_cases q : rst r = 0
  · omega
  · rw [if_neg q] at h; exact h
theorem andT_e {r : PRs} {k : PRs → PRs} (h : rst r = 0) : andT r k = k r := if_pos h
theorem andT_f {r : PRs} {k : PRs → PRs} (h : rst r ≠ 0) : andT r k = r := if_neg h
/-- how far reading goes; how many steps there are -/
theorem pEx_len : ∀ f lvl dp p acc, p ≤ n → rst (pEx n t f lvl dp p acc) = 0 → p ≤ rpo (pEx n t f lvl dp p acc) ∧ rpo (pEx n t f lvl dp p acc) ≤ n ∧ (rcc (pEx n t f lvl dp p acc)).length + p ≤ (if 5 ≤ lvl then (rcc acc).length else 0) + rpo (pEx n t f lvl dp p acc) ∧ (lvl < 5 → p < rpo (pEx n t f lvl dp p acc)) := by
  intro f
  induction f with
  | zero => intro lvl dp p acc hp h; exact absurd (show (2 : Nat) = 0 from h) (by decide)
  | succ f ih =>
    intro lvl dp p acc hp h
    have hnx := nxT_le (t := t) hp
    -- a tail's step
    have tail : ∀ (l1 l2 : Nat) (c : Int32) (rc : List Int32) (ff : PRs → (Nat → Int32) → Int32), l1 < 5 → 5 ≤ l2 → kty (lexT n t p) ≠ 0 → 5 ≤ lvl → rst (andT (pEx n t f l1 dp (nxT n t p) prOut) (fun r => pEx n t f l2 dp (rpo r) (prOk (rpo r) (rcc acc ++ (rcc r ++ [c])) (rrc acc ++ (rc ++ rrc r)) (ff r)))) = 0 → p ≤ rpo (andT (pEx n t f l1 dp (nxT n t p) prOut) (fun r => pEx n t f l2 dp (rpo r) (prOk (rpo r) (rcc acc ++ (rcc r ++ [c])) (rrc acc ++ (rc ++ rrc r)) (ff r)))) ∧ rpo (andT (pEx n t f l1 dp (nxT n t p) prOut) (fun r => pEx n t f l2 dp (rpo r) (prOk (rpo r) (rcc acc ++ (rcc r ++ [c])) (rrc acc ++ (rc ++ rrc r)) (ff r)))) ≤ n ∧ (rcc (andT (pEx n t f l1 dp (nxT n t p) prOut) (fun r => pEx n t f l2 dp (rpo r) (prOk (rpo r) (rcc acc ++ (rcc r ++ [c])) (rrc acc ++ (rc ++ rrc r)) (ff r))))).length + p ≤ (if 5 ≤ lvl then (rcc acc).length else 0) + rpo (andT (pEx n t f l1 dp (nxT n t p) prOut) (fun r => pEx n t f l2 dp (rpo r) (prOk (rpo r) (rcc acc ++ (rcc r ++ [c])) (rrc acc ++ (rc ++ rrc r)) (ff r)))) ∧ (lvl < 5 → p < rpo (andT (pEx n t f l1 dp (nxT n t p) prOut) (fun r => pEx n t f l2 dp (rpo r) (prOk (rpo r) (rcc acc ++ (rcc r ++ [c])) (rrc acc ++ (rc ++ rrc r)) (ff r))))) := by
      intro l1 l2 c rc ff h1 h2 hk h5 h
      obtain ⟨g1, g2⟩ := andT_0 h
      rw [g2] at h ⊢
      have i1 := ih l1 dp (nxT n t p) prOut hnx.2.1 g1
      have i2 := ih l2 dp _ _ i1.2.1 h
      rw [if_neg (by omega)] at i1
      rw [if_pos h2] at i2
      rw [if_pos h5]
      have hlt := hnx.2.2.1 hk
      have e : (rcc (prOk (rpo (pEx n t f l1 dp (nxT n t p) prOut)) (rcc acc ++ (rcc (pEx n t f l1 dp (nxT n t p) prOut) ++ [c])) (rrc acc ++ (rc ++ rrc (pEx n t f l1 dp (nxT n t p) prOut))) (ff (pEx n t f l1 dp (nxT n t p) prOut)))).length = (rcc acc).length + ((rcc (pEx n t f l1 dp (nxT n t p) prOut)).length + 1) := by
        show (rcc acc ++ (rcc (pEx n t f l1 dp (nxT n t p) prOut) ++ [c])).length = _
        simp
      rw [e] at i2
      refine ⟨by omega, by omega, by omega, fun z => by omega⟩
    have stop : 5 ≤ lvl → p ≤ rpo (prOk p (rcc acc) (rrc acc) (rfv acc)) ∧ rpo (prOk p (rcc acc) (rrc acc) (rfv acc)) ≤ n ∧ (rcc (prOk p (rcc acc) (rrc acc) (rfv acc))).length + p ≤ (if 5 ≤ lvl then (rcc acc).length else 0) + rpo (prOk p (rcc acc) (rrc acc) (rfv acc)) ∧ (lvl < 5 → p < rpo (prOk p (rcc acc) (rrc acc) (rfv acc))) := fun h5 => by
      rw [if_pos h5]
      exact ⟨Nat.le_refl _, hp, Nat.le_refl _, fun z => absurd z (by omega)⟩
    -- first, then its tail
    have first : ∀ (l1 l2 : Nat), l1 < 5 → 5 ≤ l2 → lvl < 5 → rst (andT (pEx n t f l1 dp p prOut) (fun r => pEx n t f l2 dp (rpo r) r)) = 0 → p ≤ rpo (andT (pEx n t f l1 dp p prOut) (fun r => pEx n t f l2 dp (rpo r) r)) ∧ rpo (andT (pEx n t f l1 dp p prOut) (fun r => pEx n t f l2 dp (rpo r) r)) ≤ n ∧ (rcc (andT (pEx n t f l1 dp p prOut) (fun r => pEx n t f l2 dp (rpo r) r))).length + p ≤ (if 5 ≤ lvl then (rcc acc).length else 0) + rpo (andT (pEx n t f l1 dp p prOut) (fun r => pEx n t f l2 dp (rpo r) r)) ∧ (lvl < 5 → p < rpo (andT (pEx n t f l1 dp p prOut) (fun r => pEx n t f l2 dp (rpo r) r))) := by
      intro l1 l2 h1 h2 h5 h
      obtain ⟨g1, g2⟩ := andT_0 h
      rw [g2] at h ⊢
      have i1 := ih l1 dp p prOut hp g1
      have i2 := ih l2 dp _ _ i1.2.1 h
      rw [if_neg (by omega)] at i1
      rw [if_pos h2] at i2
      rw [if_neg (by omega)]
      have := i1.2.2.2 h1
      refine ⟨by omega, by omega, by omega, fun z => by omega⟩
    unfold pEx at h ⊢
    by_cases l0 : lvl = 0
    · rw [if_pos l0] at h ⊢
      rw [if_neg (show ¬ 5 ≤ lvl by omega)]
      by_cases c1 : kty (lexT n t p) = 2 ∨ kfa (lexT n t p) ≠ 0 ∨ kIs (lexT n t p) 40 = true ∨ kW (lexT n t p) 14 = true
      · have hk : kty (lexT n t p) ≠ 0 := by
          rcases c1 with q | q | q | q
          · omega
          · have := kfa_ty q; omega
          · have := kIs_ty q; omega
          · have := kW_ty q; omega
        have hlt := hnx.2.2.1 hk
        rw [if_pos c1] at h ⊢
        by_cases c2 : 5 ≤ dp
        · rw [if_pos c2] at h; exact absurd (show (1 : Nat) = 0 from h) (by decide)
        · rw [if_neg c2] at h ⊢
          by_cases c3 : kty (lexT n t p) = 2
          · rw [if_pos c3]
            show p ≤ nxT n t p ∧ nxT n t p ≤ n ∧ 1 + p ≤ 0 + nxT n t p ∧ (lvl < 5 → p < nxT n t p)
            refine ⟨by omega, by omega, by omega, fun _ => hlt⟩
          · rw [if_neg c3] at h ⊢
            by_cases c4 : kfa (lexT n t p) ≠ 0
            · rw [if_pos c4]
              show p ≤ nxT n t p ∧ nxT n t p ≤ n ∧ 1 + p ≤ 0 + nxT n t p ∧ (lvl < 5 → p < nxT n t p)
              refine ⟨by omega, by omega, by omega, fun _ => hlt⟩
            · rw [if_neg c4] at h ⊢
              by_cases c5 : kIs (lexT n t p) 40 = true
              · rw [if_pos c5] at h ⊢
                obtain ⟨g1, g2⟩ := andT_0 h
                rw [g2] at h ⊢
                have i1 := ih 4 (dp + 1) (nxT n t p) prOut hnx.2.1 g1
                rw [if_neg (by omega)] at i1
                by_cases c6 : kIs (lexT n t (rpo (pEx n t f 4 (dp + 1) (nxT n t p) prOut))) 41 = true
                · have hn2 := nxT_le (t := t) i1.2.1
                  rw [if_pos c6]
                  show p ≤ nxT n t _ ∧ nxT n t _ ≤ n ∧ (rcc (pEx n t f 4 (dp + 1) (nxT n t p) prOut)).length + p ≤ 0 + nxT n t _ ∧ (lvl < 5 → p < nxT n t _)
                  refine ⟨by omega, by omega, by omega, fun _ => by omega⟩
                · rw [if_neg c6] at h; exact absurd (show (1 : Nat) = 0 from h) (by decide)
              · rw [if_neg c5] at h ⊢
                obtain ⟨g1, g2⟩ := andT_0 h
                rw [g2]
                have i1 := ih 0 (dp + 1) (nxT n t p) prOut hnx.2.1 g1
                rw [if_neg (by omega)] at i1
                show p ≤ rpo (pEx n t f 0 (dp + 1) (nxT n t p) prOut) ∧ rpo (pEx n t f 0 (dp + 1) (nxT n t p) prOut) ≤ n ∧ (rcc (pEx n t f 0 (dp + 1) (nxT n t p) prOut) ++ [-5]).length + p ≤ 0 + rpo (pEx n t f 0 (dp + 1) (nxT n t p) prOut) ∧ (lvl < 5 → p < rpo (pEx n t f 0 (dp + 1) (nxT n t p) prOut))
                rw [List.length_append, List.length_singleton]
                refine ⟨by omega, by omega, by omega, fun _ => by omega⟩
      · rw [if_neg c1] at h; exact absurd (show (1 : Nat) = 0 from h) (by decide)
    · rw [if_neg l0] at h ⊢
      by_cases l1 : lvl = 1
      · rw [if_pos l1] at h ⊢; exact first 0 5 (by omega) (by omega) (by omega) h
      · rw [if_neg l1] at h ⊢
        by_cases l5 : lvl = 5
        · rw [if_pos l5] at h ⊢
          by_cases c : kIs (lexT n t p) 42 = true
          · rw [if_pos c] at h ⊢
            exact tail 0 5 (-12) [22] _ (by omega) (by omega) (by rw [kIs_ty c]; decide) (by omega) h
          · rw [if_neg c]; exact stop (by omega)
        · rw [if_neg l5] at h ⊢
          by_cases l2 : lvl = 2
          · rw [if_pos l2] at h ⊢; exact first 1 6 (by omega) (by omega) (by omega) h
          · rw [if_neg l2] at h ⊢
            by_cases l6 : lvl = 6
            · rw [if_pos l6] at h ⊢
              by_cases c : kIs (lexT n t p) 43 = true
              · rw [if_pos c] at h ⊢
                exact tail 1 6 (-10) [20] _ (by omega) (by omega) (by rw [kIs_ty c]; decide) (by omega) h
              · rw [if_neg c] at h ⊢
                by_cases c : kIs (lexT n t p) 45 = true
                · rw [if_pos c] at h ⊢
                  exact tail 1 6 (-11) [21] _ (by omega) (by omega) (by rw [kIs_ty c]; decide) (by omega) h
                · rw [if_neg c]; exact stop (by omega)
            · rw [if_neg l6] at h ⊢
              by_cases l3 : lvl = 3
              · rw [if_pos l3] at h ⊢
                rw [if_neg (show ¬ 5 ≤ lvl by omega)]
                obtain ⟨g1, g2⟩ := andT_0 h
                rw [g2] at h ⊢
                have i1 := ih 2 dp p prOut hp g1
                rw [if_neg (by omega)] at i1
                generalize pEx n t f 2 dp p prOut = a at i1 h ⊢
                have hn2 := nxT_le (t := t) i1.2.1
                have i14 := i1.2.2.2 (by omega)
                have two : ∀ (c : Int32) (rc : List Int32) (ff : PRs → (Nat → Int32) → Int32), rst (andT (pEx n t f 2 dp (nxT n t (rpo a)) prOut) (fun r => prOk (rpo r) (rcc a ++ (rcc r ++ [c])) (rrc a ++ (rc ++ rrc r)) (ff r))) = 0 → kty (lexT n t (rpo a)) ≠ 0 → p ≤ rpo (andT (pEx n t f 2 dp (nxT n t (rpo a)) prOut) (fun r => prOk (rpo r) (rcc a ++ (rcc r ++ [c])) (rrc a ++ (rc ++ rrc r)) (ff r))) ∧ rpo (andT (pEx n t f 2 dp (nxT n t (rpo a)) prOut) (fun r => prOk (rpo r) (rcc a ++ (rcc r ++ [c])) (rrc a ++ (rc ++ rrc r)) (ff r))) ≤ n ∧ (rcc (andT (pEx n t f 2 dp (nxT n t (rpo a)) prOut) (fun r => prOk (rpo r) (rcc a ++ (rcc r ++ [c])) (rrc a ++ (rc ++ rrc r)) (ff r)))).length + p ≤ 0 + rpo (andT (pEx n t f 2 dp (nxT n t (rpo a)) prOut) (fun r => prOk (rpo r) (rcc a ++ (rcc r ++ [c])) (rrc a ++ (rc ++ rrc r)) (ff r))) ∧ (lvl < 5 → p < rpo (andT (pEx n t f 2 dp (nxT n t (rpo a)) prOut) (fun r => prOk (rpo r) (rcc a ++ (rcc r ++ [c])) (rrc a ++ (rc ++ rrc r)) (ff r)))) := by
                  intro c rc ff h hk
                  obtain ⟨g1, g2⟩ := andT_0 h
                  rw [g2]
                  have i2 := ih 2 dp (nxT n t (rpo a)) prOut hn2.2.1 g1
                  rw [if_neg (by omega)] at i2
                  have := hn2.2.2.1 hk
                  show p ≤ rpo (pEx n t f 2 dp (nxT n t (rpo a)) prOut) ∧ rpo (pEx n t f 2 dp (nxT n t (rpo a)) prOut) ≤ n ∧ (rcc a ++ (rcc (pEx n t f 2 dp (nxT n t (rpo a)) prOut) ++ [c])).length + p ≤ 0 + rpo (pEx n t f 2 dp (nxT n t (rpo a)) prOut) ∧ (lvl < 5 → p < rpo (pEx n t f 2 dp (nxT n t (rpo a)) prOut))
                  rw [List.length_append, List.length_append, List.length_singleton]
                  refine ⟨by omega, by omega, by omega, fun _ => by omega⟩
                by_cases c : kIs (lexT n t (rpo a)) 60 = true
                · rw [if_pos c] at h ⊢; exact two (-8) [24] _ h (by rw [kIs_ty c]; decide)
                · rw [if_neg c] at h ⊢
                  by_cases c : kIs (lexT n t (rpo a)) 61 = true
                  · rw [if_pos c] at h ⊢; exact two (-9) [25] _ h (by rw [kIs_ty c]; decide)
                  · rw [if_neg c]
                    exact ⟨i1.1, i1.2.1, i1.2.2.1, fun _ => i14⟩
              · rw [if_neg l3] at h ⊢
                by_cases l4 : lvl = 4
                · rw [if_pos l4] at h ⊢; exact first 3 7 (by omega) (by omega) (by omega) h
                · rw [if_neg l4] at h ⊢
                  by_cases c : kW (lexT n t p) 15 = true
                  · rw [if_pos c] at h ⊢
                    exact tail 3 7 (-6) [26] _ (by omega) (by omega) (by rw [kW_ty c]; decide) (by omega) h
                  · rw [if_neg c] at h ⊢
                    by_cases c : kW (lexT n t p) 16 = true
                    · rw [if_pos c] at h ⊢
                      exact tail 3 7 (-7) [27] _ (by omega) (by omega) (by rw [kW_ty c]; decide) (by omega) h
                    · rw [if_neg c]; exact stop (by omega)
end PARSE
