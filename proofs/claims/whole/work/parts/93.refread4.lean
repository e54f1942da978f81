/-! ===== the reference reads a law: whole ===== -/
abbrev atR (g : GG) (d dp : Nat) (w : Int32) (M : MM) (P : Option Value → MM → Prop) : Prop := E0 g YX12_reads d 11 [(0, .ref 130), (1, .int (nI dp)), (2, .int w)] [] M P
/-- alike, but for the comparison at the depth itself -/
def AgL (dp : Nat) (M M2 : MM) : Prop := ∀ j, j ≤ dp → mi M2 142 j = mi M 142 j ∧ (j ≠ dp → mi M2 143 j = mi M 143 j)
theorem AgR.l {dp : Nat} {M M2 : MM} (h : AgR dp M M2) : AgL dp M M2 := fun j hj => ⟨(h j hj).1, fun _ => (h j hj).2⟩
theorem AgL.trans {dp : Nat} {M M1 M2 : MM} (h : AgL dp M M1) (h2 : AgL dp M1 M2) : AgL dp M M2 := fun j hj => ⟨(h2 j hj).1.trans (h j hj).1, fun e => ((h2 j hj).2 e).trans ((h j hj).2 e)⟩
theorem AgL.pop {dp : Nat} {M M2 : MM} (h : AgL dp M M2) (q : popD (mi M 142) dp = dp) : popD (mi M2 142) dp = dp := (popD_cong dp (fun j hj => (h j hj).1)).trans q
theorem AgR.pop {dp : Nat} {M M2 : MM} (h : AgR dp M M2) (q : popD (mi M 142) dp = dp) : popD (mi M2 142) dp = dp := h.l.pop q
def CmR (n : Nat) (t : Nat → Nat) (dp p : Nat) (M : MM) : Prop := mi M 143 dp = 0 → ¬ kIs (lexT n t p) 60 = true ∧ ¬ kIs (lexT n t p) 61 = true
section RD3
variable {g : GG} {d : Nat} {B M : MM} {la lb pa pb0 rl n p b0 dp : Nat} {t : Nat → Nat} {out : List Int32} {P : Option Value → MM → Prop}
theorem kIs_kW {K : TK} {x i : Nat} (h : kIs K x = true) (h2 : kW K i = true) : False := by
  have a := kIs_ty h
  have b := kW_ty h2
  omega
theorem rd_op {x : Nat} {c : Int32} (h : RX la lb pa pb0 rl n t b0 B M p p out) (h5 : dp ≤ 5) (hd : 2 ≤ d) (hx : kIs (lexT n t p) x = true) (hc : (x = 43 ∧ c = 20) ∨ (x = 45 ∧ c = 21) ∨ (x = 42 ∧ c = 22))
    (k : ∀ M2, RX la lb pa pb0 rl n t b0 B M2 (nxT n t p) (nxT n t p) (out ++ [c]) → SmR M M2 → atR g d dp 1 M2 P) : atR g d dp 0 M P := by
  have no : ∀ y, y ≠ x → ¬ kIs (lexT n t p) y = true := fun y hy z => hy (kIs_one z hx)
  refine rd_wf h h5 hd (fun c' hc' M2 h2 s2 => ?_) (fun _ c' hc' => ?_) (fun c' hc' => ?_) (fun z => absurd z (no 41 (by omega))) (fun _ z => absurd z (no 59 (by omega))) (fun a1 a2 a3 => ?_)
  · have e : c' = c := by
      rcases hc' with z | z | z
      · have := kIs_one z.1 hx
        rcases hc with w | w | w <;> first | exact z.2.trans w.2.symm | omega
      · have := kIs_one z.1 hx
        rcases hc with w | w | w <;> first | exact z.2.trans w.2.symm | omega
      · have := kIs_one z.1 hx
        rcases hc with w | w | w <;> first | exact z.2.trans w.2.symm | omega
    rw [e] at h2
    exact k M2 h2 s2
  · rcases hc' with z | z
    · exact absurd z.1 (no 60 (by omega))
    · exact absurd z.1 (no 61 (by omega))
  · rcases hc' with z | z
    · exact (kIs_kW hx z.1).elim
    · exact (kIs_kW hx z.1).elim
  · rcases hc with w | w | w
    · rw [w.1] at hx; exact absurd hx a1
    · rw [w.1] at hx; exact absurd hx a2
    · rw [w.1] at hx; exact absurd hx a3
theorem rd_cm {x : Nat} {c : Int32} (h : RX la lb pa pb0 rl n t b0 B M p p out) (h5 : dp ≤ 5) (hd : 2 ≤ d) (h0 : mi M 143 dp = 0) (hx : kIs (lexT n t p) x = true) (hc : (x = 60 ∧ c = 24) ∨ (x = 61 ∧ c = 25))
    (k : ∀ M2, RX la lb pa pb0 rl n t b0 B M2 (nxT n t p) (nxT n t p) (out ++ [c]) → AgL dp M M2 → mi M2 143 dp = 1 → atR g d dp 1 M2 P) : atR g d dp 0 M P := by
  have no : ∀ y, y ≠ x → ¬ kIs (lexT n t p) y = true := fun y hy z => hy (kIs_one z hx)
  refine rd_wf h h5 hd (fun c' hc' => ?_) (fun _ c' hc' M2 h2 s2 => ?_) (fun c' hc' => ?_) (fun z => absurd z (no 41 (by omega))) (fun _ z => absurd z (no 59 (by omega))) (fun _ _ _ a4 => ?_)
  · rcases hc' with z | z | z
    · exact absurd z.1 (no 43 (by omega))
    · exact absurd z.1 (no 45 (by omega))
    · exact absurd z.1 (no 42 (by omega))
  · have e : c' = c := by
      rcases hc' with z | z
      · have := kIs_one z.1 hx
        rcases hc with w | w <;> first | exact z.2.trans w.2.symm | omega
      · have := kIs_one z.1 hx
        rcases hc with w | w <;> first | exact z.2.trans w.2.symm | omega
    rw [e] at h2
    refine k M2 h2 (fun j hj => ⟨(s2 j).1, fun e => ?_⟩) ?_
    · rw [(s2 j).2, if_neg e]
    · rw [(s2 dp).2, if_pos rfl]
  · rcases hc' with z | z
    · exact (kIs_kW hx z.1).elim
    · exact (kIs_kW hx z.1).elim
  · rcases hc with w | w
    · rw [w.1] at hx; exact absurd hx (a4 h0).1
    · rw [w.1] at hx; exact absurd hx (a4 h0).2
theorem rd_jn {i : Nat} {c : Int32} (h : RX la lb pa pb0 rl n t b0 B M p p out) (h5 : dp ≤ 5) (hd : 2 ≤ d) (hx : kW (lexT n t p) i = true) (hc : (i = 15 ∧ c = 26) ∨ (i = 16 ∧ c = 27))
    (k : ∀ M2, RX la lb pa pb0 rl n t b0 B M2 (nxT n t p) (nxT n t p) (out ++ [c]) → AgL dp M M2 → mi M2 143 dp = 0 → atR g d dp 1 M2 P) : atR g d dp 0 M P := by
  have no : ∀ y, ¬ kIs (lexT n t p) y = true := fun y z => kIs_kW z hx
  refine rd_wf h h5 hd (fun c' hc' => ?_) (fun _ c' hc' => ?_) (fun c' hc' M2 h2 s2 => ?_) (fun z => absurd z (no 41)) (fun _ z => absurd z (no 59)) (fun _ _ _ _ a5 a6 => ?_)
  · rcases hc' with z | z | z
    · exact absurd z.1 (no 43)
    · exact absurd z.1 (no 45)
    · exact absurd z.1 (no 42)
  · rcases hc' with z | z
    · exact absurd z.1 (no 60)
    · exact absurd z.1 (no 61)
  · have e : c' = c := by
      rcases hc' with z | z
      · have := kW_one (by omega) (by omega) z.1 hx
        rcases hc with w | w <;> first | exact z.2.trans w.2.symm | omega
      · have := kW_one (by omega) (by omega) z.1 hx
        rcases hc with w | w <;> first | exact z.2.trans w.2.symm | omega
    rw [e] at h2
    refine k M2 h2 (fun j hj => ⟨(s2 j).1, fun e => ?_⟩) ?_
    · rw [(s2 j).2, if_neg e]
    · rw [(s2 dp).2, if_pos rfl]
  · rcases hc with w | w
    · rw [w.1] at hx; exact absurd hx a5
    · rw [w.1] at hx; exact absurd hx a6
/-- where an expression has ended -/
theorem rd_en (h : RX la lb pa pb0 rl n t b0 B M p p out) (h5 : dp ≤ 5) (hd : 2 ≤ d) (he : NoE (lexT n t p)) (hc : CmR n t dp p M)
    (kCl : kIs (lexT n t p) 41 = true → 0 < dp → ∀ M2, RX la lb pa pb0 rl n t b0 B M2 (nxT n t p) (nxT n t p) (out ++ [29]) → SmR M M2 → atR g d (popD (mi M 142) (dp - 1)) 0 M2 P)
    (kEn : dp = 0 → kIs (lexT n t p) 59 = true → ∀ M2, RX la lb pa pb0 rl n t b0 B M2 (nxT n t p) (nxT n t p) out → P (some (.int 1)) M2)
    (kFl : ¬ (kIs (lexT n t p) 41 = true ∧ 0 < dp) → ¬ (dp = 0 ∧ kIs (lexT n t p) 59 = true) → ∀ M2, FlX la lb pa pb0 rl b0 B M2 (fltC n t 1 p) → P (some (.int 0)) M2) : atR g d dp 0 M P := by
  refine rd_wf h h5 hd (fun c' hc' => ?_) (fun h0 c' hc' => ?_) (fun c' hc' => ?_) kCl kEn (fun _ _ _ _ _ _ a b => kFl a b)
  · rcases hc' with z | z | z
    · exact absurd z.1 he.1.2.1
    · exact absurd z.1 he.1.2.2
    · exact absurd z.1 he.1.1
  · rcases hc' with z | z
    · exact absurd z.1 (hc h0).1
    · exact absurd z.1 (hc h0).2
  · rcases hc' with z | z
    · exact absurd z.1 he.2.1
    · exact absurd z.1 he.2.2
end RD3
section RD4
variable (g : GG) (la lb pa pb0 rl n : Nat) (t : Nat → Nat) (b0 : Nat) (B : MM)
def RBad (P : Option Value → MM → Prop) (r : PRs) : Prop := rst r = 1 → ∀ M2, FlX la lb pa pb0 rl b0 B M2 (rfa r) → P (some (.int 0)) M2
def RS0 (f : Nat) : Prop := ∀ dp p out M d (P : Option Value → MM → Prop), dp ≤ 5 → RX la lb pa pb0 rl n t b0 B M p p out → 2 ≤ d → rst (pEx n t f 0 dp p prOut) ≠ 2 → (rst (pEx n t f 0 dp p prOut) = 0 → ∀ M2, RX la lb pa pb0 rl n t b0 B M2 (rpo (pEx n t f 0 dp p prOut)) (rpo (pEx n t f 0 dp p prOut)) (out ++ rrc (pEx n t f 0 dp p prOut)) → AgR dp M M2 → atR g d (popD (mi M 142) dp) 0 M2 P) → RBad la lb pa pb0 rl b0 B P (pEx n t f 0 dp p prOut) → atR g d dp 1 M P
def RSn (lvl f : Nat) : Prop := ∀ dp p out M d (P : Option Value → MM → Prop), dp ≤ 5 → RX la lb pa pb0 rl n t b0 B M p p out → 2 ≤ d → popD (mi M 142) dp = dp → rst (pEx n t f lvl dp p prOut) ≠ 2 → (rst (pEx n t f lvl dp p prOut) = 0 → ∀ M2, RX la lb pa pb0 rl n t b0 B M2 (rpo (pEx n t f lvl dp p prOut)) (rpo (pEx n t f lvl dp p prOut)) (out ++ rrc (pEx n t f lvl dp p prOut)) → AgR dp M M2 → atR g d dp 0 M2 P) → RBad la lb pa pb0 rl b0 B P (pEx n t f lvl dp p prOut) → atR g d dp 1 M P
def RTn (lvl f : Nat) : Prop := ∀ dp p acc out M d (P : Option Value → MM → Prop), dp ≤ 5 → RX la lb pa pb0 rl n t b0 B M p p (out ++ rrc acc) → 2 ≤ d → popD (mi M 142) dp = dp → rst (pEx n t f lvl dp p acc) ≠ 2 → (rst (pEx n t f lvl dp p acc) = 0 → ∀ M2, RX la lb pa pb0 rl n t b0 B M2 (rpo (pEx n t f lvl dp p acc)) (rpo (pEx n t f lvl dp p acc)) (out ++ rrc (pEx n t f lvl dp p acc)) → AgR dp M M2 → atR g d dp 0 M2 P) → RBad la lb pa pb0 rl b0 B P (pEx n t f lvl dp p acc) → atR g d dp 0 M P
def RSc (lvl f : Nat) : Prop := ∀ dp p out M d (P : Option Value → MM → Prop), dp ≤ 5 → RX la lb pa pb0 rl n t b0 B M p p out → 2 ≤ d → popD (mi M 142) dp = dp → mi M 143 dp = 0 → rst (pEx n t f lvl dp p prOut) ≠ 2 → (rst (pEx n t f lvl dp p prOut) = 0 → ∀ M2, RX la lb pa pb0 rl n t b0 B M2 (rpo (pEx n t f lvl dp p prOut)) (rpo (pEx n t f lvl dp p prOut)) (out ++ rrc (pEx n t f lvl dp p prOut)) → AgL dp M M2 → CmR n t dp (rpo (pEx n t f lvl dp p prOut)) M2 → atR g d dp 0 M2 P) → RBad la lb pa pb0 rl b0 B P (pEx n t f lvl dp p prOut) → atR g d dp 1 M P
def RTc (f : Nat) : Prop := ∀ dp p acc out M d (P : Option Value → MM → Prop), dp ≤ 5 → RX la lb pa pb0 rl n t b0 B M p p (out ++ rrc acc) → 2 ≤ d → popD (mi M 142) dp = dp → CmR n t dp p M → rst (pEx n t f 7 dp p acc) ≠ 2 → (rst (pEx n t f 7 dp p acc) = 0 → ∀ M2, RX la lb pa pb0 rl n t b0 B M2 (rpo (pEx n t f 7 dp p acc)) (rpo (pEx n t f 7 dp p acc)) (out ++ rrc (pEx n t f 7 dp p acc)) → AgL dp M M2 → CmR n t dp (rpo (pEx n t f 7 dp p acc)) M2 → atR g d dp 0 M2 P) → RBad la lb pa pb0 rl b0 B P (pEx n t f 7 dp p acc) → atR g d dp 0 M P
end RD4
section RD5
variable {g : GG} {B : MM} {la lb pa pb0 rl n b0 f : Nat} {t : Nat → Nat}
theorem app3 (out a b : List Int32) (c : Int32) : out ++ a ++ [c] ++ b = out ++ (a ++ c :: b) := by simp
theorem bad1 {P : Option Value → MM → Prop} {r : PRs} {k : PRs → PRs} (hb : RBad la lb pa pb0 rl b0 B P (andT r k)) : RBad la lb pa pb0 rl b0 B P r := fun h => by
  rw [andT_f (by omega)] at hb
  exact hb h
theorem rS_1 (h0 : RS0 g la lb pa pb0 rl n t b0 B f) (h5 : RTn g la lb pa pb0 rl n t b0 B 5 f) : RSn g la lb pa pb0 rl n t b0 B 1 (f + 1) := by
  intro dp p out M d P hdp h hd hp hne good bad
  rw [pEx_1] at hne good bad
  refine h0 dp p out M d P hdp h hd (andT_n hne) (fun q M2 h2 a2 => ?_) (bad1 bad)
  rw [andT_e q] at hne good bad
  rw [hp]
  exact h5 dp _ _ out M2 d P hdp h2 hd (a2.pop hp) hne (fun q3 M3 h3 a3 => good q3 M3 h3 (a2.trans a3)) bad
theorem rS_2 (h1 : RSn g la lb pa pb0 rl n t b0 B 1 f) (h6 : RTn g la lb pa pb0 rl n t b0 B 6 f) : RSn g la lb pa pb0 rl n t b0 B 2 (f + 1) := by
  intro dp p out M d P hdp h hd hp hne good bad
  rw [pEx_2] at hne good bad
  refine h1 dp p out M d P hdp h hd hp (andT_n hne) (fun q M2 h2 a2 => ?_) (bad1 bad)
  rw [andT_e q] at hne good bad
  exact h6 dp _ _ out M2 d P hdp h2 hd (a2.pop hp) hne (fun q3 M3 h3 a3 => good q3 M3 h3 (a2.trans a3)) bad
theorem rS_4 (h3 : RSc g la lb pa pb0 rl n t b0 B 3 f) (h7 : RTc g la lb pa pb0 rl n t b0 B f) : RSc g la lb pa pb0 rl n t b0 B 4 (f + 1) := by
  intro dp p out M d P hdp h hd hp hz hne good bad
  rw [pEx_4] at hne good bad
  refine h3 dp p out M d P hdp h hd hp hz (andT_n hne) (fun q M2 h2 a2 c2 => ?_) (bad1 bad)
  rw [andT_e q] at hne good bad
  exact h7 dp _ _ out M2 d P hdp h2 hd (a2.pop hp) c2 hne (fun q3 M3 h3 a3 c3 => good q3 M3 h3 (a2.trans a3) c3) bad
theorem rT_5 (h0 : RS0 g la lb pa pb0 rl n t b0 B f) (h5 : RTn g la lb pa pb0 rl n t b0 B 5 f) : RTn g la lb pa pb0 rl n t b0 B 5 (f + 1) := by
  intro dp p acc out M d P hdp h hd hp hne good bad
  rw [pEx_5] at hne good bad
  by_cases c : kIs (lexT n t p) 42 = true
  · rw [if_pos c] at hne good bad
    unfold tlT at hne good bad
    refine rd_op (c := 22) h hdp hd c (.inr (.inr ⟨rfl, rfl⟩)) (fun M2 h2 s2 => ?_)
    refine h0 dp _ _ M2 d P hdp h2 hd (andT_n hne) (fun q M3 h3 a3 => ?_) (bad1 bad)
    rw [andT_e q] at hne good bad
    rw [app3] at h3
    have a2 : AgR dp M M2 := s2.ag
    rw [a2.pop hp]
    exact h5 dp _ _ out M3 d P hdp h3 hd (a3.pop (a2.pop hp)) hne (fun q3 M4 h4 a4 => good q3 M4 h4 ((a2.trans a3).trans a4)) bad
  · rw [if_neg c] at good
    exact good rfl M h AgR.rf
theorem rT_6 (h1 : RSn g la lb pa pb0 rl n t b0 B 1 f) (h6 : RTn g la lb pa pb0 rl n t b0 B 6 f) : RTn g la lb pa pb0 rl n t b0 B 6 (f + 1) := by
  intro dp p acc out M d P hdp h hd hp hne good bad
  have step : ∀ (x : Nat) (c e : Int32), kIs (lexT n t p) x = true → (x = 43 ∧ e = 20) ∨ (x = 45 ∧ e = 21) → rst (tlT n t f 1 6 dp p acc c e) ≠ 2 → (rst (tlT n t f 1 6 dp p acc c e) = 0 → ∀ M2, RX la lb pa pb0 rl n t b0 B M2 (rpo (tlT n t f 1 6 dp p acc c e)) (rpo (tlT n t f 1 6 dp p acc c e)) (out ++ rrc (tlT n t f 1 6 dp p acc c e)) → AgR dp M M2 → atR g d dp 0 M2 P) → RBad la lb pa pb0 rl b0 B P (tlT n t f 1 6 dp p acc c e) → atR g d dp 0 M P := by
    intro x c e hx hxe hne good bad
    unfold tlT at hne good bad
    refine rd_op (c := e) h hdp hd hx (hxe.elim .inl (fun z => .inr (.inl z))) (fun M2 h2 s2 => ?_)
    have a2 : AgR dp M M2 := s2.ag
    refine h1 dp _ _ M2 d P hdp h2 hd (a2.pop hp) (andT_n hne) (fun q M3 h3 a3 => ?_) (bad1 bad)
    rw [andT_e q] at hne good bad
    rw [app3] at h3
    exact h6 dp _ _ out M3 d P hdp h3 hd (a3.pop (a2.pop hp)) hne (fun q3 M4 h4 a4 => good q3 M4 h4 ((a2.trans a3).trans a4)) bad
  rw [pEx_6] at hne good bad
  by_cases c : kIs (lexT n t p) 43 = true
  · rw [if_pos c] at hne good bad
    exact step 43 _ _ c (.inl ⟨rfl, rfl⟩) hne good bad
  · rw [if_neg c] at hne good bad
    by_cases c2 : kIs (lexT n t p) 45 = true
    · rw [if_pos c2] at hne good bad
      exact step 45 _ _ c2 (.inr ⟨rfl, rfl⟩) hne good bad
    · rw [if_neg c2] at good
      exact good rfl M h AgR.rf
theorem rT_7 (h3 : RSc g la lb pa pb0 rl n t b0 B 3 f) (h7 : RTc g la lb pa pb0 rl n t b0 B f) : RTc g la lb pa pb0 rl n t b0 B (f + 1) := by
  intro dp p acc out M d P hdp h hd hp hcm hne good bad
  have step : ∀ (x : Nat) (c e : Int32), kW (lexT n t p) x = true → (x = 15 ∧ e = 26) ∨ (x = 16 ∧ e = 27) → rst (tlT n t f 3 7 dp p acc c e) ≠ 2 → (rst (tlT n t f 3 7 dp p acc c e) = 0 → ∀ M2, RX la lb pa pb0 rl n t b0 B M2 (rpo (tlT n t f 3 7 dp p acc c e)) (rpo (tlT n t f 3 7 dp p acc c e)) (out ++ rrc (tlT n t f 3 7 dp p acc c e)) → AgL dp M M2 → CmR n t dp (rpo (tlT n t f 3 7 dp p acc c e)) M2 → atR g d dp 0 M2 P) → RBad la lb pa pb0 rl b0 B P (tlT n t f 3 7 dp p acc c e) → atR g d dp 0 M P := by
    intro x c e hx hxe hne good bad
    unfold tlT at hne good bad
    refine rd_jn (c := e) h hdp hd hx hxe (fun M2 h2 a2 z2 => ?_)
    refine h3 dp _ _ M2 d P hdp h2 hd (a2.pop hp) z2 (andT_n hne) (fun q M3 h3 a3 c3 => ?_) (bad1 bad)
    rw [andT_e q] at hne good bad
    rw [app3] at h3
    exact h7 dp _ _ out M3 d P hdp h3 hd (a3.pop (a2.pop hp)) c3 hne (fun q3 M4 h4 a4 c4 => good q3 M4 h4 ((a2.trans a3).trans a4) c4) bad
  rw [pEx_7] at hne good bad
  by_cases c : kW (lexT n t p) 15 = true
  · rw [if_pos c] at hne good bad
    exact step 15 _ _ c (.inl ⟨rfl, rfl⟩) hne good bad
  · rw [if_neg c] at hne good bad
    by_cases c2 : kW (lexT n t p) 16 = true
    · rw [if_pos c2] at hne good bad
      exact step 16 _ _ c2 (.inr ⟨rfl, rfl⟩) hne good bad
    · rw [if_neg c2] at good
      exact good rfl M h AgR.rf.l hcm
theorem rS_3 (h2 : RSn g la lb pa pb0 rl n t b0 B 2 f) : RSc g la lb pa pb0 rl n t b0 B 3 (f + 1) := by
  intro dp p out M d P hdp h hd hp hz hne good bad
  rw [pEx_3] at hne good bad
  refine h2 dp p out M d P hdp h hd hp (andT_n hne) (fun q M2 h2' a2 => ?_) (bad1 bad)
  rw [andT_e q] at hne good bad
  generalize pEx n t f 2 dp p prOut = a at q h2' hne good bad
  have z2 : mi M2 143 dp = 0 := (a2 dp (Nat.le_refl _)).2.trans hz
  have step : ∀ (x : Nat) (c e : Int32), kIs (lexT n t (rpo a)) x = true → (x = 60 ∧ e = 24) ∨ (x = 61 ∧ e = 25) → rst (andT (pEx n t f 2 dp (nxT n t (rpo a)) prOut) (fun r => prOk (rpo r) (rcc a ++ (rcc r ++ [c])) (rrc a ++ (e :: rrc r)) (jnF c (rfv a) (rfv r)))) ≠ 2 → (rst (andT (pEx n t f 2 dp (nxT n t (rpo a)) prOut) (fun r => prOk (rpo r) (rcc a ++ (rcc r ++ [c])) (rrc a ++ (e :: rrc r)) (jnF c (rfv a) (rfv r)))) = 0 → ∀ M2, RX la lb pa pb0 rl n t b0 B M2 (rpo (andT (pEx n t f 2 dp (nxT n t (rpo a)) prOut) (fun r => prOk (rpo r) (rcc a ++ (rcc r ++ [c])) (rrc a ++ (e :: rrc r)) (jnF c (rfv a) (rfv r))))) (rpo (andT (pEx n t f 2 dp (nxT n t (rpo a)) prOut) (fun r => prOk (rpo r) (rcc a ++ (rcc r ++ [c])) (rrc a ++ (e :: rrc r)) (jnF c (rfv a) (rfv r))))) (out ++ rrc (andT (pEx n t f 2 dp (nxT n t (rpo a)) prOut) (fun r => prOk (rpo r) (rcc a ++ (rcc r ++ [c])) (rrc a ++ (e :: rrc r)) (jnF c (rfv a) (rfv r))))) → AgL dp M M2 → CmR n t dp (rpo (andT (pEx n t f 2 dp (nxT n t (rpo a)) prOut) (fun r => prOk (rpo r) (rcc a ++ (rcc r ++ [c])) (rrc a ++ (e :: rrc r)) (jnF c (rfv a) (rfv r))))) M2 → atR g d dp 0 M2 P) → RBad la lb pa pb0 rl b0 B P (andT (pEx n t f 2 dp (nxT n t (rpo a)) prOut) (fun r => prOk (rpo r) (rcc a ++ (rcc r ++ [c])) (rrc a ++ (e :: rrc r)) (jnF c (rfv a) (rfv r)))) → atR g d dp 0 M2 P := by
    intro x c e hx hxe hne good bad
    refine rd_cm (c := e) h2' hdp hd z2 hx hxe (fun M3 h3 a3 z3 => ?_)
    refine h2 dp _ _ M3 d P hdp h3 hd (a3.pop (a2.pop hp)) (andT_n hne) (fun q M4 h4 a4 => ?_) (bad1 bad)
    rw [andT_e q] at good
    rw [app3] at h4
    refine good rfl M4 h4 ((a2.l.trans a3).trans a4.l) (fun z => ?_)
    rw [(a4 dp (Nat.le_refl _)).2, z3] at z
    exact absurd z (by decide)
  by_cases c : kIs (lexT n t (rpo a)) 60 = true
  · rw [if_pos c] at hne good bad
    exact step 60 _ _ c (.inl ⟨rfl, rfl⟩) hne good bad
  · rw [if_neg c] at hne good bad
    by_cases c2 : kIs (lexT n t (rpo a)) 61 = true
    · rw [if_pos c2] at hne good bad
      exact step 61 _ _ c2 (.inr ⟨rfl, rfl⟩) hne good bad
    · rw [if_neg c2] at good
      exact good q M2 h2' a2.l (fun _ => ⟨c, c2⟩)
theorem rS_0 (h0 : RS0 g la lb pa pb0 rl n t b0 B f) (h4 : RSc g la lb pa pb0 rl n t b0 B 4 f) : RS0 g la lb pa pb0 rl n t b0 B (f + 1) := by
  intro dp p out M d P hdp h hd hne good bad
  refine rd_wt h hdp hd (fun z M2 f2 => ?_) (fun z e M2 f2 => ?_) (fun hlt c x hc M2 h2 s2 => ?_) (fun hlt c hc M2 h2 s2 => ?_)
  · rw [pEx_no z] at bad; exact bad rfl M2 f2
  · rw [pEx_deep z (by omega)] at bad; exact bad rfl M2 f2
  · have e1 := (s2 (dp + 1)).1
    have e2 := (s2 (dp + 1)).2
    rw [if_pos rfl] at e1 e2
    have a2 : AgR dp M M2 := fun j hj => by
      have q := s2 j
      rw [if_neg (by omega), if_neg (by omega)] at q
      exact q
    rcases hc with ⟨hk, rfl, rfl⟩ | ⟨hk, rfl, rfl⟩
    · rw [pEx_open hk (by omega)] at hne good bad
      refine h4 (dp + 1) _ _ M2 d P (by omega) h2 hd (by rw [popD, if_neg (by rw [e1]; decide)]) e2 (andT_n hne) (fun q M3 h3 a3 c3 => ?_) (bad1 bad)
      have ne := (pEx_end f 4 (dp + 1) (nxT n t p) prOut (by omega) q).2.2.1 rfl
      rw [andT_e q] at hne good bad
      have a23 : AgR dp M2 M3 := fun j hj => ⟨(a3 j (by omega)).1, (a3 j (by omega)).2 (by omega)⟩
      refine rd_en h3 (by omega) hd ne c3 (fun k1 _ M4 h4' s4 => ?_) (fun z => absurd z (by omega)) (fun k1 _ M4 f4 => ?_)
      · rw [if_pos k1] at good
        have : popD (mi M3 142) (dp + 1 - 1) = popD (mi M 142) dp := popD_cong dp (fun j hj => ((a2.trans a23) j hj).1)
        rw [this]
        refine good rfl M4 ?_ ((a2.trans a23).trans s4.ag)
        have e : out ++ [28] ++ rrc (pEx n t f 4 (dp + 1) (nxT n t p) prOut) ++ [29] = out ++ (28 :: (rrc (pEx n t f 4 (dp + 1) (nxT n t p) prOut) ++ [29])) := by simp
        rw [e] at h4'
        exact h4'
      · rw [if_neg (fun z => k1 ⟨z, by omega⟩)] at bad
        exact bad rfl M4 f4
    · rw [pEx_not hk (by omega)] at hne good bad
      refine h0 (dp + 1) _ _ M2 d P (by omega) h2 hd (andT_n hne) (fun q M3 h3 a3 => ?_) (bad1 bad)
      rw [andT_e q] at hne good bad
      have : popD (mi M2 142) (dp + 1) = popD (mi M 142) dp := by rw [popD, if_pos e1]; exact popD_cong dp (fun j hj => (a2 j hj).1)
      rw [this]
      refine good rfl M3 ?_ (a2.trans (a3.mono (by omega)))
      have e : out ++ [30] ++ rrc (pEx n t f 0 (dp + 1) (nxT n t p) prOut) = out ++ (30 :: rrc (pEx n t f 0 (dp + 1) (nxT n t p) prOut)) := by simp
      rw [e] at h3
      exact h3
  · rcases hc with ⟨hk, rfl⟩ | ⟨hk0, hk, rfl⟩
    · rw [pEx_num hk (by omega)] at good
      exact good rfl M2 h2 s2.ag
    · rw [pEx_fact hk0 hk (by omega)] at good
      exact good rfl M2 h2 s2.ag
theorem rS_all : ∀ f, RS0 g la lb pa pb0 rl n t b0 B f ∧ RSn g la lb pa pb0 rl n t b0 B 1 f ∧ RSn g la lb pa pb0 rl n t b0 B 2 f ∧ RSc g la lb pa pb0 rl n t b0 B 3 f ∧ RSc g la lb pa pb0 rl n t b0 B 4 f ∧ RTn g la lb pa pb0 rl n t b0 B 5 f ∧ RTn g la lb pa pb0 rl n t b0 B 6 f ∧ RTc g la lb pa pb0 rl n t b0 B f
  | 0 => ⟨fun _ _ _ _ _ _ _ _ _ h => absurd rfl h, fun _ _ _ _ _ _ _ _ _ _ h => absurd rfl h, fun _ _ _ _ _ _ _ _ _ _ h => absurd rfl h, fun _ _ _ _ _ _ _ _ _ _ _ h => absurd rfl h, fun _ _ _ _ _ _ _ _ _ _ _ h => absurd rfl h, fun _ _ _ _ _ _ _ _ _ _ _ h => absurd rfl h, fun _ _ _ _ _ _ _ _ _ _ _ h => absurd rfl h, fun _ _ _ _ _ _ _ _ _ _ _ _ h => absurd rfl h⟩
  | f + 1 => by
    obtain ⟨h0, h1, h2, h3, h4, h5, h6, h7⟩ := rS_all f
    exact ⟨rS_0 h0 h4, rS_1 h0 h5, rS_2 h1 h6, rS_3 h2, rS_4 h3 h7, rT_5 h0 h5, rT_6 h1 h6, rT_7 h3 h7⟩
/-- what `reads` leaves: steps laid and past the ';', or a fault -/
def RdsQ (la lb pa pb0 rl n : Nat) (t : Nat → Nat) (b0 : Nat) (B : MM) (r : PRs) : Option Value → MM → Prop := fun rv M2 =>
  (rst r = 0 ∧ kIs (lexT n t (rpo r)) 59 = true ∧ rv = some (.int 1) ∧ RX la lb pa pb0 rl n t b0 B M2 (nxT n t (rpo r)) (nxT n t (rpo r)) (rrc r)) ∨ (rst r = 0 ∧ ¬ kIs (lexT n t (rpo r)) 59 = true ∧ rv = some (.int 0) ∧ FlX la lb pa pb0 rl b0 B M2 (fltC n t 1 (rpo r))) ∨ (rst r = 1 ∧ rv = some (.int 0) ∧ FlX la lb pa pb0 rl b0 B M2 (rfa r))
theorem tX12_reads {p d : Nat} {M : MM} (h : RX la lb pa pb0 rl n t b0 B M p p []) (hd : 2 ≤ d) (hne : rst (pEx n t f 4 0 p prOut) ≠ 2) : R0 g YX12_reads d [.ref 130] M (RdsQ la lb pa pb0 rl n t b0 B (pEx n t f 4 0 p prOut)) := by
  refine R0.of (by decide +kernel) (Nat.le_of_ble_eq_true rfl) rfl (qX12_reads_0 (M1 := wi M 143 0 0) h.L (by rw [show vp_nar .boolean 0 = 0 by decide]) ?_)
  have h1 := h.w2 (k := 0) (v := 0) h (.inr rfl)
  refine (rS_all (g := g) (la := la) (lb := lb) (pa := pa) (pb0 := pb0) (rl := rl) (n := n) (t := t) (b0 := b0) (B := B) f).2.2.2.2.1 0 p [] _ d _ (by omega) h1 hd rfl (by rw [wi_at, if_pos ⟨rfl, rfl⟩]) hne (fun q M2 h2 _ c2 => ?_) (fun q M2 f2 => .inr (.inr ⟨q, rfl, f2⟩))
  have ne := (pEx_end f 4 0 p prOut (by omega) q).2.2.1 rfl
  exact rd_en h2 (by omega) hd ne c2 (fun _ z => absurd z (by omega)) (fun _ k M3 h3 => .inl ⟨q, k, rfl, h3⟩) (fun _ k M3 f3 => .inr (.inl ⟨q, fun z => k ⟨rfl, z⟩, rfl, f3⟩))
end RD5
