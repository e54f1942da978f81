/-! ===== the reference: words, signs, facts ===== -/
theorem kwJ : ∀ i, i < 21 → hRx 27 (kwL i) < 2 ^ 63 := by decide +kernel
theorem lexA_s3 {n : Nat} {t : Nat → Nat} {a : Nat} (h : kty (lexA n t a) = 3) : ksg (lexA n t a) = t a ∧ a < n := by
  unfold lexA at h ⊢
  by_cases q : a < n
  · rw [if_pos q] at h ⊢
    by_cases q1 : isLc (t a) = true
    · rw [if_pos q1] at h
      have h : (if 8 < runW isLc t (n - a) a - a then 4 else 1) = 3 := h
      split at h <;> omega
    · rw [if_neg q1] at h ⊢
      by_cases q2 : isDc (t a) = true
      · rw [if_pos q2] at h
        have h : (if 4 < runW isDc t (n - a) a - a then 4 else 2) = 3 := h
        split at h <;> omega
      · rw [if_neg q2]; exact ⟨rfl, q⟩
  · rw [if_neg q] at h
    have h : (0 : Nat) = 3 := h
    omega
section RW
variable {g : GG} {d : Nat} {M : MM} {la lb pa pb0 rl n p : Nat} {t : Nat → Nat}
theorem TkR.ty {K : TK} (H : TkR M K) (h4 : kty K ≤ 4) (m : Nat) (z : Int32) (hz : z = nI m) (hm : m < 100) : mi M 130 6 = z ↔ kty K = m := by rw [H.2.2.1, hz]; exact nI_eq (by omega) (by omega)
theorem TkR.wd {i : Nat} {j : Int64} (H : TkR M (lexT n t p)) (hi : i < 21) (hj : j = lJ (hRx 27 (kwL i))) (h1 : kty (lexT n t p) = 1) : lg_cmp (mj M 130 7) j = 0 ↔ kW (lexT n t p) i = true := by
  have hw : WOk (kws (lexT n t p)) := lexA_w h1
  rw [lg_eq, H.2.2.2.1 h1, hj, word_eq hw (kw_ok i hi) (by decide) (by decide)]
  unfold kW
  rw [decide_eq_true h1, Bool.true_and, decide_eq_true_eq]
theorem tX12_isWord {i : Nat} {j : Int64} (L : Lay M la lb pa pb0 rl) (H : TkR M (lexT n t p)) (hi : i < 21) (hj : j = lJ (hRx 27 (kwL i))) : R0 g YX12_isWord d [.ref 130, .long j] M (Ans (b2i (kW (lexT n t p) i)) M) := by
  have e1 := H.ty lexT_ty 1 1 rfl (by omega)
  refine R0.of (by decide +kernel) (Nat.le_of_ble_eq_true rfl) rfl (qX12_isWord_0 L (fun r => ?_) (fun r1 r2 => ?_) (fun r1 r2 => ?_))
  · rw [e1] at r
    have : kW (lexT n t p) i = false := by unfold kW; rw [decide_eq_false r]; rfl
    rw [this]; exact ⟨rfl, rfl⟩
  · rw [e1] at r1
    rw [H.wd hi hj r1] at r2
    have : kW (lexT n t p) i = false := by cases z : kW (lexT n t p) i; rfl; exact absurd z r2
    rw [this]; exact ⟨rfl, rfl⟩
  · rw [e1] at r1
    rw [H.wd hi hj r1] at r2
    rw [r2]; exact ⟨rfl, rfl⟩
theorem tX12_isSign {x : Nat} (L : Lay M la lb pa pb0 rl) (R : RRd M n t) (H : TkR M (lexT n t p)) (hx : x < 127) : R0 g YX12_isSign d [.ref 130, .int (nI x)] M (Ans (b2i (kIs (lexT n t p) x)) M) := by
  have e3 := H.ty lexT_ty 3 3 rfl (by omega)
  have n1000 := R.1
  have eat : kat (lexT n t p) = skipB t (n - p) p := lexA_at
  have sg : kty (lexT n t p) = 3 → (mi M 130 5).toNatClampNeg = kat (lexT n t p) ∧ kat (lexT n t p) < n ∧ mi M 131 (mi M 130 5).toNatClampNeg = nI (ksg (lexT n t p)) ∧ ksg (lexT n t p) < 127 := fun z => by
    have a : ksg (lexT n t p) = t (kat (lexT n t p)) := by rw [eat]; exact (lexA_s3 z).1
    have b : kat (lexT n t p) < n := by rw [eat]; exact (lexA_s3 z).2
    have e5 : (mi M 130 5).toNatClampNeg = kat (lexT n t p) := by rw [H.1, nI_clamp (by omega)]
    have := R.2.2 _ b
    refine ⟨e5, b, ?_, ?_⟩
    · rw [e5, this.1, a]
    · rw [a]; exact this.2
  refine R0.of (by decide +kernel) (Nat.le_of_ble_eq_true rfl) rfl (qX12_isSign_0 L (fun r => ?_) (fun r => ?_) (fun r1 r2 => ?_) (fun r1 r2 => ?_))
  · rw [e3] at r
    obtain ⟨s1, s2, -⟩ := sg r
    rw [H.1]; exact vi (by omega) (by decide)
  · rw [e3] at r
    have : kIs (lexT n t p) x = false := by unfold kIs; rw [decide_eq_false r]; rfl
    rw [this]; exact ⟨rfl, rfl⟩
  · rw [e3] at r1
    obtain ⟨-, -, s3, s4⟩ := sg r1
    rw [s3, nI_eq (by omega) (by omega)] at r2
    have : kIs (lexT n t p) x = false := by unfold kIs; rw [decide_eq_false r2, Bool.and_false]
    rw [this]; exact ⟨rfl, rfl⟩
  · rw [e3] at r1
    obtain ⟨-, -, s3, s4⟩ := sg r1
    rw [s3, nI_eq (by omega) (by omega)] at r2
    have : kIs (lexT n t p) x = true := by unfold kIs; rw [decide_eq_true r1, decide_eq_true r2]; rfl
    rw [this]; exact ⟨rfl, rfl⟩
theorem tX12_fact (L : Lay M la lb pa pb0 rl) (H : TkR M (lexT n t p)) : R0 g YX12_fact d [.ref 130] M (Ans (nI (kfa (lexT n t p))) M) := by
  have e1 := H.ty lexT_ty 1 1 rfl (by omega)
  have w17 := fun h1 => H.wd (i := 17) (j := 223456) (by omega) (by decide +kernel) h1
  have w18 := fun h1 => H.wd (i := 18) (j := 5173474771) (by omega) (by decide +kernel) h1
  have w19 := fun h1 => H.wd (i := 19) (j := 8740067) (by omega) (by decide +kernel) h1
  have w20 := fun h1 => H.wd (i := 20) (j := 692581) (by omega) (by decide +kernel) h1
  refine R0.of (by decide +kernel) (Nat.le_of_ble_eq_true rfl) rfl (qX12_fact_0 L (fun r a b c d => ?_) (fun r a b c d => ?_) (fun r a b c => ?_) (fun r a b => ?_) (fun r a => ?_) (fun r => ?_)) <;> rw [e1] at r
  · rw [w17 r] at a; rw [w18 r] at b; rw [w19 r] at c; rw [w20 r] at d
    have : kfa (lexT n t p) = 0 := by unfold kfa; rw [if_neg a, if_neg b, if_neg c, if_neg d]
    rw [this]; exact ⟨rfl, rfl⟩
  · rw [w17 r] at a; rw [w18 r] at b; rw [w19 r] at c; rw [w20 r] at d
    have : kfa (lexT n t p) = 4 := by unfold kfa; rw [if_neg a, if_neg b, if_neg c, if_pos d]
    rw [this]; exact ⟨rfl, rfl⟩
  · rw [w17 r] at a; rw [w18 r] at b; rw [w19 r] at c
    have : kfa (lexT n t p) = 3 := by unfold kfa; rw [if_neg a, if_neg b, if_pos c]
    rw [this]; exact ⟨rfl, rfl⟩
  · rw [w17 r] at a; rw [w18 r] at b
    have : kfa (lexT n t p) = 2 := by unfold kfa; rw [if_neg a, if_pos b]
    rw [this]; exact ⟨rfl, rfl⟩
  · rw [w17 r] at a
    have : kfa (lexT n t p) = 1 := by unfold kfa; rw [if_pos a]
    rw [this]; exact ⟨rfl, rfl⟩
  · have : kfa (lexT n t p) = 0 := by
      by_cases z : kfa (lexT n t p) = 0
      · exact z
      · exact absurd (kfa_ty z) r
    rw [this]; exact ⟨rfl, rfl⟩
end RW
/-- while a law is read: the tape's token at p, steps laid from b0 on -/
abbrev inRx : Nat → Prop := fun b => b = 130 ∨ b = 141 ∨ b = 142 ∨ b = 143
def RX (la lb pa pb0 rl n : Nat) (t : Nat → Nat) (b0 : Nat) (B M : MM) (p s : Nat) (out : List Int32) : Prop := Lay M la lb pa pb0 rl ∧ RRd M n t ∧ TkR M (lexT n t p) ∧ p ≤ n ∧ mi M 130 20 = nI (b0 + out.length) ∧ b0 + out.length ≤ 1000 + s ∧ SegIs M 140 b0 out ∧ Fr inRx B M ∧ (∀ j, j < b0 → mi M 141 j = mi B 141 j) ∧ (∀ x, x ≠ 4 → x ≠ 5 → x ≠ 6 → x ≠ 8 → x ≠ 9 → x ≠ 20 → mi M 130 x = mi B 130 x) ∧ ∀ x, x ≠ 7 → mj M 130 x = mj B 130 x
/-- openings and comparisons up to depth k are as they were -/
def AgR (k : Nat) (M M2 : MM) : Prop := ∀ j, j ≤ k → mi M2 142 j = mi M 142 j ∧ mi M2 143 j = mi M 143 j
theorem AgR.rf {k : Nat} {M : MM} : AgR k M M := fun _ _ => ⟨rfl, rfl⟩
theorem AgR.trans {k : Nat} {M M1 M2 : MM} (h : AgR k M M1) (h2 : AgR k M1 M2) : AgR k M M2 := fun j hj => ⟨(h2 j hj).1.trans (h j hj).1, (h2 j hj).2.trans (h j hj).2⟩
theorem AgR.mono {k k2 : Nat} {M M1 : MM} (h : AgR k M M1) (hk : k2 ≤ k) : AgR k2 M M1 := fun j hj => h j (by omega)
section RX0
variable {g : GG} {d : Nat} {B M M1 M2 : MM} {la lb pa pb0 rl n p s b0 : Nat} {t : Nat → Nat} {out : List Int32} {Y : YY} {pc : Nat} {lv : List (Nat × Value)} {st : List Value} {P : Option Value → MM → Prop}
theorem RX.L (h : RX la lb pa pb0 rl n t b0 B M p s out) : Lay M la lb pa pb0 rl := h.1
theorem RX.R (h : RX la lb pa pb0 rl n t b0 B M p s out) : RRd M n t := h.2.1
theorem RX.H (h : RX la lb pa pb0 rl n t b0 B M p s out) : TkR M (lexT n t p) := h.2.2.1
theorem RX.ple (h : RX la lb pa pb0 rl n t b0 B M p s out) : p ≤ n := h.2.2.2.1
/-- on to the next token -/
theorem K0.nx (h : RX la lb pa pb0 rl n t b0 B M p s out) (hd : 2 ≤ d) (hs : kty (lexT n t p) ≠ 0 → s ≤ p + 1) (k : ∀ M2, RX la lb pa pb0 rl n t b0 B M2 (nxT n t p) (if kty (lexT n t p) = 0 then s else nxT n t p) out → (∀ j, mi M2 142 j = mi M 142 j ∧ mi M2 143 j = mi M 143 j) → E0 g Y d pc lv st M2 P) : K0 g Y YX12_nextToken d pc [.ref 130] lv st M P := by
  obtain ⟨a1, a2, a3, a4, a5, a6, a7, a8, a9, a10, a11⟩ := h
  have nx := nxT_le (t := t) a4
  refine K0.set (d1 := d - 1) (by omega) (tX12_nextToken a1 a2 a3.2.1 nx.2.1 (by omega)) ?_
  rintro rv M2 ⟨rfl, H2, F2⟩
  refine k M2 ⟨F2.1.lay a1, F2.rd a2, H2, nx.2.1, ?_, ?_, a7.to (F2.1.i (by omega)), a8.trans (F2.1.mono (fun b hb => .inl hb)), fun j hj => by rw [F2.1.i (by omega)]; exact a9 j hj, fun x x4 x5 x6 x8 x9 x20 => by rw [F2.2.1 x x4 x5 x6 x8]; exact a10 x x4 x5 x6 x8 x9 x20, fun x x7 => by rw [F2.2.2 x x7]; exact a11 x x7⟩ (fun j => ⟨by rw [F2.1.i (by omega)], by rw [F2.1.i (by omega)]⟩)
  · rw [F2.2.1 20 (by omega) (by omega) (by omega) (by omega)]; exact a5
  · split
    · exact a6
    · rename_i z
      have := hs z
      have := nx.2.2.1 z
      omega
/-- a step laid -/
theorem K0.put {c : Int32} (h : RX la lb pa pb0 rl n t b0 B M p s out) (hd : 1 ≤ d) (hlt : b0 + out.length < 2000) (k : ∀ M2, RX la lb pa pb0 rl n t b0 B M2 p (s + 1) (out ++ [c]) → (∀ j, mi M2 142 j = mi M 142 j ∧ mi M2 143 j = mi M 143 j) → E0 g Y d pc lv st M2 P) : K0 g Y YX12_puts d pc [.ref 130, .int c] lv st M P := by
  obtain ⟨a1, a2, a3, a4, a5, a6, a7, a8, a9, a10, a11⟩ := h
  refine ⟨d - 1, (fun rv M2 => rv = none ∧ M2 = wi (wi M 141 (b0 + out.length) c) 130 20 (nI (b0 + out.length + 1))), by omega, ?_, ?_⟩
  · refine R0.of (by decide +kernel) (Nat.le_of_ble_eq_true rfl) rfl (qX12_puts_0 (M1 := wi M 141 (b0 + out.length) c) (M2 := wi (wi M 141 (b0 + out.length) c) 130 20 (nI (b0 + out.length + 1))) a1 (by rw [a5, nI_clamp (by omega)]) (by rw [wi_at, if_neg (by omega), a5, nI_1]) (by rw [a5]; exact vi hlt (by decide)) ⟨rfl, rfl⟩)
  · rintro rv M2 ⟨rfl, rfl⟩
    have F2 : Fr (fun b => b = 130 ∨ b = 141) M (wi (wi M 141 (b0 + out.length) c) 130 20 (nI (b0 + out.length + 1))) := (Fr.rf.wi (.inr rfl)).wi (.inl rfl)
    have e141 : ∀ j, mi (wi (wi M 141 (b0 + out.length) c) 130 20 (nI (b0 + out.length + 1))) 141 j = if j = b0 + out.length then c else mi M 141 j := fun j => by
      rw [wi_at, if_neg (by omega), wi_at]
      by_cases e : j = b0 + out.length
      · rw [if_pos ⟨rfl, e⟩, if_pos e]
      · rw [if_neg (fun z => e z.2), if_neg e]
    have e130 : ∀ x, x ≠ 20 → mi (wi (wi M 141 (b0 + out.length) c) 130 20 (nI (b0 + out.length + 1))) 130 x = mi M 130 x := fun x hx => by rw [wi_at, if_neg (fun z => hx z.2), wi_at, if_neg (by omega)]
    refine k _ ⟨F2.lay a1, ⟨a2.1, by rw [e130 3 (by omega)]; exact a2.2.1, fun k hk => by rw [F2.i (by omega)]; exact a2.2.2 k hk⟩, ⟨by rw [e130 5 (by omega)]; exact a3.1, by rw [e130 4 (by omega)]; exact a3.2.1, by rw [e130 6 (by omega)]; exact a3.2.2.1, a3.2.2.2.1, fun z => by rw [e130 8 (by omega)]; exact a3.2.2.2.2 z⟩, a4, ?_, ?_, ?_, a8.trans (F2.mono (fun b hb => by omega)), fun j hj => ?_, fun x x4 x5 x6 x8 x9 x20 => by rw [e130 x x20]; exact a10 x x4 x5 x6 x8 x9 x20, a11⟩ (fun j => ⟨by rw [F2.i (by omega)], by rw [F2.i (by omega)]⟩)
    · rw [wi_at, if_pos ⟨rfl, rfl⟩, List.length_append]; rfl
    · rw [List.length_append]; show b0 + (out.length + 1) ≤ 1000 + (s + 1); omega
    · refine SegIs.app (a7.pres (fun j h1 h2 => ?_)) ⟨?_, trivial⟩
      · show mi _ 141 j = mi M 141 j
        rw [e141, if_neg (by omega)]
      · show mi _ 141 (b0 + out.length) = c
        rw [e141, if_pos rfl]
    · rw [e141, if_neg (by omega)]; exact a9 j hj
/-- a fault -/
theorem K0.flt {k : Nat} (h : RX la lb pa pb0 rl n t b0 B M p s out) (hd : 1 ≤ d) (kk : ∀ M2, mi M2 130 9 = fltC n t k p → Fr inRx B M2 → (∀ x, x ≠ 4 → x ≠ 5 → x ≠ 6 → x ≠ 8 → x ≠ 9 → x ≠ 20 → mi M2 130 x = mi B 130 x) → (∀ j, j < b0 → mi M2 141 j = mi B 141 j) → Lay M2 la lb pa pb0 rl → E0 g Y d pc lv (.int 0 :: st) M2 P) : K0 g Y YX12_fails d pc [.ref 130, .int (nI k)] lv st M P := by
  obtain ⟨a1, a2, a3, a4, a5, a6, a7, a8, a9, a10, a11⟩ := h
  refine ⟨d - 1, (fun rv M2 => rv = some (.int 0) ∧ M2 = wi M 130 9 (fltC n t k p)), by omega, ?_, ?_⟩
  · refine R0.of (by decide +kernel) (Nat.le_of_ble_eq_true rfl) rfl (qX12_fails_0 a1 rfl ⟨rfl, ?_⟩)
    rw [a3.1]
    unfold fltC
    rw [show (16 : Int32) = nI 16 from rfl, pk_mul, nI_add]
  · rintro rv M2 ⟨rfl, rfl⟩
    have F2 : Fr (inC 130) M (wi M 130 9 (fltC n t k p)) := Fr.rf.wi rfl
    exact kk _ (by rw [wi_at, if_pos ⟨rfl, rfl⟩]) (a8.trans (F2.mono (fun b hb => .inl hb))) (fun x x4 x5 x6 x8 x9 x20 => by rw [wi_at, if_neg (fun z => x9 z.2)]; exact a10 x x4 x5 x6 x8 x9 x20) (fun j hj => by rw [F2.i (by omega)]; exact a9 j hj) (F2.lay a1)
end RX0
