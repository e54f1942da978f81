/-! ===== the reference reads a law: its single steps ===== -/
def popD (op : Nat → Int32) : Nat → Nat
  | 0 => 0
  | k + 1 => if op (k + 1) = 1 then popD op k else k + 1
theorem popD_le (op : Nat → Int32) : ∀ k, popD op k ≤ k
  | 0 => Nat.le_refl _
  | k + 1 => by have := popD_le op k; rw [popD]; split <;> omega
theorem popD_cong {f h : Nat → Int32} : ∀ k, (∀ j, j ≤ k → f j = h j) → popD f k = popD h k
  | 0, _ => rfl
  | k + 1, e => by rw [popD, popD, e (k + 1) (Nat.le_refl _), popD_cong k (fun j hj => e j (by omega))]
def FlX (la lb pa pb0 rl b0 : Nat) (B M2 : MM) (c : Int32) : Prop := mi M2 130 9 = c ∧ Fr inRx B M2 ∧ (∀ x, x ≠ 4 → x ≠ 5 → x ≠ 6 → x ≠ 8 → x ≠ 9 → x ≠ 20 → mi M2 130 x = mi B 130 x) ∧ (∀ j, j < b0 → mi M2 141 j = mi B 141 j) ∧ Lay M2 la lb pa pb0 rl
/-- arrays alike -/
def SmR (M M2 : MM) : Prop := ∀ j, mi M2 142 j = mi M 142 j ∧ mi M2 143 j = mi M 143 j
theorem SmR.trans {M M1 M2 : MM} (h : SmR M M1) (h2 : SmR M1 M2) : SmR M M2 := fun j => ⟨(h2 j).1.trans (h j).1, (h2 j).2.trans (h j).2⟩
theorem SmR.ag {k : Nat} {M M2 : MM} (h : SmR M M2) : AgR k M M2 := fun j _ => h j
section RD
variable {g : GG} {d : Nat} {B M : MM} {la lb pa pb0 rl n p b0 dp : Nat} {t : Nat → Nat} {out : List Int32} {P : Option Value → MM → Prop}
theorem RX.lt (h : RX la lb pa pb0 rl n t b0 B M p p out) (hk : kty (lexT n t p) ≠ 0) : b0 + out.length < 2000 := by
  have a := (nxT_le (t := t) h.ple).2.2.1 hk
  have b := (nxT_le (t := t) h.ple).2.1
  have c := h.R.1
  have e := h.2.2.2.2.2.1
  omega
theorem RX.w2 {M : MM} (h : RX la lb pa pb0 rl n t b0 B M p p out) {s a k : Nat} {v : Int32} {out2 : List Int32} {M1 : MM} (h1 : RX la lb pa pb0 rl n t b0 B M1 p s out2) (ha : a = 142 ∨ a = 143) : RX la lb pa pb0 rl n t b0 B (wi M1 a k v) p s out2 := by
  obtain ⟨a1, a2, a3, a4, a5, a6, a7, a8, a9, a10, a11⟩ := h1
  have F2 : Fr (inC a) M1 (wi M1 a k v) := Fr.rf.wi rfl
  have no : ∀ b, b = 130 ∨ b = 131 ∨ b = 141 → ¬ inC a b := fun b hb z => by omega
  have e130 : mi (wi M1 a k v) 130 = mi M1 130 := F2.i (no 130 (by omega))
  refine ⟨F2.lay a1, ⟨a2.1, by rw [e130]; exact a2.2.1, fun k hk => by rw [F2.i (no 131 (by omega))]; exact a2.2.2 k hk⟩, ⟨by rw [e130]; exact a3.1, by rw [e130]; exact a3.2.1, by rw [e130]; exact a3.2.2.1, a3.2.2.2.1, fun z => by rw [e130]; exact a3.2.2.2.2 z⟩, a4, by rw [e130]; exact a5, a6, a7.to (F2.i (no 141 (by omega))), a8.trans (F2.mono (fun b hb => by omega)), fun j hj => by rw [F2.i (no 141 (by omega))]; exact a9 j hj, fun x x4 x5 x6 x8 x9 x20 => by rw [e130]; exact a10 x x4 x5 x6 x8 x9 x20, a11⟩
/-- a step put, then the next token -/
theorem K0.pn {c : Int32} {pc : Nat} {lv : List (Nat × Value)} (h : RX la lb pa pb0 rl n t b0 B M p p out) (hk : kty (lexT n t p) ≠ 0) (hd : 2 ≤ d) (k : ∀ M1, RX la lb pa pb0 rl n t b0 B M1 p (p + 1) (out ++ [c]) → SmR M M1 → E0 g YX12_reads d pc lv [] M1 P) : K0 g YX12_reads YX12_puts d pc [.ref 130, .int c] lv [] M P :=
  K0.put h (by omega) (h.lt hk) (fun M1 h1 s1 => k M1 h1 s1)
theorem K0.nt {M1 : MM} {pc : Nat} {lv : List (Nat × Value)} {out2 : List Int32} (h1 : RX la lb pa pb0 rl n t b0 B M1 p (p + 1) out2) (hk : kty (lexT n t p) ≠ 0) (hd : 2 ≤ d) (k : ∀ M2, RX la lb pa pb0 rl n t b0 B M2 (nxT n t p) (nxT n t p) out2 → SmR M1 M2 → E0 g YX12_reads d pc lv [] M2 P) : K0 g YX12_reads YX12_nextToken d pc [.ref 130] lv [] M1 P :=
  K0.nx h1 hd (fun _ => Nat.le_refl _) (fun M2 h2 s2 => by rw [if_neg hk] at h2; exact k M2 h2 s2)
theorem K0.fl {k pc : Nat} {lv : List (Nat × Value)} (h : RX la lb pa pb0 rl n t b0 B M p p out) (hd : 1 ≤ d) (kk : ∀ M2, FlX la lb pa pb0 rl b0 B M2 (fltC n t k p) → E0 g YX12_reads d pc lv [.int 0] M2 P) : K0 g YX12_reads YX12_fails d pc [.ref 130, .int (nI k)] lv [] M P :=
  K0.flt h hd (fun M2 a b c e f => kk M2 ⟨a, b, c, e, f⟩)
theorem K0.sg {x pc : Nat} {lv : List (Nat × Value)} {st : List Value} (h : RX la lb pa pb0 rl n t b0 B M p p out) (hx : x < 127) (hd : 1 ≤ d) (k : E0 g YX12_reads d pc lv (.int (b2i (kIs (lexT n t p) x)) :: st) M P) : K0 g YX12_reads YX12_isSign d pc [.ref 130, .int (nI x)] lv st M P := K0.ans (d1 := d - 1) (by omega) (tX12_isSign h.L h.R h.H hx) k
theorem K0.wd {i : Nat} {j : Int64} {pc : Nat} {lv : List (Nat × Value)} {st : List Value} (h : RX la lb pa pb0 rl n t b0 B M p p out) (hi : i < 21) (hj : j = lJ (hRx 27 (kwL i))) (hd : 1 ≤ d) (k : E0 g YX12_reads d pc lv (.int (b2i (kW (lexT n t p) i)) :: st) M P) : K0 g YX12_reads YX12_isWord d pc [.ref 130, .long j] lv st M P := K0.ans (d1 := d - 1) (by omega) (tX12_isWord h.L h.H hi hj) k
theorem kIs_nz {K : TK} {x : Nat} (h : kIs K x = true) : kty K ≠ 0 := by rw [kIs_ty h]; decide
theorem kW_nz {K : TK} {x : Nat} (h : kW K x = true) : kty K ≠ 0 := by rw [kW_ty h]; decide
theorem kIs_one {K : TK} {x y : Nat} (h : kIs K x = true) (h2 : kIs K y = true) : x = y := by
  unfold kIs at h h2
  simp only [Bool.and_eq_true, decide_eq_true_eq] at h h2
  omega
theorem bz {b : Bool} (h : ¬ b = true) : b2i b = 0 := by cases b; rfl; exact absurd rfl h
theorem bo {b : Bool} (h : b = true) : ¬ b2i b = 0 := by rw [h]; decide
/-- where an operator may stand -/
theorem rd_wf (h : RX la lb pa pb0 rl n t b0 B M p p out) (h5 : dp ≤ 5) (hd : 2 ≤ d)
    (kOp : ∀ c : Int32, (kIs (lexT n t p) 43 = true ∧ c = 20) ∨ (kIs (lexT n t p) 45 = true ∧ c = 21) ∨ (kIs (lexT n t p) 42 = true ∧ c = 22) → ∀ M2, RX la lb pa pb0 rl n t b0 B M2 (nxT n t p) (nxT n t p) (out ++ [c]) → SmR M M2 → E0 g YX12_reads d 11 [(0, .ref 130), (1, .int (nI dp)), (2, .int 1)] [] M2 P)
    (kCm : mi M 143 dp = 0 → ∀ c : Int32, (kIs (lexT n t p) 60 = true ∧ c = 24) ∨ (kIs (lexT n t p) 61 = true ∧ c = 25) → ∀ M2, RX la lb pa pb0 rl n t b0 B M2 (nxT n t p) (nxT n t p) (out ++ [c]) → (∀ j, mi M2 142 j = mi M 142 j ∧ mi M2 143 j = if j = dp then 1 else mi M 143 j) → E0 g YX12_reads d 11 [(0, .ref 130), (1, .int (nI dp)), (2, .int 1)] [] M2 P)
    (kJn : ∀ c : Int32, (kW (lexT n t p) 15 = true ∧ c = 26) ∨ (kW (lexT n t p) 16 = true ∧ c = 27) → ∀ M2, RX la lb pa pb0 rl n t b0 B M2 (nxT n t p) (nxT n t p) (out ++ [c]) → (∀ j, mi M2 142 j = mi M 142 j ∧ mi M2 143 j = if j = dp then 0 else mi M 143 j) → E0 g YX12_reads d 11 [(0, .ref 130), (1, .int (nI dp)), (2, .int 1)] [] M2 P)
    (kCl : kIs (lexT n t p) 41 = true → 0 < dp → ∀ M2, RX la lb pa pb0 rl n t b0 B M2 (nxT n t p) (nxT n t p) (out ++ [29]) → SmR M M2 → E0 g YX12_reads d 11 [(0, .ref 130), (1, .int (nI (popD (mi M 142) (dp - 1)))), (2, .int 0)] [] M2 P)
    (kEn : dp = 0 → kIs (lexT n t p) 59 = true → ∀ M2, RX la lb pa pb0 rl n t b0 B M2 (nxT n t p) (nxT n t p) out → P (some (.int 1)) M2)
    (kFl : ¬ kIs (lexT n t p) 43 = true → ¬ kIs (lexT n t p) 45 = true → ¬ kIs (lexT n t p) 42 = true → (mi M 143 dp = 0 → ¬ kIs (lexT n t p) 60 = true ∧ ¬ kIs (lexT n t p) 61 = true) → ¬ kW (lexT n t p) 15 = true → ¬ kW (lexT n t p) 16 = true → ¬ (kIs (lexT n t p) 41 = true ∧ 0 < dp) → ¬ (dp = 0 ∧ kIs (lexT n t p) 59 = true) → ∀ M2, FlX la lb pa pb0 rl b0 B M2 (fltC n t 1 p) → P (some (.int 0)) M2) :
    E0 g YX12_reads d 11 [(0, .ref 130), (1, .int (nI dp)), (2, .int 0)] [] M P := by
  have L := h.L
  have ec : (nI dp).toNatClampNeg = dp := nI_clamp (by omega)
  have hv : vp_in (nI dp) 7 := vi (by omega) (by decide)
  have d0 : nI dp = 0 ↔ dp = 0 := by rw [show (0 : Int32) = nI 0 from rfl]; exact nI_eq (by omega) (by decide)
  have dl : nI dp ≤ 0 ↔ dp = 0 := nI_le0 (by omega)
  -- an operator
  have op : ∀ c : Int32, (kIs (lexT n t p) 43 = true ∧ c = 20) ∨ (kIs (lexT n t p) 45 = true ∧ c = 21) ∨ (kIs (lexT n t p) 42 = true ∧ c = 22) → K0 g YX12_reads YX12_puts d 240 [.ref 130, .int c] [(0, .ref 130), (1, .int (nI dp))] [] M P := fun c hc => by
    have hk : kty (lexT n t p) ≠ 0 := by rcases hc with z | z | z <;> exact kIs_nz z.1
    refine K0.pn h hk hd (fun M1 h1 s1 => qX12_reads_240 h1.L (K0.nt h1 hk hd (fun M2 h2 s2 => qX12_reads_428 (kOp c hc M2 h2 (s1.trans s2)))))
  have ops : (kIs (lexT n t p) 43 = true ∨ kIs (lexT n t p) 45 = true ∨ kIs (lexT n t p) 42 = true) → K0 g YX12_reads YX12_isSign d 213 [.ref 130, .int 43] [(0, .ref 130), (1, .int (nI dp))] [.ref 130] M P := fun hc => by
    refine K0.sg (x := 43) h (by omega) (by omega) (qX12_reads_213 L (L.s (a := 130) rfl (by decide)) (fun r => K0.sg (x := 45) h (by omega) (by omega) (qX12_reads_227 (L.s (a := 130) rfl (by decide)) (fun r2 => op 22 ?_) (fun r2 => op 21 ?_))) (fun r => op 20 ?_))
    · rw [b2i_z] at r r2
      rcases hc with z | z | z
      · rw [z] at r; exact absurd r (by decide)
      · rw [z] at r2; exact absurd r2 (by decide)
      · exact .inr (.inr ⟨z, rfl⟩)
    · rw [b2i_n] at r2
      exact .inr (.inl ⟨r2, rfl⟩)
    · rw [b2i_n] at r
      exact .inl ⟨r, rfl⟩
  -- no operator of numbers: and, or, a bracket closed, the end
  have rest : ¬ kIs (lexT n t p) 43 = true → ¬ kIs (lexT n t p) 45 = true → ¬ kIs (lexT n t p) 42 = true → (mi M 143 dp = 0 → ¬ kIs (lexT n t p) 60 = true ∧ ¬ kIs (lexT n t p) 61 = true) → K0 g YX12_reads YX12_isWord d 311 [.ref 130, .long (1111)] [(0, .ref 130), (1, .int (nI dp)), (2, .int 0)] [] M P := fun n1 n2 n3 n4 => by
    have jn : ∀ c : Int32, (kW (lexT n t p) 15 = true ∧ c = 26) ∨ (kW (lexT n t p) 16 = true ∧ c = 27) → K0 g YX12_reads YX12_puts d 345 [.ref 130, .int c] [(0, .ref 130), (1, .int (nI dp))] [] M P := fun c hc => by
      have hk : kty (lexT n t p) ≠ 0 := by rcases hc with z | z <;> exact kW_nz z.1
      refine K0.pn h hk hd (fun M1 h1 s1 => qX12_reads_345 (M1 := wi M1 143 dp 0) h1.L (by rw [ec, show vp_nar .boolean 0 = 0 by decide]) hv (K0.nt (h.w2 h1 (.inr rfl)) hk hd (fun M2 h2 s2 => qX12_reads_428 (kJn c hc M2 h2 (fun j => ⟨?_, ?_⟩)))))
      · rw [(s2 j).1, wi_at, if_neg (by omega)]; exact (s1 j).1
      · rw [(s2 j).2, wi_at]
        by_cases e : j = dp
        · rw [if_pos ⟨rfl, e⟩, if_pos e]
        · rw [if_neg (fun z => e z.2), if_neg e]; exact (s1 j).2
    have jns : (kW (lexT n t p) 15 = true ∨ kW (lexT n t p) 16 = true) → K0 g YX12_reads YX12_isWord d 332 [.ref 130, .long (1111)] [(0, .ref 130), (1, .int (nI dp))] [.ref 130] M P := fun hc => by
      refine K0.wd (i := 15) h (by omega) (by decide +kernel) (by omega) (qX12_reads_332 (L.s (a := 130) rfl (by decide)) (fun r => jn 27 ?_) (fun r => jn 26 ?_))
      · rw [b2i_z] at r
        rcases hc with z | z
        · rw [z] at r; exact absurd r (by decide)
        · exact .inr ⟨z, rfl⟩
      · rw [b2i_n] at r
        exact .inl ⟨r, rfl⟩
    refine K0.wd (i := 15) h (by omega) (by decide +kernel) (by omega) (qX12_reads_311 L (fun r => jns (.inl (b2i_n.mp r))) (fun r => K0.wd (i := 16) h (by omega) (by decide +kernel) (by omega) (qX12_reads_321 L (fun r2 => K0.sg (x := 41) h (by omega) (by omega) ?_) (fun r2 => jns (.inr (b2i_n.mp r2))))))
    rw [b2i_z] at r r2
    have no15 : ¬ kW (lexT n t p) 15 = true := by rw [r]; decide
    have no16 : ¬ kW (lexT n t p) 16 = true := by rw [r2]; decide
    have bad : ¬ (kIs (lexT n t p) 41 = true ∧ 0 < dp) → ¬ (dp = 0 ∧ kIs (lexT n t p) 59 = true) → K0 g YX12_reads YX12_fails d 423 [.ref 130, .int 1] [] [] M P := fun a b => K0.fl (k := 1) h (by omega) (fun M2 f2 => qX12_reads_423 (by decide) (kFl n1 n2 n3 n4 no15 no16 a b M2 f2))
    have fin : dp = 0 → ¬ (kIs (lexT n t p) 41 = true ∧ 0 < dp) → K0 g YX12_reads YX12_isSign d 409 [.ref 130, .int 59] [(0, .ref 130)] [] M P := fun z a => by
      refine K0.sg (x := 59) h (by omega) (by omega) (qX12_reads_409 L (fun y => bad a (fun w => by rw [b2i_z, w.2] at y; exact absurd y (by decide))) (fun y => ?_))
      rw [b2i_n] at y
      refine K0.nx h (by omega) (fun _ => by omega) (fun M2 h2 _ => ?_)
      rw [if_neg (kIs_nz y)] at h2
      exact qX12_reads_416 (kEn z y M2 h2)
    refine qX12_reads_363 L (fun y z => ?_) (fun y z => ?_) (fun y z w => absurd (d0.mpr (dl.mp z)) w) (fun y z w => ?_) (fun y z => ?_)
    · rw [b2i_z] at y
      rw [d0] at z
      exact bad (fun w => by rw [w.1] at y; exact absurd y (by decide)) (fun w => z w.1)
    · rw [b2i_z] at y
      exact fin (d0.mp z) (fun w => by rw [w.1] at y; exact absurd y (by decide))
    · exact fin (d0.mp w) (fun v => by have := d0.mp w; omega)
    · rw [b2i_n] at y
      rw [dl] at z
      have hk := kIs_nz y
      refine K0.pn h hk hd (fun M1 h1 s1 => qX12_reads_376 ?_)
      have key : ∀ k, k ≤ 5 → popD (mi M 142) k = popD (mi M 142) (dp - 1) → E0 g YX12_reads d 379 [(0, .ref 130), (1, .int (nI k)), (2, .int 0)] [] M1 P := by
        intro k
        induction k with
        | zero =>
          intro _ hk0
          refine qX12_reads_379 h1.L (fun w => absurd (by decide) w) (fun _ => K0.nt h1 hk hd (fun M2 h2 s2 => qX12_reads_428 ?_)) (fun w => absurd (by decide) w) (fun w => absurd (by decide) w)
          have := kCl y (by omega) M2 h2 (s1.trans s2)
          rw [← hk0] at this
          exact this
        | succ k ih =>
          intro hk5 hk0
          have e1 : mi M1 142 (nI (k + 1)).toNatClampNeg = mi M 142 (k + 1) := by rw [nI_clamp (by omega)]; exact (s1 _).1
          have nl : ¬ nI (k + 1) ≤ 0 := by rw [nI_le0 (by omega)]; omega
          refine qX12_reads_379 h1.L (fun _ => vi (by omega) (by decide)) (fun w => absurd w nl) (fun _ w => K0.nt h1 hk hd (fun M2 h2 s2 => qX12_reads_428 ?_)) (fun _ w => ?_) <;> rw [e1] at w
          · have := kCl y (by omega) M2 h2 (s1.trans s2)
            rw [← hk0, popD, if_neg w] at this
            exact this
          · rw [popD, if_pos w] at hk0
            rw [nI_dec]
            exact ih (by omega) hk0
      have := key (dp - 1) (by omega) rfl
      rw [show nI dp + (-1) = nI (dp - 1) by rw [← nI_dec (dp - 1), show dp - 1 + 1 = dp by omega]]
      exact this
  -- a comparison
  have cm : mi M 143 dp = 0 → ∀ c : Int32, (kIs (lexT n t p) 60 = true ∧ c = 24) ∨ (kIs (lexT n t p) 61 = true ∧ c = 25) → K0 g YX12_reads YX12_puts d 292 [.ref 130, .int c] [(0, .ref 130), (1, .int (nI dp))] [] M P := fun z0 c hc => by
    have hk : kty (lexT n t p) ≠ 0 := by rcases hc with z | z <;> exact kIs_nz z.1
    refine K0.pn h hk hd (fun M1 h1 s1 => qX12_reads_292 (M1 := wi M1 143 dp 1) h1.L (by rw [ec, show vp_nar .boolean 1 = 1 by decide]) hv (K0.nt (h.w2 h1 (.inr rfl)) hk hd (fun M2 h2 s2 => qX12_reads_428 (kCm z0 c hc M2 h2 (fun j => ⟨?_, ?_⟩)))))
    · rw [(s2 j).1, wi_at, if_neg (by omega)]; exact (s1 j).1
    · rw [(s2 j).2, wi_at]
      by_cases e : j = dp
      · rw [if_pos ⟨rfl, e⟩, if_pos e]
      · rw [if_neg (fun z => e z.2), if_neg e]; exact (s1 j).2
  have cms : mi M 143 dp = 0 → (kIs (lexT n t p) 60 = true ∨ kIs (lexT n t p) 61 = true) → K0 g YX12_reads YX12_isSign d 279 [.ref 130, .int 60] [(0, .ref 130), (1, .int (nI dp))] [.ref 130] M P := fun z0 hc => by
    refine K0.sg (x := 60) h (by omega) (by omega) (qX12_reads_279 (L.s (a := 130) rfl (by decide)) (fun r => cm z0 25 ?_) (fun r => cm z0 24 ?_))
    · rw [b2i_z] at r
      rcases hc with z | z
      · rw [z] at r; exact absurd r (by decide)
      · exact .inr ⟨z, rfl⟩
    · rw [b2i_n] at r
      exact .inl ⟨r, rfl⟩
  refine qX12_reads_11 L (fun _ => K0.sg (x := 43) h (by omega) (by omega) (qX12_reads_185 L (fun r => ops (.inl (b2i_n.mp r))) (fun r => K0.sg (x := 45) h (by omega) (by omega) (qX12_reads_194 L (fun r2 => ops (.inr (.inl (b2i_n.mp r2)))) (fun r2 => K0.sg (x := 42) h (by omega) (by omega) (qX12_reads_203 L (fun r3 => K0.sg (x := 60) h (by omega) (by omega) ?_) (fun r3 => ops (.inr (.inr (b2i_n.mp r3)))))))))) (fun z => absurd rfl z)
  rw [b2i_z] at r r2 r3
  have n1 : ¬ kIs (lexT n t p) 43 = true := by rw [r]; decide
  have n2 : ¬ kIs (lexT n t p) 45 = true := by rw [r2]; decide
  have n3 : ¬ kIs (lexT n t p) 42 = true := by rw [r3]; decide
  refine qX12_reads_251 L (fun _ => hv) (fun y z => ?_) (fun y z => ?_) (fun y => K0.sg (x := 61) h (by omega) (by omega) (qX12_reads_260 L (fun _ => hv) (fun y2 => ?_) (fun y2 z => ?_) (fun y2 z => ?_)))
  · rw [ec] at z
    exact rest n1 n2 n3 (fun w => absurd w z)
  · rw [ec] at z
    exact cms z (.inl (b2i_n.mp y))
  · rw [b2i_z] at y y2
    exact rest n1 n2 n3 (fun _ => ⟨by rw [y]; decide, by rw [y2]; decide⟩)
  · rw [ec] at z
    exact rest n1 n2 n3 (fun w => absurd w z)
  · rw [ec] at z
    exact cms z (.inr (b2i_n.mp y2))
end RD
