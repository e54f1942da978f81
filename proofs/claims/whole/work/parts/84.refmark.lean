/-! ===== the reference: marks, counts ===== -/
abbrev inLn : Nat → Prop := fun b => 154 ≤ b ∧ b ≤ 158
abbrev inSn : Nat → Prop := fun b => 159 ≤ b ∧ b ≤ 161
/-- row o1 of m has been laid over row o2 -/
def Over (f f1 : Nat → Int32) (m o1 o2 : Nat) : Prop := (∀ k, k < m → f1 (m * o2 + k) = f (m * o1 + k)) ∧ ∀ j, ¬ (m * o2 ≤ j ∧ j < m * o2 + m) → f1 j = f j
theorem Over.other {f f1 : Nat → Int32} {m o1 o2 o k : Nat} (h : Over f f1 m o1 o2) (ho : o ≠ o2) (hk : k < m) : f1 (m * o + k) = f (m * o + k) := by
  refine h.2 _ (fun z => ?_)
  rcases Nat.lt_or_ge o o2 with q | q
  · have := Nat.mul_le_mul_left m (show o + 1 ≤ o2 from q)
    rw [Nat.mul_succ] at this
    omega
  · have := Nat.mul_le_mul_left m (show o2 + 1 ≤ o by omega)
    rw [Nat.mul_succ] at this
    omega
section MK
variable {g : GG} {d : Nat} {M : MM} {la lb pa pb0 rl : Nat} {c : CD} {F : Nat → (Nat → Int32) → Int32} {T T2 : TT} {u : UU} {p p2 : PP} {w w2 : SV}
theorem tX12_laysLines {o1 o2 : Nat} (L : Lay M la lb pa pb0 rl) (h1 : o1 < 6) (h2 : o2 < 6) (hne : o1 ≠ o2) : R0 g YX12_laysLines d [.ref 130, .int (nI o1), .int (nI o2)] M (fun rv M1 => rv = none ∧ mi M1 154 o2 = mi M 154 o1 ∧ (∀ j, j ≠ o2 → mi M1 154 j = mi M 154 j) ∧ (∀ a, 155 ≤ a → a ≤ 158 → Over (mi M a) (mi M1 a) 40 o1 o2) ∧ Fr inLn M M1) := by
  have F1 : Fr inLn M (wi M 154 o2 (mi M 154 o1)) := Fr.rf.wi (by omega)
  refine R0.of (by decide +kernel) (Nat.le_of_ble_eq_true rfl) rfl (qX12_laysLines_0 (M1 := wi M 154 o2 (mi M 154 o1)) L (by rw [nI_clamp (by omega), nI_clamp (by omega)]) (vi h1 (by decide)) (vi h2 (by decide)) ?_)
  have key := up0 (p := fun i => ∀ M1, (∀ j, mi M1 154 j = if j = o2 then mi M 154 o1 else mi M 154 j) → (∀ a, 155 ≤ a → a ≤ 158 → (∀ k, k < i → mi M1 a (40 * o2 + k) = mi M a (40 * o1 + k)) ∧ ∀ j, ¬ (40 * o2 ≤ j ∧ j < 40 * o2 + i) → mi M1 a j = mi M a j) → Fr inLn M M1 → E0 g YX12_laysLines d 14 [(0, .ref 130), (1, .int (nI o1)), (2, .int (nI o2)), (3, .int (nI i))] [] M1 (fun rv M1 => rv = none ∧ mi M1 154 o2 = mi M 154 o1 ∧ (∀ j, j ≠ o2 → mi M1 154 j = mi M 154 j) ∧ (∀ a, 155 ≤ a → a ≤ 158 → Over (mi M a) (mi M1 a) 40 o1 o2) ∧ Fr inLn M M1)) 40 (fun M1 A B F2 => ?_) (fun i hi ih M1 A B F2 => ?_)
  · refine key _ (fun j => ?_) (fun a h1 h2 => ⟨fun k hk => absurd hk (by omega), fun j _ => by rw [wi_at, if_neg (by omega)]⟩) F1
    rw [wi_at]
    by_cases e : j = o2
    · rw [if_pos ⟨rfl, e⟩, if_pos e]
    · rw [if_neg (fun z => e z.2), if_neg e]
  · exact qX12_laysLines_14 (F2.lay L) rfl rfl rfl rfl (fun z => absurd (by decide) z) (fun z => absurd (by decide) z) (fun z => absurd (by decide) z) (fun z => absurd (by decide) z) (fun z => absurd (by decide) z) (fun z => absurd (by decide) z) (fun z => absurd (by decide) z) (fun z => absurd (by decide) z) (fun _ => ⟨rfl, by rw [A, if_pos rfl], fun j hj => by rw [A, if_neg hj], B, F2⟩) (fun z => absurd (by decide) z)
  · have ea : ∀ o, o < 6 → (40 * nI o + nI i : Int32) = nI (40 * o + i) := fun o _ => by rw [show (40 : Int32) = nI 40 from rfl, pk_mul, nI_add]
    have hv : ∀ o, o < 6 → vp_in (40 * nI o + nI i : Int32) 240 := fun o ho => by rw [ea o ho]; exact vi (by omega) (by decide)
    refine qX12_laysLines_14 (F2.lay L) rfl rfl rfl rfl (fun _ => hv _ h1) (fun _ => hv _ h2) (fun _ => hv _ h1) (fun _ => hv _ h2) (fun _ => hv _ h1) (fun _ => hv _ h2) (fun _ => hv _ h1) (fun _ => hv _ h2) (fun z => absurd z (ngl 40 rfl (by decide) hi)) (fun _ => ?_)
    rw [nI_1, ea _ h1, ea _ h2, nI_clamp (by omega), nI_clamp (by omega)]
    have src : ∀ a, 155 ≤ a → a ≤ 158 → mi M1 a (40 * o1 + i) = mi M a (40 * o1 + i) := fun a a1 a2 => (B a a1 a2).2 _ (by omega)
    refine ih _ (fun j => ?_) (fun a a1 a2 => ?_) ((((F2.wi (by omega)).wi (by omega)).wi (by omega)).wi (by omega))
    · rw [wi_at, if_neg (by omega), wi_at, if_neg (by omega), wi_at, if_neg (by omega), wi_at, if_neg (by omega)]; exact A j
    · have at4 : ∀ j, mi (wi (wi (wi (wi M1 155 (40 * o2 + i) (mi M1 155 (40 * o1 + i))) 156 (40 * o2 + i) (mi (wi M1 155 (40 * o2 + i) (mi M1 155 (40 * o1 + i))) 156 (40 * o1 + i))) 157 (40 * o2 + i) (mi (wi (wi M1 155 (40 * o2 + i) (mi M1 155 (40 * o1 + i))) 156 (40 * o2 + i) (mi (wi M1 155 (40 * o2 + i) (mi M1 155 (40 * o1 + i))) 156 (40 * o1 + i))) 157 (40 * o1 + i))) 158 (40 * o2 + i) (mi (wi (wi (wi M1 155 (40 * o2 + i) (mi M1 155 (40 * o1 + i))) 156 (40 * o2 + i) (mi (wi M1 155 (40 * o2 + i) (mi M1 155 (40 * o1 + i))) 156 (40 * o1 + i))) 157 (40 * o2 + i) (mi (wi (wi M1 155 (40 * o2 + i) (mi M1 155 (40 * o1 + i))) 156 (40 * o2 + i) (mi (wi M1 155 (40 * o2 + i) (mi M1 155 (40 * o1 + i))) 156 (40 * o1 + i))) 157 (40 * o1 + i))) 158 (40 * o1 + i))) a j = if j = 40 * o2 + i then mi M a (40 * o1 + i) else mi M1 a j := fun j => by
        rw [← src a a1 a2]
        simp only [wi_at]
        rcases (show a = 155 ∨ a = 156 ∨ a = 157 ∨ a = 158 by omega) with rfl | rfl | rfl | rfl <;> by_cases e : j = 40 * o2 + i <;> simp [e]
      refine ⟨fun k hk => ?_, fun j hj => ?_⟩
      · rw [at4]
        by_cases e : k = i
        · rw [if_pos (by omega), e]
        · rw [if_neg (by omega)]; exact (B a a1 a2).1 k (by omega)
      · rw [at4, if_neg (by omega)]; exact (B a a1 a2).2 j (by omega)
theorem RLn.over {M1 : MM} {o1 o2 : Nat} (Q : RLn M o1 p) (p40 : p.1 ≤ 40) (h1 : mi M1 154 o2 = mi M 154 o1) (h2 : ∀ a, 155 ≤ a → a ≤ 158 → Over (mi M a) (mi M1 a) 40 o1 o2) : RLn M1 o2 p := by
  refine ⟨by rw [h1]; exact Q.1, fun i hi => ?_⟩
  have e := fun a a1 a2 => (h2 a a1 a2).1 i (by omega)
  rw [e 155 (by omega) (by omega), e 156 (by omega) (by omega), e 157 (by omega) (by omega), e 158 (by omega) (by omega)]
  exact Q.2 i hi
theorem RLn.other {M1 : MM} {o o1 o2 : Nat} (Q : RLn M o p) (p40 : p.1 ≤ 40) (ho : o ≠ o2) (h1 : ∀ j, j ≠ o2 → mi M1 154 j = mi M 154 j) (h2 : ∀ a, 155 ≤ a → a ≤ 158 → Over (mi M a) (mi M1 a) 40 o1 o2) : RLn M1 o p := by
  refine ⟨by rw [h1 o ho]; exact Q.1, fun i hi => ?_⟩
  have e := fun a a1 a2 => (h2 a a1 a2).other ho (show i < 40 by omega)
  rw [e 155 (by omega) (by omega), e 156 (by omega) (by omega), e 157 (by omega) (by omega), e 158 (by omega) (by omega)]
  exact Q.2 i hi
theorem tX12_laysSeen {o1 o2 : Nat} (L : Lay M la lb pa pb0 rl) (W : RSe M o1 w) (h1 : o1 < 5) (h2 : o2 < 5) (hne : o1 ≠ o2) : R0 g YX12_laysSeen d [.ref 130, .int (nI o1), .int (nI o2)] M (fun rv M1 => rv = none ∧ RSe M1 o2 w ∧ (∀ o w2, o ≠ o2 → RSe M o w2 → RSe M1 o w2) ∧ Fr inSn M M1) := by
  have F1 : Fr inSn M (wi M 159 o2 (mi M 159 o1)) := Fr.rf.wi (by omega)
  refine R0.of (by decide +kernel) (Nat.le_of_ble_eq_true rfl) rfl (qX12_laysSeen_0 (M1 := wi M 159 o2 (mi M 159 o1)) L (by rw [nI_clamp (by omega), nI_clamp (by omega)]) (vi h1 (by decide)) (vi h2 (by decide)) ?_)
  have key := up0 (p := fun i => ∀ M1, (∀ j, mi M1 159 j = if j = o2 then mi M 159 o1 else mi M 159 j) → (∀ j, mi M1 160 j = if 8 * o2 ≤ j ∧ j < 8 * o2 + i then mi M 160 (8 * o1 + (j - 8 * o2)) else mi M 160 j) → (∀ j, mi M1 161 j = if 8 * o2 ≤ j ∧ j < 8 * o2 + i then vp_nar .boolean (mi M 161 (8 * o1 + (j - 8 * o2))) else mi M 161 j) → Fr inSn M M1 → E0 g YX12_laysSeen d 14 [(0, .ref 130), (1, .int (nI o1)), (2, .int (nI o2)), (3, .int (nI i))] [] M1 (fun rv M1 => rv = none ∧ RSe M1 o2 w ∧ (∀ o w2, o ≠ o2 → RSe M o w2 → RSe M1 o w2) ∧ Fr inSn M M1)) 8 (fun M1 A B C F2 => ?_) (fun i hi ih M1 A B C F2 => ?_)
  · refine key _ (fun j => ?_) (fun j => ?_) (fun j => ?_) F1
    · rw [wi_at]
      by_cases e : j = o2
      · rw [if_pos ⟨rfl, e⟩, if_pos e]
      · rw [if_neg (fun z => e z.2), if_neg e]
    · rw [if_neg (by omega), wi_at, if_neg (by omega)]
    · rw [if_neg (by omega), wi_at, if_neg (by omega)]
  · refine qX12_laysSeen_14 (F2.lay L) rfl rfl (fun z => absurd (by decide) z) (fun z => absurd (by decide) z) (fun z => absurd (by decide) z) (fun z => absurd (by decide) z) (fun _ => ⟨rfl, ⟨W.1, by rw [A, if_pos rfl]; exact W.2.1, fun k hk => ?_⟩, fun o w2 ho W2 => ⟨W2.1, by rw [A, if_neg ho]; exact W2.2.1, fun k hk => ?_⟩, F2⟩) (fun z => absurd (by decide) z)
    · have w8 := W.1
      obtain ⟨a, b⟩ := W.2.2 k hk
      rw [B, if_pos (by omega), C, if_pos (by omega), Nat.add_sub_cancel_left, a, b, nar_b]
      exact ⟨rfl, rfl⟩
    · have w8 := W2.1
      rw [B, if_neg (by omega), C, if_neg (by omega)]
      exact W2.2.2 k hk
  · have ea : ∀ o, o < 5 → (8 * nI o + nI i : Int32) = nI (8 * o + i) := fun o _ => by rw [show (8 : Int32) = nI 8 from rfl, pk_mul, nI_add]
    have hv : ∀ o, o < 5 → vp_in (8 * nI o + nI i : Int32) 40 := fun o ho => by rw [ea o ho]; exact vi (by omega) (by decide)
    refine qX12_laysSeen_14 (F2.lay L) rfl rfl (fun _ => hv _ h1) (fun _ => hv _ h2) (fun _ => hv _ h1) (fun _ => hv _ h2) (fun z => absurd z (ngl 8 rfl (by decide) hi)) (fun _ => ?_)
    rw [nI_1, ea _ h1, ea _ h2, nI_clamp (by omega), nI_clamp (by omega)]
    refine ih _ (fun j => ?_) (fun j => ?_) (fun j => ?_) ((F2.wi (by omega)).wi (by omega))
    · rw [wi_at, if_neg (by omega), wi_at, if_neg (by omega)]; exact A j
    · rw [wi_at, if_neg (by omega), wi_at]
      by_cases e : j = 8 * o2 + i
      · rw [if_pos ⟨rfl, e⟩, if_pos (by omega), B, if_neg (by omega), e, Nat.add_sub_cancel_left]
      · rw [if_neg (fun z => e z.2), B]
        by_cases q : 8 * o2 ≤ j ∧ j < 8 * o2 + i
        · rw [if_pos q, if_pos (by omega)]
        · rw [if_neg q, if_neg (by omega)]
    · rw [wi_at]
      by_cases e : j = 8 * o2 + i
      · rw [if_pos ⟨rfl, e⟩, if_pos (by omega), wi_at, if_neg (by omega), C, if_neg (by omega), e, Nat.add_sub_cancel_left]
      · rw [if_neg (fun z => e z.2), wi_at, if_neg (by omega), C]
        by_cases q : 8 * o2 ≤ j ∧ j < 8 * o2 + i
        · rw [if_pos q, if_pos (by omega)]
        · rw [if_neg q, if_neg (by omega)]
abbrev KK : Type := Bool × TT × PP × SV
def RMk (M : MM) (n h i : Nat) (k : KK) : Prop := mi M 167 i = b2i k.1 ∧ (k.1 = true → RSt (fun j => mi M 165 (19 * i + j)) n h k.2.1 ∧ RLn M (1 + i) k.2.2.1 ∧ k.2.2.1.1 ≤ 40 ∧ RSe M (1 + i) k.2.2.2)
/-- all that lasts of the reference, the tape aside -/
def RAll (M : MM) (c : CD) (F : Nat → (Nat → Int32) → Int32) (T : TT) (u : UU) (p : PP) (w : SV) (mk : Nat → KK) : Prop := RCo M c F ∧ RSt (mi M 162) (cn c) (ch c) T ∧ RUn M (cn c) (ch c) u ∧ RLn M 0 p ∧ RSe M 0 w ∧ ∀ i, i < 4 → RMk M (cn c) (ch c) i (mk i)
theorem RMk.fr {S : Nat → Prop} {M1 : MM} {n h i : Nat} {k : KK} (H : RMk M n h i k) (F1 : Fr S M M1) (hS : ∀ b, (154 ≤ b ∧ b ≤ 161) ∨ b = 165 ∨ b = 167 → ¬ S b) : RMk M1 n h i k := by
  refine ⟨by rw [F1.i (hS 167 (by omega))]; exact H.1, fun z => ?_⟩
  obtain ⟨a, b, e, f⟩ := H.2 z
  exact ⟨by rw [F1.i (hS 165 (by omega))]; exact a, b.fr F1 (fun x h1 h2 => hS x (by omega)), e, f.fr F1 (fun x h1 h2 => hS x (by omega))⟩
theorem RAll.sc {M1 : MM} {mk : Nat → KK} (A : RAll M c F T u p w mk) (h10 : cn c ≤ 10) (s : Sc M M1) : RAll M1 c F T u p w mk := by
  obtain ⟨a1, a2, a3, a4, a5, a6⟩ := A
  exact ⟨a1.sc s, a2.sc h10 s, a3.fr s.1 s.2.2.1 (by omega), a4.fr s.1 (fun b h1 h2 => by omega), a5.fr s.1 (fun b h1 h2 => by omega), fun i hi => (a6 i hi).fr s.1 (fun b hb => by omega)⟩
theorem RAll.dd {M1 : MM} {mk : Nat → KK} {u2 : UU} (A : RAll M c F T u p w mk) (D : RDd M M1 c u2 T2) : RAll M1 c F T2 u2 p w mk := by
  obtain ⟨a1, a2, a3, a4, a5, a6⟩ := A
  obtain ⟨d1, d2, d3, d4⟩ := D
  exact ⟨a1.fr d4 (fun b hb => by omega), d1, d2, a4.fr d4 (fun b h1 h2 => by omega), a5.fr d4 (fun b h1 h2 => by omega), fun i hi => (a6 i hi).fr d4 (fun b hb => by omega)⟩
end MK
