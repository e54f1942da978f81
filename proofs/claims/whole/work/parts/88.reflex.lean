/-! ===== the reference: its tape and tokens ===== -/
theorem byR (x : Int64) : (x &&& 255).toInt32 = x.toInt32 &&& 255 := by simp
theorem shR : ∀ k, k < 24 → (56 : Int32) - 8 * (nI k &&& 7) = nI (8 * (7 - k % 8)) := by decide +kernel
/-- what was fed -/
def RTp (M : MM) (n : Nat) (t : Nat → Nat) : Prop := n ≤ 1000 ∧ mi M 130 1 = nI n ∧ ∀ k, k < n → mi M 131 k = nI (t k) ∧ t k < 127
/-- what is read -/
def RRd (M : MM) (n : Nat) (t : Nat → Nat) : Prop := n ≤ 1000 ∧ mi M 130 3 = nI n ∧ ∀ k, k < n → mi M 131 k = nI (t k) ∧ t k < 127
def TkR (M : MM) (K : TK) : Prop := mi M 130 5 = nI (kat K) ∧ mi M 130 4 = nI (ken K) ∧ mi M 130 6 = nI (kty K) ∧ (kty K = 1 → mj M 130 7 = lJ (hRx 27 (kws K))) ∧ (kty K = 2 → mi M 130 8 = nI (knu K))
def TkF (M M1 : MM) : Prop := Fr (inC 130) M M1 ∧ (∀ x, x ≠ 4 → x ≠ 5 → x ≠ 6 → x ≠ 8 → mi M1 130 x = mi M 130 x) ∧ ∀ x, x ≠ 7 → mj M1 130 x = mj M 130 x
theorem TkF.rf {M : MM} : TkF M M := ⟨Fr.rf, fun _ _ _ _ _ => rfl, fun _ _ => rfl⟩
theorem TkF.trans {M M1 M2 : MM} (h : TkF M M1) (h2 : TkF M1 M2) : TkF M M2 := ⟨h.1.trans h2.1, fun x a b c d => (h2.2.1 x a b c d).trans (h.2.1 x a b c d), fun x a => (h2.2.2 x a).trans (h.2.2 x a)⟩
theorem TkF.w {M M1 : MM} (h : TkF M M1) {k : Nat} {v : Int32} (hk : k = 4 ∨ k = 5 ∨ k = 6 ∨ k = 8) : TkF M (wi M1 130 k v) := ⟨h.1.wi rfl, fun x a b c d => by rw [wi_at, if_neg (by omega)]; exact h.2.1 x a b c d, h.2.2⟩
theorem TkF.wl {M M1 : MM} (h : TkF M M1) {v : Int64} : TkF M (wj M1 130 7 v) := ⟨h.1.wj rfl, h.2.1, fun x a => by rw [wj_at, if_neg (fun z => a z.2)]; exact h.2.2 x a⟩
theorem TkF.rd {M M1 : MM} (h : TkF M M1) {n : Nat} {t : Nat → Nat} (R : RRd M n t) : RRd M1 n t := ⟨R.1, by rw [h.2.1 3 (by omega) (by omega) (by omega) (by omega)]; exact R.2.1, fun k hk => by rw [h.1.i (by omega)]; exact R.2.2 k hk⟩
theorem wordR {l : List Nat} {c : Nat} (hl : l.length < 8) (h : ∀ x ∈ l, 1 ≤ x ∧ x ≤ 26) (hc : 97 ≤ c) (hc2 : c ≤ 122) : lJ (hRx 27 l) * 27 + (nI c).toInt64 - 96 = lJ (hRx 27 l * 27 + (c - 96)) := by
  have c1 : (27 : Int64).toInt = 27 := by decide +kernel
  have c2 : (96 : Int64).toInt = 96 := by decide +kernel
  have lt : hRx 27 l < 27 ^ 8 := Nat.lt_of_lt_of_le (hRx_lt (by decide) h) (Nat.pow_le_pow_right (by decide) (by omega))
  have lt2 : hRx 27 l < 282429536481 := lt
  have e0 := lJ_toInt (n := hRx 27 l) (by omega)
  have e1 : (lJ (hRx 27 l) * 27).toInt = (hRx 27 l : Int) * 27 := by
    rw [Jvm.Kit.i64_mul (by rw [e0, c1]; omega) (by rw [e0, c1]; omega), e0, c1]
  have e2 : (nI c).toInt64.toInt = (c : Int) := by rw [lJ_of (by omega), lJ_toInt (by omega)]
  have e3 : (lJ (hRx 27 l) * 27 + (nI c).toInt64).toInt = (hRx 27 l : Int) * 27 + c := by
    rw [Jvm.Kit.i64_add (by rw [e1, e2]; omega) (by rw [e1, e2]; omega), e1, e2]
  apply Int64.toInt_inj.mp
  rw [Jvm.Kit.i64_sub (by rw [e3, c2]; omega) (by rw [e3, c2]; omega), e3, c2, lJ_toInt (by omega)]
  omega
section LX
variable {g : GG} {d : Nat} {M : MM} {la lb pa pb0 rl n p : Nat} {t : Nat → Nat}
def remF (a b c : Int64) (k : Nat) (s : Nat × (Nat → Nat)) : Nat × (Nat → Nat) := if k < 8 then fdF c 8 (fdF b 8 (fdF a (8 - k) s)) else if k < 16 then fdF c 8 (fdF b (16 - k) s) else fdF c (24 - k) s
theorem fdF_s (j : Int64) (r : Nat) (s : Nat × (Nat → Nat)) : fdF j (r + 1) s = fdF j r (addB s (byN j (nI (8 * r))).toNatClampNeg) := rfl
theorem fdF_0 (j : Int64) (s : Nat × (Nat → Nat)) : fdF j 0 s = s := rfl
theorem remF_24 {a b c : Int64} {s : Nat × (Nat → Nat)} : remF a b c 24 s = s := by
  unfold remF
  rw [if_neg (show ¬ 24 < 8 by decide), if_neg (show ¬ 24 < 16 by decide), Nat.sub_self, fdF_0]
theorem remF_0 {a b c : Int64} {s : Nat × (Nat → Nat)} : remF a b c 0 s = feedT s a b c := by
  unfold remF feedT
  rw [if_pos (show 0 < 8 by decide), Nat.sub_zero]
theorem remF_c {a b c : Int64} {k : Nat} {s : Nat × (Nat → Nat)} (h : 16 ≤ k) (hk : k < 24) : remF a b c k s = remF a b c (k + 1) (addB s (byN c (nI (8 * (7 - k % 8)))).toNatClampNeg) := by
  unfold remF
  rw [if_neg (show ¬ k < 8 by omega), if_neg (show ¬ k < 16 by omega), if_neg (show ¬ k + 1 < 8 by omega), if_neg (show ¬ k + 1 < 16 by omega), show 24 - k = (24 - (k + 1)) + 1 by omega, fdF_s c (24 - (k + 1)) s, show 7 - k % 8 = 24 - (k + 1) by omega]
theorem remF_b {a b c : Int64} {k : Nat} {s : Nat × (Nat → Nat)} (h : 8 ≤ k) (hk : k < 16) : remF a b c k s = remF a b c (k + 1) (addB s (byN b (nI (8 * (7 - k % 8)))).toNatClampNeg) := by
  unfold remF
  rw [if_neg (show ¬ k < 8 by omega), if_pos (show k < 16 by omega), if_neg (show ¬ k + 1 < 8 by omega), show 16 - k = (16 - (k + 1)) + 1 by omega, fdF_s b (16 - (k + 1)) s, show 7 - k % 8 = 16 - (k + 1) by omega]
  by_cases e : k + 1 < 16
  · rw [if_pos e]
  · rw [if_neg e, show 16 - (k + 1) = 0 by omega, show 24 - (k + 1) = 8 by omega, fdF_0]
theorem remF_a {a b c : Int64} {k : Nat} {s : Nat × (Nat → Nat)} (hk : k < 8) : remF a b c k s = remF a b c (k + 1) (addB s (byN a (nI (8 * (7 - k % 8)))).toNatClampNeg) := by
  unfold remF
  rw [if_pos hk, show 8 - k = (8 - (k + 1)) + 1 by omega, fdF_s a (8 - (k + 1)) s, show 7 - k % 8 = 8 - (k + 1) by omega]
  by_cases e : k + 1 < 8
  · rw [if_pos e]
  · rw [if_neg e, if_pos (show k + 1 < 16 by omega), show 8 - (k + 1) = 0 by omega, show 16 - (k + 1) = 8 by omega, fdF_0]
theorem tX12_feed {a b c : Int64} (L : Lay M la lb pa pb0 rl) (T : RTp M n t) : R0 g YX12_feed d [.ref 130, .long a, .long b, .long c] M (fun rv M1 => rv = some (.int (nI (feedT (n, t) a b c).1)) ∧ RTp M1 (feedT (n, t) a b c).1 (feedT (n, t) a b c).2 ∧ (∀ x, x ≠ 0 → x ≠ 1 → mi M1 130 x = mi M 130 x) ∧ Fr (fun b => b = 130 ∨ b = 131) M M1) := by
  have F1 : Fr (fun b => b = 130 ∨ b = 131) M (wi M 130 0 0) := Fr.rf.wi (.inl rfl)
  refine R0.of (by decide +kernel) (Nat.le_of_ble_eq_true rfl) rfl (qX12_feed_0 L rfl ?_)
  have key := up0 (p := fun k => ∀ s M1, RTp M1 s.1 s.2 → (∀ x, x ≠ 0 → x ≠ 1 → mi M1 130 x = mi M 130 x) → Fr (fun b => b = 130 ∨ b = 131) M M1 → remF a b c k s = feedT (n, t) a b c → E0 g YX12_feed d 8 [(0, .ref 130), (1, .long a), (3, .long b), (5, .long c), (7, .int (nI k))] [] M1 (fun rv M1 => rv = some (.int (nI (feedT (n, t) a b c).1)) ∧ RTp M1 (feedT (n, t) a b c).1 (feedT (n, t) a b c).2 ∧ (∀ x, x ≠ 0 → x ≠ 1 → mi M1 130 x = mi M 130 x) ∧ Fr (fun b => b = 130 ∨ b = 131) M M1)) 24 (fun s M1 T1 X F2 hs => ?_) (fun k hk ih s M1 T1 X F2 hs => ?_)
  · refine key (n, t) _ ⟨T.1, ?_, fun k hk => ?_⟩ (fun x h0 h1 => by rw [wi_at, if_neg (fun z => h0 z.2)]) F1 remF_0
    · rw [wi_at, if_neg (by omega)]; exact T.2.1
    · rw [wi_at, if_neg (by omega)]; exact T.2.2 k hk
  · rw [remF_24] at hs
    rw [hs] at T1
    exact qX12_feed_8 (F2.lay L) (fun _ => ⟨by rw [T1.2.1], T1, X, F2⟩) (fun z => absurd (by decide) z) (fun z => absurd (by decide) z) (fun z => absurd (by decide) z)
  · -- one byte
    have byte : ∀ w : Int64, remF a b c k s = remF a b c (k + 1) (addB s (byN w (nI (8 * (7 - k % 8)))).toNatClampNeg) → E0 g YX12_feed d 39 [(0, .ref 130), (1, .long a), (3, .long b), (5, .long c), (7, .int (nI k))] [.long w] M1 (fun rv M1 => rv = some (.int (nI (feedT (n, t) a b c).1)) ∧ RTp M1 (feedT (n, t) a b c).1 (feedT (n, t) a b c).2 ∧ (∀ x, x ≠ 0 → x ≠ 1 → mi M1 130 x = mi M 130 x) ∧ Fr (fun b => b = 130 ∨ b = 131) M M1) := fun w hw => by
      rw [hs] at hw
      obtain ⟨y, hy, ey⟩ := byN_nI w (nI (8 * (7 - k % 8)))
      have ey2 : ((((w.toUInt64 >>> (((56 : Int32) - (8 * (nI k &&& 7))).toInt64.toUInt64 &&& Int64.toUInt64 63)).toInt64 &&& (255)) : Int64).toInt32) = nI y := by rw [byR, shR k hk]; exact ey
      rw [ey, nI_clamp (by omega)] at hw
      have e10 : nI y = 10 ↔ y = 10 := by rw [show (10 : Int32) = nI 10 from rfl]; exact nI_eq (by omega) (by decide)
      have e32 : nI y < 32 ↔ y < 32 := by rw [show (32 : Int32) = nI 32 from rfl]; exact nI_ltI (by omega) (by decide)
      have e126 : (126 : Int32) < nI y ↔ 126 < y := by rw [show (126 : Int32) = nI 126 from rfl]; exact nI_ltI (by decide) (by omega)
      have t1000 := T1.1
      have e1000 : (1000 : Int32) ≤ mi M1 130 1 ↔ 1000 ≤ s.1 := by rw [T1.2.1, show (1000 : Int32) = nI 1000 from rfl]; exact nI_leI (by decide) (by omega)
      have vin : ¬ (1000 : Int32) ≤ mi M1 130 1 → vp_in (mi M1 130 1) 1000 := fun q => by
        rw [e1000] at q
        rw [T1.2.1]
        exact vi (by omega) (by decide)
      have stay : ¬ (isFd y = true ∧ s.1 < 1000) → E0 g YX12_feed d 114 [(0, .ref 130), (1, .long a), (3, .long b), (5, .long c), (7, .int (nI k))] [] M1 (fun rv M1 => rv = some (.int (nI (feedT (n, t) a b c).1)) ∧ RTp M1 (feedT (n, t) a b c).1 (feedT (n, t) a b c).2 ∧ (∀ x, x ≠ 0 → x ≠ 1 → mi M1 130 x = mi M 130 x) ∧ Fr (fun b => b = 130 ∨ b = 131) M M1) := fun q => by
        unfold addB at hw
        rw [if_neg q] at hw
        exact qX12_feed_114 (by rw [nI_1]; exact ih s M1 T1 X F2 hw.symm)
      have put : isFd y = true → ¬ (1000 : Int32) ≤ mi M1 130 1 → E0 g YX12_feed d 114 [(0, .ref 130), (1, .long a), (3, .long b), (5, .long c), (7, .int (nI k))] [] (wi (wi M1 131 (mi M1 130 1).toNatClampNeg (nI y)) 130 1 (mi (wi M1 131 (mi M1 130 1).toNatClampNeg (nI y)) 130 1 + 1)) (fun rv M1 => rv = some (.int (nI (feedT (n, t) a b c).1)) ∧ RTp M1 (feedT (n, t) a b c).1 (feedT (n, t) a b c).2 ∧ (∀ x, x ≠ 0 → x ≠ 1 → mi M1 130 x = mi M 130 x) ∧ Fr (fun b => b = 130 ∨ b = 131) M M1) := fun q q2 => by
        rw [e1000] at q2
        have hs1 : s.1 < 1000 := by omega
        have hb127 : y < 127 := by
          unfold isFd at q
          simp only [Bool.or_eq_true, Bool.and_eq_true, decide_eq_true_eq] at q
          omega
        unfold addB at hw
        rw [if_pos ⟨q, hs1⟩] at hw
        refine qX12_feed_114 ?_
        rw [nI_1, T1.2.1, nI_clamp (by omega)]
        refine ih _ _ ⟨by show s.1 + 1 ≤ 1000; omega, ?_, fun k hk => ?_⟩ (fun x h0 h1 => ?_) ((F2.wi (.inr rfl)).wi (.inl rfl)) hw.symm
        · rw [wi_at, if_pos ⟨rfl, rfl⟩, wi_at, if_neg (by omega), T1.2.1, nI_1]
        · rw [wi_at, if_neg (by omega), wi_at]
          show (if 131 = 131 ∧ k = s.1 then nI y else mi M1 131 k) = nI (if k = s.1 then y else s.2 k) ∧ (if k = s.1 then y else s.2 k) < 127
          by_cases e : k = s.1
          · rw [if_pos ⟨rfl, e⟩, if_pos e]; exact ⟨rfl, hb127⟩
          · rw [if_neg (fun z => e z.2), if_neg e]
            have hk : k < s.1 + 1 := hk
            exact T1.2.2 k (by omega)
        · rw [wi_at, if_neg (fun z => h1 z.2), wi_at, if_neg (by omega)]; exact X x h0 h1
      refine qX12_feed_39 (M1 := wi M1 131 (mi M1 130 1).toNatClampNeg (nI y)) (M3 := wi M1 131 (mi M1 130 1).toNatClampNeg (nI y)) (F2.lay L) (by rw [ey2]) rfl (by rw [ey2]) rfl (fun q _ => vin q) (fun q _ _ _ => vin q) (fun q => ?_) (fun q1 q2 => ?_) (fun q1 q2 q3 => ?_) (fun q1 q2 q3 q4 => ?_) (fun q1 q2 q3 q4 => ?_)
      · rw [e1000] at q
        exact stay (fun z => by omega)
      · rw [ey2, e10] at q2
        exact put (by simp [isFd, q2]) q1
      · rw [ey2, e10] at q2
        rw [ey2, e32] at q3
        have h32 : ¬ 32 ≤ y := by omega
        exact stay (fun z => by simp [isFd, q2, h32] at z)
      · rw [ey2, e10] at q2
        rw [ey2, e126] at q4
        have h126 : ¬ y ≤ 126 := by omega
        exact stay (fun z => by simp [isFd, q2, h126] at z)
      · rw [ey2, e32] at q3
        rw [ey2, e126] at q4
        have h32 : 32 ≤ y := by omega
        have h126 : y ≤ 126 := by omega
        exact put (by simp [isFd, h32, h126]) q1
    have l24 : ¬ (24 : Int32) ≤ nI k := ngl 24 rfl (by decide) hk
    have l8 : (8 : Int32) ≤ nI k ↔ 8 ≤ k := by rw [show (8 : Int32) = nI 8 from rfl]; exact nI_leI (by decide) (by omega)
    have l16 : (16 : Int32) ≤ nI k ↔ 16 ≤ k := by rw [show (16 : Int32) = nI 16 from rfl]; exact nI_leI (by decide) (by omega)
    refine qX12_feed_8 (F2.lay L) (fun z => absurd z l24) (fun _ r1 r2 => byte c ?_) (fun _ r1 r2 => byte b ?_) (fun _ r1 => byte a ?_)
    · rw [l16] at r2
      exact remF_c r2 hk
    · rw [l8] at r1
      rw [l16] at r2
      exact remF_b r1 (by omega)
    · rw [l8] at r1
      exact remF_a (by omega)
theorem tX12_signAt {q : Nat} (L : Lay M la lb pa pb0 rl) (R : RRd M n t) (hq : q ≤ n) : R0 g YX12_signAt d [.ref 130, .int (nI q)] M (Ans (if q < n then nI (t q) else 0) M) := by
  have h1 := R.1
  have e : mi M 130 3 ≤ nI q ↔ n ≤ q := by rw [R.2.1]; exact nI_leI (by omega) (by omega)
  refine R0.of (by decide +kernel) (Nat.le_of_ble_eq_true rfl) rfl (qX12_signAt_0 L (fun r => vi (by rw [e] at r; omega) (by decide)) (fun r => ?_) (fun r => ?_)) <;> rw [e] at r
  · rw [if_neg (by omega)]; exact ⟨rfl, rfl⟩
  · rw [if_pos (by omega), nI_clamp (by omega), (R.2.2 q (by omega)).1]; exact ⟨rfl, rfl⟩
end LX
