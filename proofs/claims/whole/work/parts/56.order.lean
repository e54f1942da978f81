/-! ===== the order of halls by which most is shown ===== -/
def cntB (A : Nat → Bool) : Nat → Nat
  | 0 => 0
  | k + 1 => cntB A k + (if A k then 1 else 0)
theorem cntB_cong {A B : Nat → Bool} : ∀ {n}, (∀ i, i < n → A i = B i) → cntB A n = cntB B n
  | 0, _ => rfl
  | n + 1, h => by rw [cntB, cntB, cntB_cong (n := n) (fun i hi => h i (by omega)), h n (by omega)]
theorem cntB_0 {A : Nat → Bool} : ∀ {n}, cntB A n = 0 → ∀ i, i < n → A i = false
  | 0, _, i, hi => absurd hi (by omega)
  | n + 1, h, i, hi => by
    rw [cntB] at h
    by_cases e : i = n
    · subst e
      cases q : A i
      · rfl
      · rw [q] at h; simp at h
    · exact cntB_0 (n := n) (by omega) i (by omega)
theorem cntB_le {A : Nat → Bool} : ∀ {n}, cntB A n ≤ n
  | 0 => Nat.le_refl _
  | n + 1 => by
    have := cntB_le (A := A) (n := n)
    rw [cntB]; split <;> omega
theorem cntB_out {A : Nat → Bool} {h : Nat} : ∀ {n}, h < n → A h = true → cntB (fun i => A i && !(i == h)) n + 1 = cntB A n
  | 0, hh, _ => absurd hh (by omega)
  | n + 1, hh, q => by
    by_cases e : h = n
    · subst e
      rw [cntB, cntB, cntB_cong (B := A) (fun i hi => by have : ¬ i = h := by omega
                                                         simp [this])]
      simp [q]
    · have ih := cntB_out (A := A) (n := n) (h := h) (by omega) q
      have e2 : (A n && !(n == h)) = A n := by
        have : ¬ n = h := fun z => e z.symm
        simp [this]
      rw [cntB, cntB]
      simp only [e2]
      omega
theorem sBits_cnt (x : Int32) : ∀ {n}, n ≤ 32 → sBits x n = nI (cntB (bt x) n)
  | 0, _ => rfl
  | n + 1, h => by
    rw [sBits, cntB, sBits_cnt x (n := n) (by omega), bit_v x (by omega), ← nI_add]
    split <;> rfl
theorem cntB_ext {A : Nat → Bool} {n : Nat} : ∀ m, cntB (fun i => decide (i < n) && A i) (n + m) = cntB A n
  | 0 => cntB_cong (fun i hi => by
      have : i < n := by omega
      simp [this])
  | m + 1 => by
    rw [← Nat.add_assoc, cntB, cntB_ext m]
    have : ¬ n + m < n := by omega
    simp [this]
theorem jBit_pb {A : Nat → Bool} {n : Nat} (hn : n ≤ 10) : jBit (pb A n) = nI (cntB A n) := by
  obtain ⟨m, h1, h2⟩ := pb_small A hn
  rw [h2, bits_all m h1, ← h2, sBits_cnt _ (by omega)]
  congr 1
  obtain ⟨k, hk⟩ : ∃ k, 10 = n + k := ⟨10 - n, by omega⟩
  rw [hk, ← cntB_ext (A := A) (n := n) k]
  exact cntB_cong fun i hi => bt_pb A n (by omega) i (by omega)
theorem pb_0 {A : Nat → Bool} {n : Nat} (hn : n ≤ 32) : pb A n = 0 ↔ cntB A n = 0 := by
  constructor
  · intro h
    have : ∀ i, i < n → A i = false := fun i hi => by
      have := bt_pb A n hn i (by omega)
      rw [h, b_0] at this
      simpa [hi] using this.symm
    rw [cntB_cong (B := fun _ => false) this]
    clear this h hn
    induction n with
    | zero => rfl
    | succ n ih => rw [cntB, ih]; rfl
  · intro h
    refine b_ext fun i hi => ?_
    rw [bt_pb A n hn i hi, b_0]
    by_cases q : i < n
    · simp [cntB_0 h i q]
    · simp [q]
theorem pb_out {A : Nat → Bool} {n h : Nat} (hn : n ≤ 32) (hh : h < 32) : pb A n &&& (((1 : Int32) <<< (nI h &&& 31)) ^^^ (-1)) = pb (fun i => A i && !(i == h)) n := by
  refine pb_ext hn fun i hi => ?_
  rw [b_and, bt_pb A n hn i hi, b_not _ hi, b_one hh hi]
  by_cases e : i = h
  · subst e; simp
  · have e2 : (i == h) = false := beq_eq_false_iff_ne.mpr e
    simp [e, e2]
/-! minutes as numbers -/
def mNat (len : Nat → Int32) (row : Int32) : Nat → Nat
  | 0 => 0
  | k + 1 => mNat len row k + (if bt row k then (len k).toNatClampNeg else 0)
def LenOk (n : Nat) (len : Nat → Int32) : Prop := ∀ k, k < n → ∃ l, 1 ≤ l ∧ l ≤ 60 ∧ len k = nI l
theorem sMin_nat {len : Nat → Int32} {row : Int32} : ∀ {n}, LenOk n len → sMin len row n = nI (mNat len row n)
  | 0, _ => rfl
  | n + 1, h => by
    obtain ⟨l, -, h1, h2⟩ := h n (by omega)
    rw [sMin, mNat, sMin_nat (n := n) (fun k hk => h k (by omega)), ← nI_add, h2, nI_clamp (by omega)]
    split <;> rfl
theorem mNat_le {len : Nat → Int32} {row : Int32} : ∀ {n}, LenOk n len → mNat len row n ≤ 60 * n
  | 0, _ => Nat.le_refl _
  | n + 1, h => by
    obtain ⟨l, -, h1, h2⟩ := h n (by omega)
    have := mNat_le (row := row) (n := n) (fun k hk => h k (by omega))
    rw [mNat, h2, nI_clamp (by omega)]
    split <;> omega
theorem mNat_mono {len : Nat → Int32} {x y : Int32} (hs : sub x y) : ∀ {n}, n ≤ 32 → mNat len x n ≤ mNat len y n
  | 0, _ => Nat.le_refl _
  | n + 1, h => by
    have := mNat_mono (len := len) hs (n := n) (by omega)
    rw [mNat, mNat]
    cases q : bt x n
    · simp only [Bool.false_eq_true, if_false]; omega
    · rw [hs n (by omega) q]; omega
def cMn (c : CD) (row : Int32) : Nat := mNat (clen c) row (cn c)
def rowA (c : CD) (h : Nat) (pr : Int32) : Int32 := pr &&& (cTk c h pr ^^^ (-1))
theorem rowA_sub {c : CD} {h : Nat} {pr : Int32} : sub (rowA c h pr) pr := fun i _ q => by
  unfold rowA at q
  rw [b_and, Bool.and_eq_true] at q
  exact q.1
def loopO {α : Type} (F : Nat → α → α) : Nat → Nat → α → α
  | 0, _, s => s
  | j + 1, h, s => loopO F j (h + 1) (F h s)
theorem loopO_id {α : Type} {F : Nat → α → α} {s : α} (h : ∀ k, F k s = s) : ∀ j i, loopO F j i s = s
  | 0, _ => rfl
  | j + 1, i => by rw [loopO, h, loopO_id h j]
def ordT (c : CD) : Nat → Nat → (Nat → Bool) → Int32 → Int32 → (Nat → Int32) → Int32 × (Nat → Int32) → Int32 × (Nat → Int32)
  | 0, _, _, _, m, path, s => if m ≤ s.1 then s else (m, path)
  | f + 1, k, A, pr, m, path, s => loopO (fun h s => if A h then ordT c f (k + 1) (fun i => A i && !(i == h)) (rowA c h pr) (m + cMin c (rowA c h pr)) (fun i => if i = k then nI h else path i) s else s) (ch c) 0 s
theorem mN_le {c : CD} {x : Int32} (hl : LenOk (cn c) (clen c)) (h10 : cn c ≤ 10) : cMn c x ≤ 600 := by
  have := mNat_le (row := x) hl
  unfold cMn; omega
theorem cMin_nat {c : CD} {x : Int32} (hl : LenOk (cn c) (clen c)) : cMin c x = nI (cMn c x) := sMin_nat hl
theorem ordT_prune {c : CD} (hl : LenOk (cn c) (clen c)) (h10 : cn c ≤ 10) : ∀ f k A pr mm path s, f ≤ 6 → mm ≤ 10000 - 600 * f → nI (mm + f * cMn c pr) ≤ s.1 → ordT c f k A pr (nI mm) path s = s
  | 0, k, A, pr, mm, path, s, _, hm, h => by
    rw [ordT, if_pos]
    simpa using h
  | f + 1, k, A, pr, mm, path, s, h6, hm, h => by
    rw [ordT]
    refine loopO_id (fun x => ?_) _ _
    split
    · have h1 : cMn c (rowA c x pr) ≤ cMn c pr := mNat_mono rowA_sub (by omega)
      have h2 := mN_le (x := pr) hl h10
      have h3 : f * cMn c (rowA c x pr) ≤ f * cMn c pr := Nat.mul_le_mul_left _ h1
      have h4 : f * cMn c pr ≤ f * 600 := Nat.mul_le_mul_left _ h2
      have h5 : (f + 1) * cMn c pr = f * cMn c pr + cMn c pr := Nat.succ_mul _ _
      rw [cMin_nat hl, nI_add]
      refine ordT_prune hl h10 f (k + 1) _ _ _ _ _ (by omega) (by omega) (Int32.le_trans (nI_le (by omega) ?_) h)
      rw [h5]
      omega
    · rfl
theorem ordT_le {c : CD} : ∀ f k A pr m path s, s.1 ≤ (ordT c f k A pr m path s).1
  | 0, k, A, pr, m, path, s => by
    rw [ordT]
    split
    · exact Int32.le_refl _
    · rename_i h
      exact Int32.le_of_lt (Int32.not_le.mp h)
  | f + 1, k, A, pr, m, path, s => by
    rw [ordT]
    have key : ∀ j i s, s.1 ≤ (loopO (fun h s => if A h then ordT c f (k + 1) (fun i => A i && !(i == h)) (rowA c h pr) (m + cMin c (rowA c h pr)) (fun i => if i = k then nI h else path i) s else s) j i s).1 := by
      intro j
      induction j with
      | zero => intro i s; exact Int32.le_refl _
      | succ j ih =>
        intro i s
        rw [loopO]
        refine Int32.le_trans ?_ (ih _ _)
        split
        · exact ordT_le f _ _ _ _ _ _
        · exact Int32.le_refl _
    exact key _ _ s
/-- with all halls that are left the leaf is reached -/
theorem ordT_pos {c : CD} (hl : LenOk (cn c) (clen c)) (h10 : cn c ≤ 10) : ∀ f k A pr mm path s, cntB A (ch c) = f → f ≤ 6 → mm ≤ 10000 - 600 * f → ¬ (ordT c f k A pr (nI mm) path s).1 < 0
  | 0, k, A, pr, mm, path, s, _, _, hm => by
    rw [ordT]
    have h0 : ¬ nI mm < 0 := nI_pos (by omega)
    split
    · rename_i h
      exact fun q => h0 (Int32.lt_of_le_of_lt h q)
    · exact h0
  | f + 1, k, A, pr, mm, path, s, hc, h6, hm => by
    rw [ordT]
    have key : ∀ j i s, i + j = ch c → (¬ s.1 < 0 ∨ ∃ x, i ≤ x ∧ x < ch c ∧ A x = true) → ¬ (loopO (fun h s => if A h then ordT c f (k + 1) (fun i => A i && !(i == h)) (rowA c h pr) (nI mm + cMin c (rowA c h pr)) (fun i => if i = k then nI h else path i) s else s) j i s).1 < 0 := by
      intro j
      induction j with
      | zero =>
        intro i s hi h
        rcases h with h | ⟨x, h1, h2, -⟩
        · exact h
        · omega
      | succ j ih =>
        intro i s hi h
        rw [loopO]
        refine ih (i + 1) _ (by omega) ?_
        cases q : A i
        · rcases h with h | ⟨x, h1, h2, h3⟩
          · exact .inl h
          · have : x ≠ i := fun e => by rw [e, q] at h3; exact absurd h3 (by decide)
            exact .inr ⟨x, by omega, h2, h3⟩
        · left
          have h1 := mN_le (x := rowA c i pr) hl h10
          rw [if_pos rfl, cMin_nat hl, nI_add]
          exact ordT_pos hl h10 f _ _ _ _ _ _ (by have := cntB_out (A := A) (n := ch c) (h := i) (by omega) q; omega) (by omega) (by omega)
    refine key _ _ _ (by omega) (.inr ?_)
    have hne : cntB A (ch c) ≠ 0 := by omega
    clear key hm h6 hc
    revert hne
    generalize ch c = n
    induction n with
    | zero => intro h; exact absurd rfl h
    | succ n ih =>
      intro h
      cases q : A n
      · rw [cntB, q] at h
        obtain ⟨x, h1, h2, h3⟩ := ih (by simpa using h)
        exact ⟨x, h1, by omega, h3⟩
      · exact ⟨n, Nat.zero_le _, by omega, q⟩
abbrev inO : Nat → Prop := fun b => b = 125 ∨ b = 126 ∨ b = 127
def OM (M : MM) (tot : Nat) (s : Int32 × (Nat → Int32)) : Prop := mi M 125 2 = s.1 ∧ (s.1 = -1 ∨ ∀ i, i < tot → mi M 127 i = s.2 i)
section TX6
variable {g : GG} {c : CD} {la lb pa pb0 rl : Nat}
theorem tX6_keepPath {d : Nat} {M : MM} (L : Lay M la lb pa pb0 rl) : R0 g YX6_keepPath d [.ref 125] M (fun rv M1 => rv = none ∧ (∀ i, i < 6 → mi M1 127 i = mi M 126 i) ∧ Fr (fun b => b = 127) M M1) := by
  refine R0.of (by decide +kernel) (Nat.le_of_ble_eq_true rfl) rfl (qX6_keepPath_0 ?_)
  have key := up0 (p := fun k => ∀ M1, Fr (fun b => b = 127) M M1 → (∀ i, i < k → mi M1 127 i = mi M 126 i) → E0 g YX6_keepPath d 2 [(0, .ref 125), (1, .int (nI k))] [] M1 (fun rv M1 => rv = none ∧ (∀ i, i < 6 → mi M1 127 i = mi M 126 i) ∧ Fr (fun b => b = 127) M M1)) 6 (fun M1 F H => ?_) (fun k hk ih M1 F H => ?_)
  · exact key M Fr.rf (fun i hi => absurd hi (by omega))
  · exact qX6_keepPath_2 (F.lay L) rfl (fun r => absurd (by decide) r) (fun r => absurd (by decide) r) (fun _ => ⟨rfl, H, F⟩) (fun r => absurd (by decide) r)
  · refine qX6_keepPath_2 (F.lay L) rfl (fun _ => vi hk (by decide)) (fun _ => vi hk (by decide)) (fun r => absurd r (ngl 6 rfl (by decide) hk)) (fun _ => ?_)
    rw [nI_1, nI_clamp (by omega)]
    refine ih _ (F.wi rfl) (fun i hi => ?_)
    rw [wi_at]
    by_cases e : i = k
    · subst e; rw [if_pos ⟨rfl, rfl⟩, F.i (by omega)]
    · rw [if_neg (by omega)]; exact H i (by omega)
theorem tX6_search (hl : LenOk (cn c) (clen c)) : ∀ (f k : Nat) (A : Nat → Bool) (pr : Int32) (mm : Nat) (path : Nat → Int32) (s : Int32 × (Nat → Int32)) (M : MM) (d : Nat), Lay M la lb pa pb0 rl → CoIs M la c → cntB A (ch c) = f → k + f ≤ 6 → mm ≤ 10000 - 600 * f → (∀ i, i < k → mi M 126 i = path i) → OM M (k + f) s → f + 4 ≤ d →
    R0 g YX6_search d [.ref 125, .ref la, .int (nI k), .int (pb A (ch c)), .int pr, .int (nI mm)] M (fun rv M1 => rv = none ∧ OM M1 (k + f) (ordT c f k A pr (nI mm) path s) ∧ (∀ i, i < k → mi M1 126 i = path i) ∧ Fr inO M M1)
  | 0, k, A, pr, mm, path, s, M, d, L, K, hc, h6, hm, hp, hO, hd => by
    have hla := L.la_lt
    have hz : pb A (ch c) = 0 := (pb_0 (by have := K.2.2.2.1; omega)).mpr hc
    refine R0.of (by decide +kernel) (Nat.le_of_ble_eq_true rfl) rfl (qX6_search_0 L rfl rfl (fun _ r => ?_) (fun _ r => ?_) (fun r => absurd hz r) (fun r => absurd hz r) (fun r => absurd hz r))
    · rw [hO.1] at r
      refine qX6_search_29 ⟨rfl, ?_, hp, Fr.rf⟩
      rw [ordT, if_pos r]
      exact hO
    · rw [hO.1] at r
      have F1 : Fr inO M (wi M 125 2 (nI mm)) := Fr.rf.wi (by omega)
      refine K0.set (d1 := d - 1) (by omega) (tX6_keepPath (F1.lay L)) ?_
      rintro rv M2 ⟨rfl, H2, F2⟩
      have e126 : ∀ i, mi (wi M 125 2 (nI mm)) 126 i = mi M 126 i := fun i => by rw [wi_at, if_neg (by omega)]
      refine qX6_search_29 ⟨rfl, ?_, fun i hi => ?_, F1.trans (F2.mono (fun b hb => by omega))⟩
      · rw [ordT, if_neg r]
        refine ⟨?_, .inr fun i hi => ?_⟩
        · rw [F2.i (by omega), wi_at, if_pos ⟨rfl, rfl⟩]
        · rw [H2 i (by omega), e126, hp i (by omega)]
      · rw [F2.i (by omega), e126, hp i hi]
  | f + 1, k, A, pr, mm, path, s, M, d, L, K, hc, h6, hm, hp, hO, hd => by
    have hla := L.la_lt
    have hc6 := K.2.2.2.1
    have h10 := K.2.1
    have hz : ¬ pb A (ch c) = 0 := fun z => by have := (pb_0 (by omega)).mp z; omega
    have hk6 : nI k < (6 : Int32) := (ltl 6 rfl (by decide) (by omega)).mpr (by omega)
    refine R0.of (by decide +kernel) (Nat.le_of_ble_eq_true rfl) rfl (qX6_search_0 L rfl rfl (fun r => absurd r hz) (fun r => absurd r hz) (fun _ _ => ?_) (fun _ r => absurd hk6 r) (fun _ r => absurd hk6 r))
    refine K0.ans (d1 := d - 1) (by omega) tJ6_bitCount (qX6_search_36 L.cla (K0.ans (d1 := d - 1) (by omega) (cMinutes L.cla K) ?_))
    have h2 := mN_le (x := pr) hl h10
    have h4 : (f + 1) * cMn c pr ≤ (f + 1) * 600 := Nat.mul_le_mul_left _ h2
    have e0 : nI mm + jBit (pb A (ch c)) * cMin c pr = nI (mm + (f + 1) * cMn c pr) := by
      rw [jBit_pb (by omega), hc, cMin_nat hl, pk_mul, nI_add]
    refine qX6_search_42 L (fun _ => ?_) (fun r => ?_)
    · have key := up0 (p := fun h => ∀ M1 s1, Fr inO M M1 → OM M1 (k + (f + 1)) s1 → (∀ i, i < k → mi M1 126 i = path i) → E0 g YX6_search d 55 [(0, .ref 125), (1, .ref la), (2, .int (nI k)), (3, .int (pb A (ch c))), (4, .int pr), (5, .int (nI mm)), (6, .int (nI h))] [] M1 (fun rv M2 => rv = none ∧ OM M2 (k + (f + 1)) (loopO (fun h s => if A h then ordT c f (k + 1) (fun i => A i && !(i == h)) (rowA c h pr) (nI mm + cMin c (rowA c h pr)) (fun i => if i = k then nI h else path i) s else s) (ch c - h) h s1) ∧ (∀ i, i < k → mi M2 126 i = path i) ∧ Fr inO M M2)) (ch c) (fun M1 s1 F1 O1 H1 => ?_) (fun h hh ih M1 s1 F1 O1 H1 => ?_)
      · rw [ordT]
        exact key M s Fr.rf hO hp
      · have K1 : CoIs M1 la c := K.fr F1 (fun k hk hb => by omega)
        have le : mi M1 la 5 ≤ nI (ch c) := by rw [K1.2.2.1]; exact nI_le (Nat.le_refl _) (by omega)
        rw [Nat.sub_self]
        exact qX6_search_55 (F1.lay L).cla (fun _ => ⟨rfl, O1, H1, F1⟩) (fun r => absurd le r) (fun r => absurd le r)
      · have K1 : CoIs M1 la c := K.fr F1 (fun k hk hb => by omega)
        have nle : ¬ mi M1 la 5 ≤ nI h := by rw [K1.2.2.1, nI_leI (by omega) (by omega)]; omega
        have e : ch c - h = (ch c - (h + 1)) + 1 := by omega
        have eb : bt (pb A (ch c)) h = A h := by rw [bt_pb A _ (by omega) h (by omega)]; simp [hh]
        rw [e, loopO]
        refine qX6_search_55 (F1.lay L).cla (fun r => absurd r nle) (fun _ r => ?_) (fun _ r => ?_)
        · rw [bit_f _ (by omega), eb] at r
          rw [r]
          refine qX6_search_124 ?_
          rw [nI_1]
          exact ih M1 s1 F1 O1 H1
        · rw [bit_t _ (by omega), eb] at r
          rw [r, if_pos rfl]
          refine K0.ans (d1 := d - 1) (by omega) (cTaken (F1.lay L).cla K1 hh (by omega)) ?_
          refine qX6_search_84 (F1.lay L) (F1.lay L).cla rfl (vi (by omega) (by decide)) ?_
          rw [nI_clamp (by omega)]
          have F2 : Fr inO M1 (wi M1 126 k (nI h)) := Fr.rf.wi (by omega)
          have F02 := F1.trans F2
          have K2 : CoIs (wi M1 126 k (nI h)) la c := K1.fr F2 (fun k hk hb => by omega)
          refine K0.ans (d1 := d - 1) (by omega) (cMinutes (F02.lay L).cla K2) ?_
          refine qX6_search_120 ((F02.lay L).s (a := 125) rfl (by decide)) ?_
          have h1 := mN_le (x := rowA c h pr) hl h10
          have ec : nI mm + cMin c (rowA c h pr) = nI (mm + cMn c (rowA c h pr)) := by rw [cMin_nat hl, nI_add]
          have hcnt := cntB_out (A := A) (n := ch c) (h := h) hh r
          have hrec := tX6_search hl f (k + 1) (fun i => A i && !(i == h)) (rowA c h pr) (mm + cMn c (rowA c h pr)) (fun i => if i = k then nI h else path i) s1 (wi M1 126 k (nI h)) (d - 1) (F02.lay L) K2 (by omega) (by omega) (by omega) (fun i hi => by
            rw [wi_at]
            by_cases e : i = k
            · subst e; rw [if_pos ⟨rfl, rfl⟩, if_pos rfl]
            · rw [if_neg (by omega), if_neg e]; exact H1 i (by omega)) ⟨by rw [wi_at, if_neg (by omega)]; exact O1.1, by
              rcases O1.2 with z | z
              · exact .inl z
              · exact .inr fun i hi => by rw [wi_at, if_neg (by omega)]; exact z i (by omega)⟩ (by omega)
          rw [← ec] at hrec
          rw [pb_out (by omega) (by omega), nI_1]
          refine K0.set (d1 := d - 1) (by omega) hrec ?_
          rintro rv M3 ⟨rfl, O3, H3, F3⟩
          refine qX6_search_124 ?_
          rw [nI_1]
          refine ih M3 _ (F02.trans F3) (by rw [show k + (f + 1) = k + 1 + f by omega]; exact O3) (fun i hi => ?_)
          rw [H3 i (by omega), if_neg (by omega)]
    · rw [e0, hO.1] at r
      refine ⟨rfl, ?_, hp, Fr.rf⟩
      rw [ordT_prune hl h10 (f + 1) k A pr mm path s (by omega) hm (Int32.not_lt.mp r)]
      exact hO
theorem tX6_find {A : Nat → Bool} {pr : Int32} {f d : Nat} {M : MM} (hl : LenOk (cn c) (clen c)) (L : Lay M la lb pa pb0 rl) (K : CoIs M la c) (hc : cntB A (ch c) = f) (h6 : f ≤ 6) (hd : f + 5 ≤ d) : R0 g YX6_find d [.ref 125, .ref la, .int (pb A (ch c)), .int pr] M (fun rv M1 => rv = none ∧ OM M1 f (ordT c f 0 A pr 0 (fun _ => 0) (-1, fun _ => 0)) ∧ Fr inO M M1) := by
  have hla := L.la_lt
  have F1 : Fr inO M (wi M 125 2 (-1)) := Fr.rf.wi (by omega)
  have K1 : CoIs (wi M 125 2 (-1)) la c := K.fr F1 (fun k hk hb => by omega)
  refine R0.of (by decide +kernel) (Nat.le_of_ble_eq_true rfl) rfl (qX6_find_0 L rfl (K0.set (d1 := d - 1) (by omega) (tX6_search hl f 0 A pr 0 (fun _ => 0) (-1, fun _ => 0) _ (d - 1) (F1.lay L) K1 hc (by omega) (by omega) (fun i hi => absurd hi (by omega)) ⟨by rw [wi_at, if_pos ⟨rfl, rfl⟩], .inl rfl⟩ (by omega)) ?_))
  rintro rv M2 ⟨rfl, O2, -, F2⟩
  refine qX6_find_14 ⟨rfl, ?_, F1.trans F2⟩
  rw [Nat.zero_add] at O2
  exact O2
end TX6
def ahA (c : CD) (v : TV) (h : Nat) : Bool := decide (nPl c v ≤ spl c v h)
theorem ahd_bt {c : CD} {v : TV} (h6 : ch c ≤ 6) : ∀ j p s i, p + j = ch c → i < 32 → bt (ahdF c v j p s) i = (bt s i || (decide (i < ch c) && decide (p ≤ spl c v i)))
  | 0, p, s, i, hp, hi => by
    rw [ahdF]
    by_cases q : i < ch c
    · have := spl_lt (v := v) q
      have : ¬ p ≤ spl c v i := by omega
      simp [this]
    · simp [q]
  | j + 1, p, s, i, hp, hi => by
    have hlt : p < ch c := by omega
    have hs := spl_lt (v := v) hlt
    rw [ahdF, ahd_bt h6 j (p + 1) _ i (by omega) hi, b_or, b_one (by omega) hi, Bool.or_assoc]
    congr 1
    by_cases q : i < ch c
    · by_cases e : i = spl c v p
      · have h1 : spl c v i = p := by rw [e]; exact spl_spl hlt
        simp [e, hs]
        rw [← e, h1]
        exact Nat.le_refl _
      · have h1 : ¬ spl c v i = p := fun z => e (by rw [← z]; exact (spl_spl q).symm)
        have h2 : decide (p + 1 ≤ spl c v i) = decide (p ≤ spl c v i) := by
          by_cases z : p ≤ spl c v i
          · rw [decide_eq_true z, decide_eq_true (by omega)]
          · rw [decide_eq_false z, decide_eq_false (by omega)]
        simp [e, h2]
    · have e : ¬ i = spl c v p := by omega
      simp [q, e]
theorem ahd_pb {c : CD} {v : TV} (h6 : ch c ≤ 6) (O : tOk c v) : ahdF c v (ch c - nPl c v) (nPl c v) 0 = pb (ahA c v) (ch c) := by
  have := nPl_le O h6
  refine pb_ext (by omega) fun i hi => ?_
  rw [ahd_bt h6 _ _ _ i (by omega) hi, b_0]
  rfl
theorem cnt_ah : ∀ H, H ≤ 6 → ∀ p, p ≤ H → cntB (fun h => decide (p ≤ h)) H = H - p ∧ cntB (fun h => decide (p ≤ H - 1 - h)) H = H - p := by decide +kernel
theorem ahA_cnt {c : CD} {v : TV} (h6 : ch c ≤ 6) (O : tOk c v) : cntB (ahA c v) (ch c) = ch c - nPl c v := by
  have hp := nPl_le O h6
  have h := cnt_ah (ch c) h6 (nPl c v) hp
  unfold ahA spl
  cases tu v
  · exact h.1
  · exact h.2
def ordR (c : CD) (v : TV) : Int32 × (Nat → Int32) := ordT c (ch c - nPl c v) 0 (ahA c v) (tp v) 0 (fun _ => 0) (-1, fun _ => 0)
def ordA (c : CD) (v : TV) (x : Int32) : Int32 := if x < -1 then -2 else if x < nI (ch c - nPl c v) then (if x = -1 then (ordR c v).1 else (ordR c v).2 x.toNatClampNeg) else -2
section TX6b
variable {g : GG} {d : Nat} {M : MM} {la lb pa pb0 rl : Nat} {c : CD} {v : TV}
theorem tX11_order {x : Int32} (hl : LenOk (cn c) (clen c)) (L : Lay M la lb pa pb0 rl) (K : CoIs M la c) (V : TrIs M 39 v) (O : tOk c v) (hd : 12 ≤ d) : R0 g YX11_order d [.ref 0, .int x] M (fun rv M1 => rv = some (.int (ordA c v x)) ∧ Fr inO M M1) := by
  have hla := L.la_lt
  have h6 := K.2.2.2.1
  have h10 := K.2.1
  have hp := nPl_le O h6
  refine R0.of (by decide +kernel) (Nat.le_of_ble_eq_true rfl) rfl (qX11_order_0 L (K0.ans (d1 := d - 1) (by omega) (tX11_nextPlace L K V O (by omega)) ?_))
  rw [K.2.2.1]
  unfold ordA
  have es : nI (ch c) - nI (nPl c v) = nI (ch c - nPl c v) := pk_sub hp
  refine qX11_order_11 L (fun r => ?_) (fun r1 r2 => ?_) (fun r1 r2 => ?_)
  · rw [if_pos r]; exact ⟨rfl, Fr.rf⟩
  · rw [es] at r2
    rw [if_neg r1, if_pos r2]
    refine K0.ans (d1 := d - 1) (by omega) (tX11_hallsAhead L K V O (by omega)) (qX11_order_38 L (L.s (a := 125) rfl (by decide)) ?_)
    rw [ahd_pb h6 O, V.1]
    refine K0.set (d1 := d - 1) (by omega) (tX6_find hl L K (ahA_cnt h6 O) (by omega) (by omega)) ?_
    rintro rv M1 ⟨rfl, O1, F1⟩
    have hx : ¬ x = -1 → ∃ k, k < ch c - nPl c v ∧ x = nI k := fun e => by
      have : ¬ x < 0 := fun q => by
        have h1 : ¬ x.toInt < -1 := fun z => r1 (Int32.lt_iff_toInt_lt.mpr (by rw [show (-1 : Int32).toInt = -1 from rfl]; exact z))
        have h2 : x.toInt < 0 := by
          have := Int32.lt_iff_toInt_lt.mp q
          rwa [show (0 : Int32).toInt = 0 from rfl] at this
        exact e (Int32.toInt_inj.mp (by rw [show (-1 : Int32).toInt = -1 from rfl]; omega))
      obtain ⟨k, k1, rfl⟩ := nI_of this
      rw [nI_ltI k1 (by omega)] at r2
      exact ⟨k, r2, rfl⟩
    refine qX11_order_48 (F1.lay L) (fun e => ?_) (fun e => ⟨?_, F1⟩) (fun e => ⟨?_, F1⟩)
    · obtain ⟨k, k1, rfl⟩ := hx e
      exact vi (by omega) (by decide)
    · obtain ⟨k, k1, rfl⟩ := hx e
      rw [if_neg e, nI_clamp (by omega)]
      rcases O1.2 with z | z
      · have hpos := ordT_pos hl h10 (ch c - nPl c v) 0 (ahA c v) (tp v) 0 (fun _ => 0) (-1, fun _ => 0) (ahA_cnt h6 O) (by omega) (by omega)
        have z : (ordT c (ch c - nPl c v) 0 (ahA c v) (tp v) (nI 0) (fun _ => 0) (-1, fun _ => 0)).1 = -1 := z
        rw [z] at hpos
        exact absurd (by decide) hpos
      · exact congrArg (fun q => some (Value.int q)) (z k k1)
    · rw [if_pos e]
      exact congrArg (fun q => some (Value.int q)) O1.1
  · rw [es] at r2
    rw [if_neg r1, if_neg r2]; exact ⟨rfl, Fr.rf⟩
end TX6b
