/-! ===== contracts of CountyPrint: sets, sights, shares, marks, counts ===== -/
theorem shl1 : ∀ h, h ≤ 10 → (1 : Int32) <<< (nI h &&& 31) = nI (2 ^ h) := by decide +kernel
theorem pow_le6 : ∀ h, h ≤ 6 → 2 ^ h ≤ 64 := by decide
theorem nI_m1 {k : Nat} (h : k < 2 ^ 31) : ¬ nI k = -1 := fun q => by
  have h1 := nI_pos h
  rw [q] at h1
  exact h1 (by decide)
/-- what each hall would show of the print -/
def cRow (c : CD) (v : TV) (i : Nat) : Int32 := tp v &&& ((if i < ch c then cTk c i (tp v) else 0) ^^^ (-1))
def seenF (c : CD) (v : TV) (set : Int32) : Nat → Nat → Int32 → Int32
  | 0, _, s => s
  | j + 1, i, s => if bt set i then seenF c v set j (i + 1) (s ||| (cRow c v i ||| td v i)) else seenF c v set j (i + 1) s
def cSeen (c : CD) (v : TV) (set : Int32) : Int32 := seenF c v set (ch c) 0 0
def rideF (c : CD) (v : TV) : Nat → Nat → Int32 → Int32
  | 0, _, b => b
  | j + 1, k, b => rideF c v j (k + 1) (if (b = -1 ∨ jBit (nI k) < jBit b) ∧ cSeen c v (nI k) = cFilm c then nI k else b)
def cLong (c : CD) (x y : Int32) : Bool := decide (0 < cMin c x - cMin c y) || (decide (cMin c x - cMin c y = 0) && decide (jBit x < jBit y))
def otherF (c : CD) (D : Int32) : Nat → Nat → Int32 → Int32
  | 0, _, b => b
  | j + 1, k, b => otherF c D j (k + 1) (if (nI k &&& (D ^^^ (-1))) = 0 ∧ cSen c (nI k) = true ∧ cLong c (nI k) b = true then nI k else b)
def oAns (c : CD) (x b : Int32) : Int32 := if x = 0 then cMin c b else if x = 1 then b else -1
def mendF (c : CD) (p D : Int32) : Nat → Nat → Int32 → Int32
  | 0, _, b => b
  | j + 1, k, b => mendF c p D j (k + 1) (if (b = -1 ∨ jBit (nI k) < jBit b) ∧ (nI k &&& (D ^^^ (-1))) = 0 ∧ cSen c (p ||| nI k) = true then nI k else b)
def cHat (c : CD) (hl : Nat) (row : Int32) : Int32 := (sHat (csrt c) (cvd c) hl row (cn c)).1
def tasteF (c : CD) (x y : Nat) : Nat → Nat → Int32 → Int32
  | 0, _, m => m
  | j + 1, k, m => tasteF c x y j (k + 1) (if cHat c x ((1 : Int32) <<< (nI k &&& 31)) = cHat c y ((1 : Int32) <<< (nI k &&& 31)) then m + 1 else m)
def mildF (c : CD) : Nat → Nat → Int32 → Int32 → Int32
  | 0, _, _, b => b
  | j + 1, k, m, b => if b = -1 ∨ ¬ m ≤ cMin c (cTk c k (cFilm c)) then mildF c j (k + 1) (cMin c (cTk c k (cFilm c))) (nI k) else mildF c j (k + 1) m b
def hallF (c : CD) (v : TV) (w : SV) : Nat → Nat → Int32 → Int32
  | 0, _, s => s
  | j + 1, k, s => hallF c v w j (k + 1) (if sFit (cRow c v k) w w.1 0 then s ||| ((1 : Int32) <<< (nI k &&& 31)) else s)
def cHalls (c : CD) (v : TV) (w : SV) : Int32 := hallF c v w (ch c) 0 0
def shwF (c : CD) (v : TV) (set k : Int32) : Nat → Nat → Int32 → Int32
  | 0, _, m => m
  | j + 1, i, m => if bt set i then shwF c v set k j (i + 1) (m + ((cRow c v i >>> (k &&& 31)) &&& 1)) else shwF c v set k j (i + 1) m
def cGrt (c : CD) (v : TV) (set k : Int32) : Int32 := if shwF c v set k (ch c) 0 0 < jBit set - shwF c v set k (ch c) 0 0 then jBit set - shwF c v set k (ch c) 0 0 else shwF c v set k (ch c) 0 0
def askF (c : CD) (v : TV) (set : Int32) : Nat → Nat → Int32 → Int32 → Int32
  | 0, _, _, b => b
  | j + 1, k, m, b => if m ≤ cGrt c v set (nI k) then askF c v set j (k + 1) m b else askF c v set j (k + 1) (cGrt c v set (nI k)) (nI k)
section TX11c
variable {g : GG} {d : Nat} {M : MM} {la lb pa pb rl : Nat} {c : CD} {v : TV} {u : UV} {q : PV} {w : SV}
theorem dOr_eq {f h : Nat → Int32} : ∀ {n : Nat}, (∀ k, k < n → f k = h k) → dOr f n = dOr h n
  | 0, _ => rfl
  | n + 1, e => by rw [dOr, dOr, dOr_eq (fun k hk => e k (by omega)), e n (by omega)]
theorem cDrawn {t : Nat} (C : Trv M t) (V : TrIs M t v) : R0 g YX10_drawn d [.ref t] M (Ans (dOr (td v) 6) M) := by
  have := tX10_drawn (g := g) (d := d) C
  rw [dOr_eq V.2.1] at this
  exact this
theorem cFilmT {a : Nat} (C : Cty M a) (K : CoIs M a c) : R0 g YX0_film d [.ref a] M (Ans (cFilm c) M) := by
  have := tX0_film (g := g) (d := d) C
  rw [K.1] at this
  exact this
theorem tX11_fillRows (L : Lay M la lb pa pb rl) (K : CoIs M la c) (V : TrIs M 39 v) (hd : 4 ≤ d) : R0 g YX11_fillRows d [.ref 0] M (fun rv M1 => rv = none ∧ (∀ i, i < 6 → mi M1 129 i = cRow c v i) ∧ Fr (fun b => b = 129) M M1) := by
  have hla := L.la_lt
  have h6 := K.2.2.2.1
  refine R0.of (by decide +kernel) (Nat.le_of_ble_eq_true rfl) rfl (qX11_fillRows_0 ?_)
  refine up0 (p := fun k => ∀ M1, Fr (fun b => b = 129) M M1 → (∀ i, i < k → mi M1 129 i = cRow c v i) → E0 g YX11_fillRows d 2 [(0, .ref 0), (1, .int (nI k))] [] M1 _) 6 (fun M1 F h1 => ?_) (fun k hk ih M1 F h1 => ?_) M Fr.rf (fun i hi => absurd hi (Nat.not_lt_zero _))
  · exact qX11_fillRows_2 (F.lay L) (fun _ => ⟨rfl, h1, F⟩) (fun r => absurd (by decide) r)
  · have K1 : CoIs M1 la c := K.fr F (fun k hk hb => by omega)
    have V1 : TrIs M1 39 v := V.fr F (fun hb => by omega) (fun hb => by omega)
    have L1 := F.lay L
    have step : ∀ tk : Int32, tk = (if k < ch c then cTk c k (tp v) else 0) → E0 g YX11_fillRows d 35 [(0, .ref 0), (1, .int (nI k))] [.int tk, .int (tp v), .int (nI k), .ref 129] M1 (fun rv M1 => rv = none ∧ (∀ i, i < 6 → mi M1 129 i = cRow c v i) ∧ Fr (fun b => b = 129) M M1) := fun tk etk => by
      refine qX11_fillRows_35 rfl (L1.s (a := 129) (t := 1) (n := 6) rfl (by decide)) (vi hk (by decide)) ?_
      rw [nI_1, nI_clamp (by omega)]
      refine ih _ (F.wi rfl) (fun i hi => ?_)
      by_cases e : i = k
      · subst e; simp [wi_at, cRow, etk]
      · simp [wi_at, e, h1 i (by omega)]
    refine qX11_fillRows_2 L1 (fun r => absurd r (ngl 6 rfl (by decide) hk)) (fun _ => ?_)
    rw [V1.1]
    by_cases e : k < ch c
    · exact K0.ans (d1 := d - 1) (by omega) (cTaken L1.cla K1 e (by omega)) (step _ (by rw [if_pos e]))
    · refine K0.ans (d1 := d - 1) (by omega) (tX0_takenOutNo L1.cla ?_ (by omega)) (step _ (by rw [if_neg e]))
      rw [K1.2.2.1, sIn_nI (by omega) (by omega)]
      exact decide_eq_false e
theorem tX11_seenBy {set : Int32} (L : Lay M la lb pa pb rl) (K : CoIs M la c) (V : TrIs M 39 v) (R : ∀ i, i < 6 → mi M 129 i = cRow c v i) : R0 g YX11_seenBy d [.ref 0, .int set] M (Ans (cSeen c v set) M) := by
  have h6 := K.2.2.2.1
  have le : mi M la 5 ≤ nI (ch c) := by rw [K.2.2.1]; exact nI_le (Nat.le_refl _) (by omega)
  have nle : ∀ i, i < ch c → ¬ mi M la 5 ≤ nI i := fun i hi => by rw [K.2.2.1, nI_leI (by omega) (by omega)]; omega
  refine R0.of (by decide +kernel) (Nat.le_of_ble_eq_true rfl) rfl (qX11_seenBy_0 ?_)
  refine up0 (p := fun k => ∀ s, E0 g YX11_seenBy d 4 [(0, .ref 0), (1, .int set), (2, .int s), (3, .int (nI k))] [] M (Ans (seenF c v set (ch c - k) k s) M)) (ch c) (fun s => ?_) (fun k hk ih s => ?_) 0
  · rw [Nat.sub_self]
    exact qX11_seenBy_4 L (fun r => absurd le r) (fun r => absurd le r) (fun _ => ⟨rfl, rfl⟩) (fun r => absurd le r) (fun r => absurd le r)
  · have e : ch c - k = (ch c - (k + 1)) + 1 := by omega
    rw [e, seenF]
    refine qX11_seenBy_4 L (fun _ _ => vi (by omega) (by decide)) (fun _ _ => vi (by omega) (by decide)) (fun r => absurd r (nle k hk)) (fun _ r => ?_) (fun _ r => ?_)
    · rw [bit_f _ (by omega)] at r
      rw [r, nI_1]; exact ih s
    · rw [bit_t _ (by omega)] at r
      rw [r, if_pos rfl, nI_1, nI_clamp (by omega), R k (by omega), show mi M 40 k = td v k from V.2.1 k (by omega)]; exact ih _
theorem tX11_ride (L : Lay M la lb pa pb rl) (K : CoIs M la c) (V : TrIs M 39 v) (hd : 5 ≤ d) : R0 g YX11_ride d [.ref 0] M (fun rv M1 => rv = some (.int (rideF c v (2 ^ ch c) 0 (-1))) ∧ Fr (fun b => b = 129) M M1) := by
  have hla := L.la_lt
  have h6 := K.2.2.2.1
  have p6 := pow_le6 _ h6
  refine R0.of (by decide +kernel) (Nat.le_of_ble_eq_true rfl) rfl (qX11_ride_0 L (K0.set (d1 := d - 1) (by omega) (tX11_fillRows L K V (by omega)) ?_))
  rintro rv M1 ⟨rfl, R, F⟩
  have K1 : CoIs M1 la c := K.fr F (fun k hk hb => by omega)
  have V1 : TrIs M1 39 v := V.fr F (fun hb => by omega) (fun hb => by omega)
  have L1 := F.lay L
  refine qX11_ride_4 L1 (K0.ans (d1 := d - 1) (by omega) (cFilmT L1.cla K1) (qX11_ride_11 ?_))
  have e5 : (1 : Int32) <<< (mi M1 la 5 &&& 31) = nI (2 ^ ch c) := by rw [K1.2.2.1]; exact shl1 _ (by omega)
  refine up0 (p := fun k => ∀ b, E0 g YX11_ride d 16 [(0, .ref 0), (1, .int (cFilm c)), (2, .int b), (3, .int (nI k))] [] M1 (fun rv M2 => rv = some (.int (rideF c v (2 ^ ch c - k) k b)) ∧ Fr (fun b => b = 129) M M2)) (2 ^ ch c) (fun b => ?_) (fun k hk ih b => ?_) (-1)
  · rw [Nat.sub_self]
    have le : (1 : Int32) <<< (mi M1 la 5 &&& 31) ≤ nI (2 ^ ch c) := by rw [e5]; exact nI_le (Nat.le_refl _) (by omega)
    exact qX11_ride_16 L1 (fun _ => ⟨rfl, F⟩) (fun r => absurd le r) (fun r => absurd le r)
  · have nle : ¬ (1 : Int32) <<< (mi M1 la 5 &&& 31) ≤ nI k := by rw [e5, nI_leI (by omega) (by omega)]; omega
    have e : 2 ^ ch c - k = (2 ^ ch c - (k + 1)) + 1 := by omega
    rw [e, rideF]
    have sb : (b = -1 ∨ jBit (nI k) < jBit b) → K0 g YX11_ride YX11_seenBy d 62 [.ref 0, .int (nI k)] [(0, .ref 0), (1, .int (cFilm c)), (2, .int b), (3, .int (nI k))] [] M1 (fun rv M2 => rv = some (.int (rideF c v (2 ^ ch c - (k + 1)) (k + 1) (if (b = -1 ∨ jBit (nI k) < jBit b) ∧ cSeen c v (nI k) = cFilm c then nI k else b))) ∧ Fr (fun b => b = 129) M M2) := fun hb => by
      refine K0.ans (d1 := d - 1) (by omega) (tX11_seenBy L1 K1 V1 R) (qX11_ride_62 (fun r => ?_) (fun r => ?_))
      · rw [if_neg (fun z => r z.2), nI_1]; exact ih b
      · rw [if_pos ⟨hb, r⟩, nI_1]; exact ih _
    refine qX11_ride_16 L1 (fun r => absurd r nle) (fun _ r => sb (Or.inl r)) (fun _ r => ?_)
    refine K0.ans (d1 := d - 1) (by omega) tJ6_bitCount (qX11_ride_38 (K0.ans (d1 := d - 1) (by omega) tJ6_bitCount (qX11_ride_42 L1 (fun r2 => ?_) (fun r2 => sb (Or.inr (Int32.not_le.mp r2))))))
    have nb : ¬ jBit (nI k) < jBit b := Int32.not_lt.mpr r2
    rw [if_neg (fun z => by rcases z.1 with z | z; exact r z; exact nb z), nI_1]
    exact ih b
theorem cLonger {a : Nat} {x y : Int32} (C : Cty M a) (K : CoIs M a c) (hd : 1 ≤ d) : R0 g YX0_isLonger d [.ref a, .int x, .int y] M (Ans (b2i (cLong c x y)) M) := by
  have := tX0_isLonger (g := g) (d := d) (x := x) (y := y) C K.1 K.2.1 hd
  rw [K.2.2.2.2.2.1] at this
  exact this
theorem tX11_other {D : Nat} {x : Int32} (L : Lay M la lb pa pb rl) (K : CoIs M la c) (V : TrIs M 39 v) (hD : dOr (td v) 6 = nI D) (hD2 : D < 1024) (hd : 2 ≤ d) : R0 g YX11_other d [.ref 0, .int x] M (Ans (oAns c x (otherF c (nI D) (D + 1) 0 0)) M) := by
  have key : x = 0 ∨ x = 1 → K0 g YX11_other YX10_drawn d 18 [.ref 39] [(0, .ref 0), (1, .int x)] [] M (Ans (oAns c x (otherF c (nI D) (D + 1) 0 0)) M) := fun hx => by
    refine K0.ans (d1 := d - 1) (by omega) (cDrawn L.tn V) (qX11_other_18 ?_)
    rw [hD]
    refine up0 (p := fun k => ∀ b, E0 g YX11_other d 24 [(0, .ref 0), (1, .int x), (2, .int (nI D)), (3, .int b), (4, .int (nI k))] [] M (Ans (oAns c x (otherF c (nI D) (D + 1 - k) k b)) M)) (D + 1) (fun b => ?_) (fun k hk ih b => ?_) 0
    · rw [Nat.sub_self]
      have lt : nI D < nI (D + 1) := nI_lt (by omega) (by omega)
      refine qX11_other_24 L (fun _ r => ?_) (fun _ r => ?_) (fun r => absurd lt r) (fun r => absurd lt r)
      · rcases hx with hx | hx
        · exact absurd hx r
        · unfold oAns; rw [if_neg r, if_pos hx]; exact ⟨rfl, rfl⟩
      · unfold oAns; rw [if_pos r]
        exact K0.ans (d1 := d - 1) (by omega) (cMinutes L.cla K) (qX11_other_85 ⟨rfl, rfl⟩)
    · have nlt : ¬ nI D < nI k := by rw [nI_ltI (by omega) (by omega)]; omega
      have e : D + 1 - k = (D + 1 - (k + 1)) + 1 := by omega
      rw [e, otherF]
      refine qX11_other_24 L (fun r => absurd r nlt) (fun r => absurd r nlt) (fun _ r => ?_) (fun _ r => ?_)
      · rw [if_neg (fun z => r z.1), nI_1]; exact ih b
      · refine K0.ans (d1 := d - 1) (by omega) (cSense L.cla K) (qX11_other_48 L (fun r2 => ?_) (fun r2 => ?_))
        · rw [b2i_z] at r2
          rw [if_neg (fun z => by rw [r2] at z; exact absurd z.2.1 (by decide)), nI_1]; exact ih b
        · rw [b2i_n] at r2
          refine K0.ans (d1 := d - 1) (by omega) (cLonger L.cla K (by omega)) (qX11_other_61 (fun r3 => ?_) (fun r3 => ?_))
          · rw [b2i_z] at r3
            rw [if_neg (fun z => by rw [r3] at z; exact absurd z.2.2 (by decide)), nI_1]; exact ih b
          · rw [b2i_n] at r3
            rw [if_pos ⟨r, r2, r3⟩, nI_1]; exact ih _
  refine R0.of (by decide +kernel) (Nat.le_of_ble_eq_true rfl) rfl (qX11_other_0 L (fun r => key (Or.inl r)) (fun _ r => key (Or.inr r)) (fun r1 r2 => ?_))
  unfold oAns; rw [if_neg r1, if_neg r2]; exact ⟨rfl, rfl⟩
theorem tX11_mends {D : Nat} (L : Lay M la lb pa pb rl) (K : CoIs M la c) (V : TrIs M 39 v) (hD : dOr (td v) 6 = nI D) (hD2 : D < 1024) (hd : 2 ≤ d) : R0 g YX11_mends d [.ref 0] M (Ans (mendF c (tp v) (nI D) (D + 1) 0 (-1)) M) := by
  refine R0.of (by decide +kernel) (Nat.le_of_ble_eq_true rfl) rfl (qX11_mends_0 L (K0.ans (d1 := d - 1) (by omega) (cDrawn L.tn V) (qX11_mends_7 ?_)))
  rw [hD]
  refine up0 (p := fun k => ∀ b, E0 g YX11_mends d 12 [(0, .ref 0), (1, .int (nI D)), (2, .int b), (3, .int (nI k))] [] M (Ans (mendF c (tp v) (nI D) (D + 1 - k) k b) M)) (D + 1) (fun b => ?_) (fun k hk ih b => ?_) (-1)
  · rw [Nat.sub_self]
    have lt : nI D < nI (D + 1) := nI_lt (by omega) (by omega)
    exact qX11_mends_12 L (fun _ => ⟨rfl, rfl⟩) (fun r => absurd lt r) (fun r => absurd lt r) (fun r => absurd lt r)
  · have nlt : ¬ nI D < nI k := by rw [nI_ltI (by omega) (by omega)]; omega
    have e : D + 1 - k = (D + 1 - (k + 1)) + 1 := by omega
    rw [e, mendF]
    have sb : (b = -1 ∨ jBit (nI k) < jBit b) → (nI k &&& (nI D ^^^ (-1))) = 0 → K0 g YX11_mends YX0_makesSense d 69 [.ref la, .int ((mi M 39 0) ||| nI k)] [(0, .ref 0), (1, .int (nI D)), (2, .int b), (3, .int (nI k))] [] M (Ans (mendF c (tp v) (nI D) (D + 1 - (k + 1)) (k + 1) (if (b = -1 ∨ jBit (nI k) < jBit b) ∧ (nI k &&& (nI D ^^^ (-1))) = 0 ∧ cSen c (tp v ||| nI k) = true then nI k else b)) M) := fun h1 h2 => by
      rw [V.1]
      refine K0.ans (d1 := d - 1) (by omega) (cSense L.cla K) (qX11_mends_69 (fun r => ?_) (fun r => ?_))
      · rw [b2i_z] at r
        rw [if_neg (fun z => by rw [r] at z; exact absurd z.2.2 (by decide)), nI_1]; exact ih b
      · rw [b2i_n] at r
        rw [if_pos ⟨h1, h2, r⟩, nI_1]; exact ih _
    refine qX11_mends_12 L (fun r => absurd r nlt) (fun _ r r2 => ?_) (fun _ r r2 => sb (Or.inl r) r2) (fun _ r => ?_)
    · rw [if_neg (fun z => r2 z.2.1), nI_1]; exact ih b
    · refine K0.ans (d1 := d - 1) (by omega) tJ6_bitCount (qX11_mends_26 (K0.ans (d1 := d - 1) (by omega) tJ6_bitCount (qX11_mends_30 L (fun r2 => ?_) (fun r2 r3 => ?_) (fun r2 r3 => sb (Or.inr (Int32.not_le.mp r2)) r3))))
      · have nb : ¬ jBit (nI k) < jBit b := Int32.not_lt.mpr r2
        rw [if_neg (fun z => by rcases z.1 with z | z; exact r z; exact nb z), nI_1]; exact ih b
      · rw [if_neg (fun z => r3 z.2.1), nI_1]; exact ih b
theorem cHated {a hl : Nat} {row : Int32} (C : Cty M a) (K : CoIs M a c) (h : hl < ch c) (hd : 2 ≤ d) : R0 g YX0_hatedIn d [.ref a, .int (nI hl), .int row] M (Ans (cHat c hl row) M) := by
  have := tX0_hatedIn (g := g) (d := d) (row := row) C K.1 K.2.1 K.2.2.1 K.2.2.2.1 h hd
  rw [K.2.2.2.2.1, K.2.2.2.2.2.2.2.2] at this
  exact this
theorem tX11_taste {i o : Int32} (L : Lay M la lb pa pb rl) (K : CoIs M la c) (hd : 3 ≤ d) : R0 g YX11_taste d [.ref 0, .int i, .int o] M (Ans (if sIn i (nI (ch c)) = true ∧ sIn o (nI (ch c)) = true ∧ ¬ i = o then tasteF c i.toNatClampNeg o.toNatClampNeg (cn c) 0 0 else -1) M) := by
  have h6 := K.2.2.2.1
  have h10 := K.2.1
  have le : mi M la 0 ≤ nI (cn c) := by rw [K.1]; exact nI_le (Nat.le_refl _) (by omega)
  have nle : ∀ i, i < cn c → ¬ mi M la 0 ≤ nI i := fun i hi => by rw [K.1, nI_leI (by omega) (by omega)]; omega
  refine R0.of (by decide +kernel) (Nat.le_of_ble_eq_true rfl) rfl (qX11_taste_0 L (K0.ans (d1 := d - 1) (by omega) (cIsHall L.cla K) (qX11_taste_8 L (fun r => ?_) (fun r => ?_))))
  · rw [b2i_z] at r
    rw [if_neg (fun z => by rw [r] at z; exact absurd z.1 (by decide))]; exact ⟨rfl, rfl⟩
  · rw [b2i_n] at r
    refine K0.ans (d1 := d - 1) (by omega) (cIsHall L.cla K) (qX11_taste_19 (fun r2 => ?_) (fun r2 r3 => ?_) (fun r2 r3 => ?_))
    · rw [b2i_z] at r2
      rw [if_neg (fun z => by rw [r2] at z; exact absurd z.2.1 (by decide))]; exact ⟨rfl, rfl⟩
    · rw [b2i_n] at r2
      rw [if_pos ⟨r, r2, r3⟩]
      obtain ⟨x, hx, rfl⟩ := sIn_of (by omega) r
      obtain ⟨y, hy, rfl⟩ := sIn_of (by omega) r2
      rw [nI_clamp (by omega), nI_clamp (by omega)]
      refine up0 (p := fun k => ∀ m, E0 g YX11_taste d 34 [(0, .ref 0), (1, .int (nI x)), (2, .int (nI y)), (3, .int m), (4, .int (nI k))] [] M (Ans (tasteF c x y (cn c - k) k m) M)) (cn c) (fun m => ?_) (fun k hk ih m => ?_) 0
      · rw [Nat.sub_self]
        exact qX11_taste_34 L (fun _ => ⟨rfl, rfl⟩) (fun q => absurd le q)
      · have e : cn c - k = (cn c - (k + 1)) + 1 := by omega
        rw [e, tasteF]
        refine qX11_taste_34 L (fun q => absurd q (nle k hk)) (fun _ => K0.ans (d1 := d - 1) (by omega) (cHated L.cla K hx (by omega)) (qX11_taste_58 L (K0.ans (d1 := d - 1) (by omega) (cHated L.cla K hy (by omega)) (qX11_taste_70 (fun q => ?_) (fun q => ?_)))))
        · rw [if_neg q, nI_1]; exact ih m
        · rw [if_pos q, nI_1]; exact ih _
    · rw [if_neg (fun z => z.2.2 r3)]; exact ⟨rfl, rfl⟩
theorem tX11_mild (L : Lay M la lb pa pb rl) (K : CoIs M la c) (hd : 4 ≤ d) : R0 g YX11_mild d [.ref 0] M (Ans (mildF c (ch c) 0 0 (-1)) M) := by
  have h6 := K.2.2.2.1
  have le : mi M la 5 ≤ nI (ch c) := by rw [K.2.2.1]; exact nI_le (Nat.le_refl _) (by omega)
  have nle : ∀ i, i < ch c → ¬ mi M la 5 ≤ nI i := fun i hi => by rw [K.2.2.1, nI_leI (by omega) (by omega)]; omega
  refine R0.of (by decide +kernel) (Nat.le_of_ble_eq_true rfl) rfl (qX11_mild_0 ?_)
  refine up0 (p := fun k => ∀ m b, E0 g YX11_mild d 6 [(0, .ref 0), (1, .int m), (2, .int b), (3, .int (nI k))] [] M (Ans (mildF c (ch c - k) k m b) M)) (ch c) (fun m b => ?_) (fun k hk ih m b => ?_) 0 (-1)
  · rw [Nat.sub_self]
    exact qX11_mild_6 L (fun _ => ⟨rfl, rfl⟩) (fun r => absurd le r)
  · have e : ch c - k = (ch c - (k + 1)) + 1 := by omega
    rw [e, mildF]
    refine qX11_mild_6 L (fun r => absurd r (nle k hk)) (fun _ => K0.ans (d1 := d - 1) (by omega) (cFilmT L.cla K) (qX11_mild_33 L.cla.o (K0.ans (d1 := d - 1) (by omega) (cTaken L.cla K hk (by omega)) (qX11_mild_36 L.cla.o (K0.ans (d1 := d - 1) (by omega) (cMinutes L.cla K) (qX11_mild_39 (fun r => ?_) (fun r r2 => ?_) (fun r r2 => ?_)))))))
    · rw [if_pos (Or.inl r), nI_1]; exact ih _ _
    · rw [if_neg (fun z => by rcases z with z | z; exact r z; exact z r2), nI_1]; exact ih _ _
    · rw [if_pos (Or.inr r2), nI_1]; exact ih _ _
theorem tX11_see {i : Int32} {b : Bool} (L : Lay M la lb pa pb rl) (K : CoIs M la c) (W : SgIs M 77 w) (hd : 1 ≤ d) : R0 g YX11_see d [.ref 0, .int i, .int (b2i b)] M (fun rv M1 => rv = some (.int (b2i (sIn i (nI (cn c)) && decide (w.1 < 8)))) ∧ SgIs M1 77 (if sIn i (nI (cn c)) = true ∧ w.1 < 8 then (w.1 + 1, (fun j => if j = w.1 then i else w.2.1 j), (fun j => if j = w.1 then b else w.2.2 j)) else w) ∧ Fr (inS 77) M M1) := by
  refine R0.of (by decide +kernel) (Nat.le_of_ble_eq_true rfl) rfl (qX11_see_0 L (K0.ans (d1 := d - 1) (by omega) (cIsShot L.cla K) (qX11_see_8 L (fun r => ?_) (fun r => ?_))))
  · rw [b2i_z] at r
    rw [r, if_neg (fun z => absurd z.1 (by decide))]; exact ⟨rfl, W, Fr.rf⟩
  · rw [b2i_n] at r
    refine K0.set (d1 := d - 1) (by omega) (tX8_add L.sg W) ?_
    rintro rv M1 ⟨rfl, W1, F1⟩
    rw [r, Bool.true_and]
    by_cases e : w.1 < 8
    · rw [if_pos e] at W1
      rw [if_pos ⟨rfl, e⟩, decide_eq_true e]
      exact qX11_see_20 (fun q => absurd q (by decide)) (fun _ => ⟨rfl, W1, F1⟩)
    · rw [if_neg e] at W1
      rw [if_neg (fun z => e z.2), decide_eq_false e]
      exact qX11_see_20 (fun _ => ⟨rfl, W1, F1⟩) (fun q => absurd rfl q)
theorem tX11_halls (L : Lay M la lb pa pb rl) (K : CoIs M la c) (V : TrIs M 39 v) (W : SgIs M 77 w) (hd : 5 ≤ d) : R0 g YX11_halls d [.ref 0] M (fun rv M1 => rv = some (.int (cHalls c v w)) ∧ (∀ i, i < 6 → mi M1 129 i = cRow c v i) ∧ Fr (fun b => b = 129) M M1) := by
  have hla := L.la_lt
  have h6 := K.2.2.2.1
  refine R0.of (by decide +kernel) (Nat.le_of_ble_eq_true rfl) rfl (qX11_halls_0 L (K0.set (d1 := d - 1) (by omega) (tX11_fillRows L K V (by omega)) ?_))
  rintro rv M1 ⟨rfl, R, F⟩
  have K1 : CoIs M1 la c := K.fr F (fun k hk hb => by omega)
  have W1 : SgIs M1 77 w := W.fr F (fun hb => by omega) (fun hb => by omega) (fun hb => by omega)
  have L1 := F.lay L
  have le : mi M1 la 5 ≤ nI (ch c) := by rw [K1.2.2.1]; exact nI_le (Nat.le_refl _) (by omega)
  have nle : ∀ i, i < ch c → ¬ mi M1 la 5 ≤ nI i := fun i hi => by rw [K1.2.2.1, nI_leI (by omega) (by omega)]; omega
  refine qX11_halls_4 ?_
  refine up0 (p := fun k => ∀ s, E0 g YX11_halls d 8 [(0, .ref 0), (1, .int s), (2, .int (nI k))] [] M1 (fun rv M2 => rv = some (.int (hallF c v w (ch c - k) k s)) ∧ (∀ i, i < 6 → mi M2 129 i = cRow c v i) ∧ Fr (fun b => b = 129) M M2)) (ch c) (fun s => ?_) (fun k hk ih s => ?_) 0
  · rw [Nat.sub_self]
    exact qX11_halls_8 L1 (fun r => absurd le r) (fun _ => ⟨rfl, R, F⟩) (fun r => absurd le r)
  · have e : ch c - k = (ch c - (k + 1)) + 1 := by omega
    rw [e, hallF]
    refine qX11_halls_8 L1 (fun _ => vi (by omega) (by decide)) (fun r => absurd r (nle k hk)) (fun _ => ?_)
    rw [nI_clamp (by omega), R k (by omega)]
    refine K0.ans (d1 := d - 1) (by omega) (tX8_fit L1.sg W1) (qX11_halls_32 (fun r => ?_) (fun r => ?_))
    · rw [b2i_z] at r
      rw [r, nI_1]; exact ih s
    · rw [b2i_n] at r
      rw [r, if_pos rfl, nI_1]; exact ih _
theorem tX11_greaterPart {set k : Int32} (L : Lay M la lb pa pb rl) (K : CoIs M la c) (R : ∀ i, i < 6 → mi M 129 i = cRow c v i) (hd : 1 ≤ d) : R0 g YX11_greaterPart d [.ref 0, .int set, .int k] M (Ans (cGrt c v set k) M) := by
  have h6 := K.2.2.2.1
  have le : mi M la 5 ≤ nI (ch c) := by rw [K.2.2.1]; exact nI_le (Nat.le_refl _) (by omega)
  have nle : ∀ i, i < ch c → ¬ mi M la 5 ≤ nI i := fun i hi => by rw [K.2.2.1, nI_leI (by omega) (by omega)]; omega
  refine R0.of (by decide +kernel) (Nat.le_of_ble_eq_true rfl) rfl (qX11_greaterPart_0 ?_)
  refine up0 (p := fun i => ∀ m, E0 g YX11_greaterPart d 5 [(0, .ref 0), (1, .int set), (2, .int k), (3, .int m), (4, .int (nI i))] [] M (Ans (if shwF c v set k (ch c - i) i m < jBit set - shwF c v set k (ch c - i) i m then jBit set - shwF c v set k (ch c - i) i m else shwF c v set k (ch c - i) i m) M)) (ch c) (fun m => ?_) (fun i hi ih m => ?_) 0
  · rw [Nat.sub_self]
    exact qX11_greaterPart_5 L (fun r => absurd le r) (fun _ => K0.ans (d1 := d - 1) (by omega) tJ6_bitCount (qX11_greaterPart_52 hd ⟨rfl, rfl⟩)) (fun r => absurd le r) (fun r => absurd le r)
  · have e : ch c - i = (ch c - (i + 1)) + 1 := by omega
    rw [e, shwF]
    refine qX11_greaterPart_5 L (fun _ _ => vi (by omega) (by decide)) (fun r => absurd r (nle i hi)) (fun _ r => ?_) (fun _ r => ?_)
    · rw [bit_f _ (by omega)] at r
      rw [r, nI_1]; exact ih m
    · rw [bit_t _ (by omega)] at r
      rw [r, if_pos rfl, nI_1, nI_clamp (by omega), R i (by omega)]; exact ih _
theorem tX11_ask (L : Lay M la lb pa pb rl) (K : CoIs M la c) (V : TrIs M 39 v) (W : SgIs M 77 w) (hd : 6 ≤ d) : R0 g YX11_ask d [.ref 0] M (fun rv M1 => rv = some (.int (askF c v (cHalls c v w) (cn c) 0 (jBit (cHalls c v w)) (-1))) ∧ Fr (fun b => b = 129) M M1) := by
  have hla := L.la_lt
  have h10 := K.2.1
  refine R0.of (by decide +kernel) (Nat.le_of_ble_eq_true rfl) rfl (qX11_ask_0 L (K0.set (d1 := d - 1) (by omega) (tX11_halls L K V W (by omega)) ?_))
  rintro rv M1 ⟨rfl, R, F⟩
  have K1 : CoIs M1 la c := K.fr F (fun k hk hb => by omega)
  have L1 := F.lay L
  have le : mi M1 la 0 ≤ nI (cn c) := by rw [K1.1]; exact nI_le (Nat.le_refl _) (by omega)
  have nle : ∀ i, i < cn c → ¬ mi M1 la 0 ≤ nI i := fun i hi => by rw [K1.1, nI_leI (by omega) (by omega)]; omega
  refine qX11_ask_4 (K0.ans (d1 := d - 1) (by omega) tJ6_bitCount (qX11_ask_9 ?_))
  refine up0 (p := fun k => ∀ m b, E0 g YX11_ask d 15 [(0, .ref 0), (1, .int (cHalls c v w)), (2, .int m), (3, .int b), (4, .int (nI k))] [] M1 (fun rv M2 => rv = some (.int (askF c v (cHalls c v w) (cn c - k) k m b)) ∧ Fr (fun b => b = 129) M M2)) (cn c) (fun m b => ?_) (fun k hk ih m b => ?_) (jBit (cHalls c v w)) (-1)
  · rw [Nat.sub_self]
    exact qX11_ask_15 L1 (fun _ => ⟨rfl, F⟩) (fun r => absurd le r)
  · have e : cn c - k = (cn c - (k + 1)) + 1 := by omega
    rw [e, askF]
    refine qX11_ask_15 L1 (fun r => absurd r (nle k hk)) (fun _ => K0.ans (d1 := d - 1) (by omega) (tX11_greaterPart L1 K1 R (by omega)) (qX11_ask_34 (fun r => ?_) (fun r => ?_)))
    · rw [if_pos r, nI_1]; exact ih _ _
    · rw [if_neg r, nI_1]; exact ih _ _
theorem tX11_share {i : Int32} (L : Lay M la lb pa pb rl) (K : CoIs M la c) (V : TrIs M 39 v) (hd : 1 ≤ d) : R0 g YX11_share d [.ref 0, .int i] M (Ans (if sIn i (nI (ch c)) then (if cMin c (dOr (td v) 6) = 0 then 0 else (cMin c (td v i.toNatClampNeg) * 1000) / cMin c (dOr (td v) 6)) else -1) M) := by
  have h6 := K.2.2.2.1
  refine R0.of (by decide +kernel) (Nat.le_of_ble_eq_true rfl) rfl (qX11_share_0 L (K0.ans (d1 := d - 1) (by omega) (cIsHall L.cla K) (qX11_share_8 L (fun r => ?_) (fun r => ?_))))
  · rw [b2i_n] at r
    rw [r, if_pos rfl]
    obtain ⟨j, hj, rfl⟩ := sIn_of (by omega) r
    refine K0.ans (d1 := d - 1) (by omega) (cDrawn L.tn V) (qX11_share_24 L.cla.o (K0.ans (d1 := d - 1) (by omega) (cMinutes L.cla K) (qX11_share_27 L (fun _ => vi (by omega) (by decide)) (fun q => ?_) (fun q => ?_))))
    · rw [if_neg q, nI_clamp (by omega), show mi M 40 j = td v j from V.2.1 j (by omega)]
      exact K0.ans (d1 := d - 1) (by omega) (cMinutes L.cla K) (qX11_share_52 q ⟨rfl, rfl⟩)
    · rw [if_pos q]; exact ⟨rfl, rfl⟩
  · rw [b2i_z] at r
    rw [r]; exact ⟨rfl, rfl⟩
def cCnt (c : CD) (v : TV) (u : UV) (q : PV) (w : SV) (sz x : Int32) : Int32 :=
  if x.toInt = 0 then nI (cn c) else if x.toInt = 1 then nI (ch c) else if x.toInt = 2 then tp v else if x.toInt = 3 then cMin c (tp v) else if x.toInt = 4 then (if ch c = 0 then -1 else tx v) else if x.toInt = 5 then tt v else if x.toInt = 6 then dOr (td v) 6 else if x.toInt = 7 then nI q.1 else if x.toInt = 8 then nI w.1 else if x.toInt = 9 then nI u.2.1 else if x.toInt = 10 then sz else -1
theorem tX11_count {x : Int32} (L : Lay M la lb pa pb rl) (K : CoIs M la c) (V : TrIs M 39 v) (U : PsIs M u) (Q : PlIs M pa q) (W : SgIs M 77 w) (hd : 1 ≤ d) : R0 g YX11_count d [.ref 0, .int x] M (Ans (cCnt c v u q w (mi M 25 2) x) M) := by
  refine R0.of (by decide +kernel) (Nat.le_of_ble_eq_true rfl) rfl (qX11_count_0 L (fun r => ⟨?_, rfl⟩) (fun r => ⟨?_, rfl⟩) (fun r => ⟨?_, rfl⟩) (fun r => ⟨?_, rfl⟩) (fun r => ?_) (fun r => ?_) (fun r => ⟨?_, rfl⟩) (fun r => ?_) (fun r => ⟨?_, rfl⟩) (fun r => ⟨?_, rfl⟩) (fun r => ⟨?_, rfl⟩) (fun r => ⟨?_, rfl⟩))
  · unfold cCnt
    rw [if_neg (by omega), if_neg (by omega), if_neg (by omega), if_neg (by omega), if_neg (by omega), if_neg (by omega), if_neg (by omega), if_neg (by omega), if_neg (by omega), if_neg (by omega), if_neg (by omega)]
  · simp [cCnt, r, K.1]
  · simp [cCnt, r, K.2.2.1]
  · simp [cCnt, r, V.1]
  · rw [V.1]
    exact K0.ans (d1 := d - 1) (by omega) (cMinutes L.cla K) (qX11_count_98 ⟨by simp [cCnt, r], rfl⟩)
  · exact K0.ans (d1 := d - 1) (by omega) (tX11_nextHall L K V) (qX11_count_103 ⟨by simp [cCnt, r], rfl⟩)
  · simp [cCnt, r, V.2.2.2.2]
  · exact K0.ans (d1 := d - 1) (by omega) (cDrawn L.tn V) (qX11_count_119 ⟨by simp [cCnt, r], rfl⟩)
  · simp [cCnt, r, Q.2.1]
  · simp [cCnt, r, W.2.1]
  · simp [cCnt, r, U.2.2.2.1]
  · simp [cCnt, r]
def jGain (hi lo al x y : Int32) : Int32 := if x = y then (if x = 1 then hi else lo) else (if x = 1 then al else 0)
theorem tX11_gain {hi lo al x y : Int32} : R0 g YX11_gain d [.int hi, .int lo, .int al, .int x, .int y] M (Ans (jGain hi lo al x y) M) := by
  refine R0.of (by decide +kernel) (Nat.le_of_ble_eq_true rfl) rfl (qX11_gain_0 (fun r1 r2 => ⟨?_, rfl⟩) (fun r1 r2 => ⟨?_, rfl⟩) (fun r1 r2 => ⟨?_, rfl⟩) (fun r1 r2 => ⟨?_, rfl⟩)) <;> unfold jGain
  · rw [if_neg r1, if_neg r2]
  · rw [if_neg r1, if_pos r2]
  · rw [if_pos r1, if_neg r2]
  · rw [if_pos r1, if_pos r2]
theorem tX11_isBid {x : Int32} : R0 g YX11_isBid d [.int x] M (Ans (b2i (sIn x 10)) M) := by
  refine R0.of (by decide +kernel) (Nat.le_of_ble_eq_true rfl) rfl (qX11_isBid_0 (fun r => ?_) (fun r1 r2 => ?_) (fun r1 r2 => ?_))
  · simp [Ans, sIn, r, b2i]
  · obtain ⟨k, hk, rfl⟩ := nI_of r1
    rw [show (9 : Int32) = nI 9 from rfl, nI_ltI (by omega) hk] at r2
    have : (10 : Int32) ≤ nI k := (gel (c := 10) 10 rfl (by omega) hk).mpr (by omega)
    simp [Ans, sIn, this, b2i]
  · obtain ⟨k, hk, rfl⟩ := nI_of r1
    rw [show (9 : Int32) = nI 9 from rfl, nI_ltI (by omega) hk] at r2
    have : ¬ (10 : Int32) ≤ nI k := fun z => by have := (gel (c := 10) 10 rfl (by omega) hk).mp z; omega
    simp [Ans, sIn, r1, this, b2i]
def jRest (hi lo al k : Int32) : Bool := !decide (jGain hi lo al (k >>> (1 &&& 31)) (k &&& 1) < jGain hi lo al ((1 : Int32) - (k >>> (1 &&& 31))) (k &&& 1)) && !decide (jGain hi lo al (k &&& 1) (k >>> (1 &&& 31)) < jGain hi lo al ((1 : Int32) - (k &&& 1)) (k >>> (1 &&& 31)))
theorem tX11_isAtRest {hi lo al k : Int32} (hd : 1 ≤ d) : R0 g YX11_isAtRest d [.int hi, .int lo, .int al, .int k] M (Ans (b2i (jRest hi lo al k)) M) := by
  refine R0.of (by decide +kernel) (Nat.le_of_ble_eq_true rfl) rfl (qX11_isAtRest_0 (K0.ans (d1 := d - 1) (by omega) tX11_gain (qX11_isAtRest_20 (K0.ans (d1 := d - 1) (by omega) tX11_gain (qX11_isAtRest_32 (fun r => ?_) (fun r => ?_))))))
  · simp [Ans, jRest, r, b2i]
  · refine K0.ans (d1 := d - 1) (by omega) tX11_gain (qX11_isAtRest_45 (K0.ans (d1 := d - 1) (by omega) tX11_gain (qX11_isAtRest_57 (fun r2 => ?_) (fun r2 => ?_))))
    · simp [Ans, jRest, r2, b2i]
    · simp [Ans, jRest, r, r2, b2i]
end TX11c
