/-! ===== contracts of CountyPrint$Sightings, $Plan, $Mark, $Past, $Draws ===== -/
/-- what was seen: how many, which shot, shown or not -/
abbrev SV : Type := Nat × (Nat → Int32) × (Nat → Bool)
def SgIs (M : MM) (t : Nat) (v : SV) : Prop := v.1 ≤ 8 ∧ mi M t 2 = nI v.1 ∧ (∀ k, k < v.1 → mi M (t + 1) k = v.2.1 k) ∧ ∀ k, k < v.1 → mi M (t + 2) k = b2i (v.2.2 k)
abbrev inS (t : Nat) : Nat → Prop := fun b => b = t ∨ b = t + 1 ∨ b = t + 2
theorem SgIs.fr {S : Nat → Prop} {M M1 : MM} {t : Nat} {v : SV} (h : SgIs M t v) (F : Fr S M M1) (h0 : ¬ S t) (h1 : ¬ S (t + 1)) (h2 : ¬ S (t + 2)) : SgIs M1 t v := by
  unfold SgIs at h ⊢
  rw [F.i h0, F.i h1, F.i h2]
  exact h
/-- lines of a round: how many, deed, giver, taker, shot -/
abbrev PV : Type := Nat × (Nat → Int32) × (Nat → Int32) × (Nat → Int32) × (Nat → Int32)
def PlIs (M : MM) (t : Nat) (v : PV) : Prop := v.1 ≤ 40 ∧ mi M t 0 = nI v.1 ∧ ∀ k, k < v.1 → mi M (t + 1) k = v.2.1 k ∧ mi M (t + 2) k = v.2.2.1 k ∧ mi M (t + 3) k = v.2.2.2.1 k ∧ mi M (t + 4) k = v.2.2.2.2 k
abbrev inP (t : Nat) : Nat → Prop := fun b => b = t ∨ b = t + 1 ∨ b = t + 2 ∨ b = t + 3 ∨ b = t + 4
theorem PlIs.fr {S : Nat → Prop} {M M1 : MM} {t : Nat} {v : PV} (h : PlIs M t v) (F : Fr S M M1) (hS : ∀ k, k < 5 → ¬ S (t + k)) : PlIs M1 t v := by
  unfold PlIs at h ⊢
  rw [F.i (hS 1 (by omega)), F.i (hS 2 (by omega)), F.i (hS 3 (by omega)), F.i (hS 4 (by omega)), show mi M1 t = mi M t from F.i (hS 0 (by omega))]
  exact h
def sFit (row : Int32) (v : SV) : Nat → Nat → Bool
  | 0, _ => true
  | j + 1, i => (decide (((row >>> (v.2.1 i &&& 31)) &&& 1) = 1) == v.2.2 i) && sFit row v j (i + 1)
section TX8
variable {g : GG} {d : Nat} {M : MM} {a t n h : Nat} {v : SV}
theorem tX8_add {k : Int32} {b : Bool} (C : Sgt M t) (hv : SgIs M t v) : R0 g YX8_add d [.ref t, .int k, .int (b2i b)] M (fun rv M1 => rv = some (.int (b2i (decide (v.1 < 8)))) ∧ SgIs M1 t (if v.1 < 8 then (v.1 + 1, (fun j => if j = v.1 then k else v.2.1 j), (fun j => if j = v.1 then b else v.2.2 j)) else v) ∧ Fr (inS t) M M1) := by
  obtain ⟨h8, e2, e0, e1⟩ := hv
  refine R0.of (by decide +kernel) (Nat.le_of_ble_eq_true rfl) rfl (qX8_add_0 C rfl rfl rfl (fun c => ?_) (fun c => ?_) (fun c => ?_) (fun c => ?_))
  · rw [e2, ltl (c := 8) 8 rfl (by decide) (by omega)] at c
    rw [e2]; exact vi c (by decide)
  · rw [e2, ltl (c := 8) 8 rfl (by decide) (by omega)] at c
    have : mi (wi M (t + 1) (mi M t 2).toNatClampNeg k) t 2 = nI v.1 := by simp [wi_at, e2]
    rw [this]; exact vi c (by decide)
  · rw [e2, ltl (c := 8) 8 rfl (by decide) (by omega)] at c
    rw [decide_eq_true c, if_pos c, nar_b, e2, nI_clamp (by omega)]
    refine ⟨rfl, ⟨by show v.1 + 1 ≤ 8; omega, ?_, fun j hj => ?_, fun j hj => ?_⟩, ((Fr.rf.wi (Or.inr (Or.inl rfl))).wi (Or.inr (Or.inr rfl))).wi (Or.inl rfl)⟩
    · simp [wi_at, e2, nI_1]
    · have hj : j < v.1 + 1 := hj
      by_cases e : j = v.1
      · simp [wi_at, e]
      · simp [wi_at, e, e0 j (by omega)]
    · have hj : j < v.1 + 1 := hj
      have en : mi (wi M (t + 1) v.1 k) t 2 = nI v.1 := by simp [wi_at, e2]
      by_cases e : j = v.1
      · simp [wi_at, e, e2, nI_clamp (show v.1 < 2 ^ 31 by omega)]
      · simp [wi_at, e, e2, nI_clamp (show v.1 < 2 ^ 31 by omega), e1 j (by omega)]
  · rw [e2, ltl (c := 8) 8 rfl (by decide) (by omega)] at c
    rw [decide_eq_false c, if_neg c]
    exact ⟨rfl, ⟨h8, e2, e0, e1⟩, Fr.rf⟩
theorem tX8_copy (C : Sgt M t) (C1 : Sgt M a) (hv : SgIs M a v) (ha : ∀ i j, i < 3 → j < 3 → a + i ≠ t + j) : R0 g YX8_copy d [.ref t, .ref a] M (fun rv M1 => rv = none ∧ SgIs M1 t v ∧ Fr (inS t) M M1) := by
  obtain ⟨h8, e2, e0, e1⟩ := hv
  have na : ∀ i, i < 3 → ¬ inS t (a + i) := fun i hi q => by
    have h0 := ha i 0 hi (by omega)
    have h1 := ha i 1 hi (by omega)
    have h2 := ha i 2 hi (by omega)
    rcases q with q | q | q <;> omega
  refine R0.of (by decide +kernel) (Nat.le_of_ble_eq_true rfl) rfl (qX8_copy_0 C C1 rfl ?_)
  refine up0 (p := fun i => ∀ M1, Fr (inS t) M M1 → mi M1 t 2 = nI v.1 → (∀ k, k < i → mi M1 (t + 1) k = v.2.1 k ∧ mi M1 (t + 2) k = b2i (v.2.2 k)) → E0 g YX8_copy d 10 [(0, .ref t), (1, .ref a), (2, .int (nI i))] [] M1 _) v.1 (fun M1 F h1 h2 => ?_) (fun i hi ih M1 F h1 h2 => ?_) _ (Fr.rf.wi (Or.inl rfl)) ((mu_s _ _ _ _).trans e2) (fun k hk => absurd hk (Nat.not_lt_zero _))
  · have le : mi M1 t 2 ≤ nI v.1 := by rw [h1]; exact nI_le (Nat.le_refl _) (by omega)
    refine qX8_copy_10 (F.sgt C) (F.sgt C1) rfl rfl (fun c => absurd le c) (fun c => absurd le c) (fun c => absurd le c) (fun c => absurd le c) (fun _ => ⟨rfl, ⟨h8, h1, fun k hk => (h2 k hk).1, fun k hk => (h2 k hk).2⟩, F⟩) (fun c => absurd le c) (fun c => absurd le c)
  · have nle : ¬ mi M1 t 2 ≤ nI i := by rw [h1, nI_leI (by omega) (by omega)]; omega
    have n8 : ¬ (8 : Int32) ≤ nI i := ngl 8 rfl (by decide) (by omega)
    have ea1 : mi M1 (a + 1) = mi M (a + 1) := F.i (na 1 (by omega))
    have ea2 : mi M1 (a + 2) = mi M (a + 2) := F.i (na 2 (by omega))
    have hne : a + 2 ≠ t + 1 := ha 2 1 (by omega) (by omega)
    refine qX8_copy_10 (F.sgt C) (F.sgt C1) rfl rfl (fun _ _ => vi (by omega) (by decide)) (fun _ _ => vi (by omega) (by decide)) (fun _ _ => vi (by omega) (by decide)) (fun _ _ => vi (by omega) (by decide)) (fun c => absurd c nle) (fun _ c => absurd c n8) (fun _ _ => ?_)
    rw [nI_1, nI_clamp (by omega)]
    refine ih _ ((F.wi (Or.inr (Or.inl rfl))).wi (Or.inr (Or.inr rfl))) ?_ (fun k hk => ?_)
    · simp [wi_at, h1]
    · have em : mi (wi M1 (t + 1) i (mi M1 (a + 1) i)) (a + 2) i = b2i (v.2.2 i) := by
        rw [wi_at, if_neg (fun q => hne q.1), ea2]; exact e1 i hi
      rw [em, nar_b]
      by_cases e : k = i
      · subst e; simp [wi_at, ea1, e0 k hi]
      · have := h2 k (by omega)
        simp [wi_at, e, this.1, this.2]
theorem tX8_fit {row : Int32} (C : Sgt M t) (hv : SgIs M t v) : R0 g YX8_fit d [.ref t, .int row] M (Ans (b2i (sFit row v v.1 0)) M) := by
  obtain ⟨h8, e2, e0, e1⟩ := hv
  have le : mi M t 2 ≤ nI v.1 := by rw [e2]; exact nI_le (Nat.le_refl _) (by omega)
  refine R0.of (by decide +kernel) (Nat.le_of_ble_eq_true rfl) rfl (qX8_fit_0 ?_)
  refine up0 (p := fun i => E0 g YX8_fit d 2 [(0, .ref t), (1, .int row), (2, .int (nI i))] [] M (Ans (b2i (sFit row v (v.1 - i) i)) M)) v.1 ?_ (fun i hi ih => ?_)
  · rw [Nat.sub_self]
    exact qX8_fit_2 C (fun c => absurd le c) (fun c => absurd le c) (fun c => absurd le c) (fun _ => ⟨rfl, rfl⟩) (fun c => absurd le c) (fun c => absurd le c) (fun c => absurd le c) (fun c => absurd le c) (fun c => absurd le c)
  · have nle : ¬ mi M t 2 ≤ nI i := by rw [e2, nI_leI (by omega) (by omega)]; omega
    have n8 : ¬ (8 : Int32) ≤ nI i := ngl 8 rfl (by decide) (by omega)
    have e : v.1 - i = (v.1 - (i + 1)) + 1 := by omega
    rw [e, sFit]
    have ec : (nI i).toNatClampNeg = i := nI_clamp (by omega)
    refine qX8_fit_2 C (fun _ _ => vi (by omega) (by decide)) (fun _ _ _ => vi (by omega) (by decide)) (fun _ _ _ => vi (by omega) (by decide)) (fun c => absurd c nle) (fun _ c => absurd c n8) (fun _ _ c1 c2 => ?_) (fun _ _ c1 c2 => ?_) (fun _ _ c1 c2 => ?_) (fun _ _ c1 c2 => ?_) <;> rw [ec, e0 i hi] at c1 <;> rw [ec, e1 i hi] at c2
    · have : v.2.2 i = false := b2i_z.mp c2.symm
      rw [decide_eq_false c1, this, nI_1]; exact ih
    · have : v.2.2 i = true := b2i_n.mp (fun q => c2 q.symm)
      rw [decide_eq_false c1, this]; exact ⟨rfl, rfl⟩
    · have : v.2.2 i = true := by cases q : v.2.2 i with
        | true => rfl
        | false => rw [q] at c2; exact absurd c2 (by decide)
      rw [decide_eq_true c1, this, nI_1]; exact ih
    · have : v.2.2 i = false := by cases q : v.2.2 i with
        | false => rfl
        | true => rw [q] at c2; exact absurd rfl c2
      rw [decide_eq_true c1, this]; exact ⟨rfl, rfl⟩
end TX8
section TX5
variable {g : GG} {d : Nat} {M : MM} {a t n h : Nat} {v : PV}
theorem tX5_clear (C : Pln M t) : R0 g YX5_clear d [.ref t] M (fun rv M1 => rv = none ∧ PlIs M1 t (0, v.2) ∧ Fr (inP t) M M1) :=
  R0.of (by decide +kernel) (Nat.le_of_ble_eq_true rfl) rfl (qX5_clear_0 C rfl ⟨rfl, ⟨Nat.zero_le _, mu_s _ _ _ _, fun k hk => absurd hk (Nat.not_lt_zero _)⟩, Fr.rf.wi (Or.inl rfl)⟩)
theorem tX5_add {x y z w : Int32} (C : Pln M t) (hv : PlIs M t v) (h40 : v.1 < 40) : R0 g YX5_add d [.ref t, .int x, .int y, .int z, .int w] M (fun rv M1 => rv = none ∧ PlIs M1 t (v.1 + 1, (fun j => if j = v.1 then x else v.2.1 j), (fun j => if j = v.1 then y else v.2.2.1 j), (fun j => if j = v.1 then z else v.2.2.2.1 j), (fun j => if j = v.1 then w else v.2.2.2.2 j)) ∧ Fr (inP t) M M1) := by
  obtain ⟨h4, e0, ek⟩ := hv
  have n40 : ¬ (40 : Int32) ≤ mi M t 0 := by rw [e0]; exact ngl 40 rfl (by decide) h40
  have ec : (nI v.1).toNatClampNeg = v.1 := nI_clamp (by omega)
  refine R0.of (by decide +kernel) (Nat.le_of_ble_eq_true rfl) rfl (qX5_add_0 C rfl rfl rfl rfl rfl (fun _ => ?_) (fun _ => ?_) (fun _ => ?_) (fun _ => ?_) (fun c => absurd c n40) (fun _ => ?_))
  · rw [e0]; exact vi h40 (by decide)
  · simp only [wi_at, e0]; simp; exact vi h40 (by decide)
  · simp only [wi_at, e0]; simp; exact vi h40 (by decide)
  · simp only [wi_at, e0]; simp; exact vi h40 (by decide)
  · refine ⟨rfl, ⟨by show v.1 + 1 ≤ 40; omega, ?_, fun j hj => ?_⟩, ((((Fr.rf.wi (Or.inr (Or.inl rfl))).wi (Or.inr (Or.inr (Or.inl rfl)))).wi (Or.inr (Or.inr (Or.inr (Or.inl rfl))))).wi (Or.inr (Or.inr (Or.inr (Or.inr rfl))))).wi (Or.inl rfl)⟩
    · simp [wi_at, e0, nI_1]
    · have hj : j < v.1 + 1 := hj
      by_cases e : j = v.1
      · subst e; simp [wi_at, e0, ec]
      · have := ek j (by omega)
        simp [wi_at, e0, ec, e, this.1, this.2.1, this.2.2.1, this.2.2.2]
theorem tX5_copy (C : Pln M t) (C1 : Pln M a) (hv : PlIs M a v) (ha : ∀ i j, i < 5 → j < 5 → a + i ≠ t + j) : R0 g YX5_copy d [.ref t, .ref a] M (fun rv M1 => rv = none ∧ PlIs M1 t v ∧ Fr (inP t) M M1) := by
  obtain ⟨h4, e0, ek⟩ := hv
  have na : ∀ i, i < 5 → ¬ inP t (a + i) := fun i hi q => by
    have h0 := ha i 0 hi (by omega)
    have h1 := ha i 1 hi (by omega)
    have h2 := ha i 2 hi (by omega)
    have h3 := ha i 3 hi (by omega)
    have h4 := ha i 4 hi (by omega)
    rcases q with q | q | q | q | q <;> omega
  refine R0.of (by decide +kernel) (Nat.le_of_ble_eq_true rfl) rfl (qX5_copy_0 C C1 rfl ?_)
  refine up0 (p := fun i => ∀ M1, Fr (inP t) M M1 → mi M1 t 0 = nI v.1 → (∀ k, k < i → mi M1 (t + 1) k = v.2.1 k ∧ mi M1 (t + 2) k = v.2.2.1 k ∧ mi M1 (t + 3) k = v.2.2.2.1 k ∧ mi M1 (t + 4) k = v.2.2.2.2 k) → E0 g YX5_copy d 10 [(0, .ref t), (1, .ref a), (2, .int (nI i))] [] M1 _) v.1 (fun M1 F h1 h2 => ?_) (fun i hi ih M1 F h1 h2 => ?_) _ (Fr.rf.wi (Or.inl rfl)) ((mu_s _ _ _ _).trans e0) (fun k hk => absurd hk (Nat.not_lt_zero _))
  · have le : mi M1 t 0 ≤ nI v.1 := by rw [h1]; exact nI_le (Nat.le_refl _) (by omega)
    exact qX5_copy_10 (F.pln C) (F.pln C1) rfl rfl rfl rfl (fun c => absurd le c) (fun c => absurd le c) (fun c => absurd le c) (fun c => absurd le c) (fun c => absurd le c) (fun c => absurd le c) (fun c => absurd le c) (fun c => absurd le c) (fun _ => ⟨rfl, ⟨h4, h1, h2⟩, F⟩) (fun c => absurd le c) (fun c => absurd le c)
  · have nle : ¬ mi M1 t 0 ≤ nI i := by rw [h1, nI_leI (by omega) (by omega)]; omega
    have n40 : ¬ (40 : Int32) ≤ nI i := ngl 40 rfl (by decide) (by omega)
    have vv : vp_in (nI i) 40 := vi (by omega) (by decide)
    have ea1 : mi M1 (a + 1) = mi M (a + 1) := F.i (na 1 (by omega))
    have ea2 : mi M1 (a + 2) = mi M (a + 2) := F.i (na 2 (by omega))
    have ea3 : mi M1 (a + 3) = mi M (a + 3) := F.i (na 3 (by omega))
    have ea4 : mi M1 (a + 4) = mi M (a + 4) := F.i (na 4 (by omega))
    refine qX5_copy_10 (F.pln C) (F.pln C1) rfl rfl rfl rfl (fun _ _ => vv) (fun _ _ => vv) (fun _ _ => vv) (fun _ _ => vv) (fun _ _ => vv) (fun _ _ => vv) (fun _ _ => vv) (fun _ _ => vv) (fun c => absurd c nle) (fun _ c => absurd c n40) (fun _ _ => ?_)
    rw [nI_1, nI_clamp (by omega)]
    refine ih _ ((((F.wi (Or.inr (Or.inl rfl))).wi (Or.inr (Or.inr (Or.inl rfl)))).wi (Or.inr (Or.inr (Or.inr (Or.inl rfl))))).wi (Or.inr (Or.inr (Or.inr (Or.inr rfl))))) ?_ (fun k hk => ?_)
    · simp [wi_at, h1]
    · have x21 : a + 2 ≠ t + 1 := ha 2 1 (by omega) (by omega)
      have x31 : a + 3 ≠ t + 1 := ha 3 1 (by omega) (by omega)
      have x32 : a + 3 ≠ t + 2 := ha 3 2 (by omega) (by omega)
      have x41 : a + 4 ≠ t + 1 := ha 4 1 (by omega) (by omega)
      have x42 : a + 4 ≠ t + 2 := ha 4 2 (by omega) (by omega)
      have x43 : a + 4 ≠ t + 3 := ha 4 3 (by omega) (by omega)
      by_cases e : k = i
      · subst e
        have q := ek k hi
        simp [wi_at, x21, x31, x32, x41, x42, x43, ea1, ea2, ea3, ea4, q.1, q.2.1, q.2.2.1, q.2.2.2]
      · have q := h2 k (by omega)
        simp [wi_at, e, q.1, q.2.1, q.2.2.1, q.2.2.2]
end TX5
