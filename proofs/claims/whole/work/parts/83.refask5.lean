/-! ===== the reference: kin, what a hall saves, counts ===== -/
def cb (x : Int32) : Nat → Nat
  | 0 => 0
  | k + 1 => cb x k + (if bt x k then 1 else 0)
theorem cb_mono {x y : Int32} (h : ∀ i, i < 32 → bt x i = true → bt y i = true) : ∀ n, n ≤ 32 → cb x n ≤ cb y n
  | 0, _ => Nat.le_refl _
  | n + 1, hn => by
    have ih := cb_mono h n (by omega)
    rw [cb, cb]
    cases q : bt x n
    · rw [if_neg (by decide)]; omega
    · rw [if_pos rfl, if_pos (h n (by omega) q)]; omega
theorem cb_lt {x y : Int32} (h : ∀ i, i < 32 → bt x i = true → bt y i = true) : ∀ n, n ≤ 32 → (∃ i, i < n ∧ bt x i = false ∧ bt y i = true) → cb x n < cb y n
  | 0, _, e => by obtain ⟨i, h, -⟩ := e; omega
  | n + 1, hn, e => by
    obtain ⟨i, i1, i2, i3⟩ := e
    rw [cb, cb]
    by_cases q : i = n
    · subst q
      have := cb_mono h i (by omega)
      rw [i2, i3, if_neg (by decide), if_pos rfl]; omega
    · have := cb_lt h n (by omega) ⟨i, by omega, i2, i3⟩
      cases z : bt x n
      · rw [if_neg (by decide)]; omega
      · rw [if_pos rfl, if_pos (h n (by omega) z)]; omega
theorem cb_le (x : Int32) : ∀ n, cb x n ≤ n
  | 0 => Nat.le_refl _
  | n + 1 => by have := cb_le x n; rw [cb]; split <;> omega
theorem cb_full {x : Int32} : ∀ n, cb x n = n → ∀ i, i < n → bt x i = true
  | 0, _, i, hi => by omega
  | n + 1, h, i, hi => by
    rw [cb] at h
    have := cb_le x n
    cases q : bt x n
    · rw [q, if_neg (by decide)] at h; omega
    · rw [q, if_pos rfl] at h
      by_cases e : i = n
      · rw [e]; exact q
      · exact cb_full n (by omega) i (by omega)
/-- needs of all that is in it are in it -/
def ClN (nds : Nat → Int32) (n : Nat) (x : Int32) : Prop := ∀ k, k < n → bt x k = true → sub (nds k) x
theorem sPass_up (nds : Nat → Int32) (x : Int32) : ∀ k, sub x (sPass nds x k) ∧ ∀ j, j ≤ k → sub (sPass nds x j) (sPass nds x k)
  | 0 => ⟨fun i _ h => h, fun j hj i hi h => (by
      have e : j = 0 := by omega
      rw [e] at h
      exact h)⟩
  | k + 1 => by
    obtain ⟨a, b⟩ := sPass_up nds x k
    have st : sub (sPass nds x k) (sPass nds x (k + 1)) := fun i hi h => by
      rw [sPass]
      split
      · rw [b_or, h, Bool.true_or]
      · exact h
    refine ⟨fun i hi h => st i hi (a i hi h), fun j hj i hi h => ?_⟩
    by_cases e : j = k + 1
    · rw [e] at h; exact h
    · exact st i hi (b j (by omega) i hi h)
theorem sPass_in {nds : Nat → Int32} {n : Nat} {x y : Int32} (hy : ClN nds n y) (h : sub x y) : ∀ k, k ≤ n → k ≤ 32 → sub (sPass nds x k) y
  | 0, _, _ => h
  | k + 1, hk, h32 => by
    have ih := sPass_in hy h k (by omega) (by omega)
    rw [sPass]
    split
    · rename_i q
      exact ih.or (hy k (by omega) (ih k (by omega) q))
    · exact ih
theorem sPass_fix {nds : Nat → Int32} {n : Nat} {x : Int32} (hn : n ≤ 32) (h : sub (sPass nds x n) x) : ClN nds n x := fun k hk hb i hi q => by
  have u := sPass_up nds x
  have hb2 : bt (sPass nds x k) k = true := (u k).1 k (by omega) hb
  have : bt (sPass nds x (k + 1)) i = true := by
    rw [sPass, if_pos hb2, b_or, q, Bool.or_true]
  exact h i hi ((u n).2 (k + 1) (by omega) i hi this)
theorem sKin_step {nds : Nat → Int32} {n : Nat} {x : Int32} (hn : n ≤ 10) (hx : ∀ i, i < 32 → bt x i = true → i < n) (hnd : ∀ k, k < n → ∀ i, i < 32 → bt (nds k) i = true → i < n) : ∀ j, (∀ i, i < 32 → bt (sKin nds n x j) i = true → i < n) ∧ sub x (sKin nds n x j) ∧ (ClN nds n (sKin nds n x j) ∨ j ≤ cb (sKin nds n x j) n)
  | 0 => ⟨hx, fun i _ h => h, .inr (Nat.zero_le _)⟩
  | j + 1 => by
    obtain ⟨a, b, e⟩ := sKin_step hn hx hnd j
    have film : ∃ y, ClN nds n y ∧ ∀ i, i < 32 → (bt y i = true ↔ i < n) := by
      refine ⟨pb (fun _ => true) n, fun k hk _ i hi q => ?_, fun i hi => ?_⟩
      · rw [bt_pb _ n (by omega) i hi, decide_eq_true (hnd k hk i hi q)]; rfl
      · rw [bt_pb _ n (by omega) i hi, Bool.and_true, decide_eq_true_eq]
    obtain ⟨y, y1, y2⟩ := film
    have up := sPass_up nds (sKin nds n x j) n
    have a2 : ∀ i, i < 32 → bt (sKin nds n x (j + 1)) i = true → i < n := fun i hi q => (y2 i hi).mp (sPass_in y1 (fun i hi z => (y2 i hi).mpr (a i hi z)) n (Nat.le_refl _) (by omega) i hi q)
    refine ⟨a2, fun i hi q => up.1 i hi (b i hi q), ?_⟩
    by_cases fx : sub (sPass nds (sKin nds n x j) n) (sKin nds n x j)
    · have eq : sKin nds n x (j + 1) = sKin nds n x j := b_ext fun i hi => by
        show bt (sPass nds (sKin nds n x j) n) i = _
        cases q : bt (sKin nds n x j) i
        · cases z : bt (sPass nds (sKin nds n x j) n) i
          · rfl
          · rw [fx i hi z] at q; exact absurd q (by decide)
        · exact up.1 i hi q
      rw [eq]
      exact .inl (sPass_fix (by omega) fx)
    · rcases e with e | e
      · exact absurd (sPass_in e (fun i _ h => h) n (Nat.le_refl _) (by omega)) fx
      · right
        have ex : ∃ i, i < n ∧ bt (sKin nds n x j) i = false ∧ bt (sPass nds (sKin nds n x j) n) i = true := by
          refine Classical.byContradiction (fun no => fx (fun i hi q => ?_))
          cases z : bt (sKin nds n x j) i
          · exact absurd ⟨i, a2 i hi q, z, q⟩ no
          · rfl
        have := cb_lt up.1 n (by omega) ex
        show j + 1 ≤ cb (sPass nds (sKin nds n x j) n) n
        omega
theorem sKin_cl {nds : Nat → Int32} {n : Nat} {x : Int32} (hn : n ≤ 10) (hx : ∀ i, i < 32 → bt x i = true → i < n) (hnd : ∀ k, k < n → ∀ i, i < 32 → bt (nds k) i = true → i < n) : ClN nds n (sKin nds n x n) ∧ sub x (sKin nds n x n) ∧ ∀ y, ClN nds n y → sub x y → sub (sKin nds n x n) y := by
  obtain ⟨a, b, e⟩ := sKin_step hn hx hnd n
  refine ⟨?_, b, fun y hy hxy => ?_⟩
  · rcases e with e | e
    · exact e
    · have := cb_full (x := sKin nds n x n) n (by have := cb_le (sKin nds n x n) n; omega)
      exact fun k hk _ i hi q => this i (hnd k hk i hi q)
  · have : ∀ j, sub (sKin nds n x j) y := fun j => by
      induction j with
      | zero => exact hxy
      | succ j ih => exact sPass_in hy ih n (Nat.le_refl _) (by omega)
    exact this n
section A5
variable {g : GG} {d : Nat} {M : MM} {la lb pa pb0 rl : Nat} {c : CD} {F : Nat → (Nat → Int32) → Int32} {T : TT} {u : UU} {p : PP} {w : SV}
theorem tX12_kin {i : Int32} (L : Lay M la lb pa pb0 rl) (R : RCo M c F) (O : COk c F) (hd : 1 ≤ d) : R0 g YX12_kin d [.ref 130, .int i] M (QR (if sIn i (nI (cn c)) then sKin (cnds c) (cn c) (cnds c i.toNatClampNeg) (cn c) else -1) M) := by
  have h10 := O.1
  have s1 : Sc M (wi M 130 0 0) := Sc.t0
  have L1 := s1.1.lay L
  have R1 := R.sc s1
  refine R0.of (by decide +kernel) (Nat.le_of_ble_eq_true rfl) rfl (qX12_kin_0 L rfl (K0.ans (d1 := d - 1) (by omega) (tX12_isShot L1 R1) ?_))
  cases q : sIn i (nI (cn c))
  · exact qX12_kin_10 L1 (fun z => absurd rfl z) (fun z => absurd rfl z) (fun _ => ⟨rfl, s1⟩)
  · obtain ⟨k, hk, rfl⟩ := sIn_of (by omega) q
    have ek : (nI k).toNatClampNeg = k := nI_clamp (by omega)
    rw [if_pos rfl]
    refine qX12_kin_10 L1 (fun _ => vi (by omega) (by decide)) (fun _ => ?_) (fun z => absurd z (by decide))
    rw [ek, (R1.2.2.1 k hk).2.2]
    have hnd := O.2.2.2.2.2.2.2
    obtain ⟨k1, k2, k3⟩ := sKin_cl h10 (hnd k hk) hnd
    generalize sKin (cnds c) (cn c) (cnds c k) (cn c) = K at *
    have key : ∀ N set was, cn c - cb was (cn c) < N → sub (cnds c k) set → sub set K → sub was set → (∀ i, i < 32 → bt set i = true → i < cn c) → (set = was → ClN (cnds c) (cn c) set) → E0 g YX12_kin d 24 [(0, .ref 130), (2, .int set), (3, .int was)] [] (wi M 130 0 0) (QR K M) := by
      intro N
      induction N with
      | zero => intro set was h; omega
      | succ N ih =>
        intro set was hN h1 h2 h3 h4 h5
        refine qX12_kin_24 (fun e => ⟨?_, s1⟩) (fun e => ?_)
        · have : set = K := b_ext fun j hj => by
            have a := k3 set (h5 e) h1 j hj
            have b := h2 j hj
            cases x : bt set j <;> cases y : bt K j
            · rfl
            · rw [a y] at x; exact absurd x (by decide)
            · rw [b x] at y; exact absurd y (by decide)
            · rfl
          rw [this]
        · have grow : cb was (cn c) < cb set (cn c) := by
            refine cb_lt h3 _ (by omega) (Classical.byContradiction (fun no => e (b_ext fun j hj => ?_)))
            cases x : bt set j <;> cases y : bt was j
            · rfl
            · rw [h3 j hj y] at x; exact absurd x (by decide)
            · exact absurd ⟨j, h4 j hj x, y, x⟩ no
            · rfl
          have := cb_le set (cn c)
          have key2 := up0 (p := fun j => ∀ x, sub set x → sub x K → (∀ m, m < j → bt set m = true → sub (cnds c m) x) → (∀ i, i < 32 → bt x i = true → i < cn c) → E0 g YX12_kin d 34 [(0, .ref 130), (2, .int x), (3, .int set), (4, .int (nI j))] [] (wi M 130 0 0) (QR K M)) (cn c) (fun x a b f h => ?_) (fun j hj ih2 x a b f h => ?_)
          · exact key2 set (fun _ _ z => z) h2 (fun m hm => absurd hm (by omega)) h4
          · have ge : mi (wi M 130 0 0) 132 0 ≤ nI (cn c) := by rw [R1.1]; exact Int32.le_refl _
            refine qX12_kin_34 L1 (fun z => absurd ge z) (fun _ => ih x set (by omega) (fun i hi z => a i hi (h1 i hi z)) b a h (fun e m hm hb => ?_)) (fun z => absurd ge z) (fun z => absurd ge z)
            rw [e] at hb
            exact f m hm hb
          · have lt : ¬ mi (wi M 130 0 0) 132 0 ≤ nI j := by rw [R1.1, nI_leI (by omega) (by omega)]; omega
            rw [← nI_1] at ih2
            refine qX12_kin_34 L1 (fun _ _ => vi (by omega) (by decide)) (fun z => absurd z lt) (fun _ r => ?_) (fun _ r => ?_)
            · rw [bit_f _ (by omega)] at r
              rw [Int32.or_zero]
              refine ih2 x a b (fun m hm hb => ?_) h
              by_cases e : m = j
              · rw [e, r] at hb; exact absurd hb (by decide)
              · exact f m (by omega) hb
            · rw [bit_t _ (by omega)] at r
              rw [nI_clamp (by omega), (R1.2.2.1 j hj).2.2]
              refine ih2 _ (fun i hi z => by rw [b_or, a i hi z, Bool.true_or]) (b.or (k1 j hj (h2 j (by omega) r))) (fun m hm hb i hi z => ?_) (fun i hi z => ?_)
              · rw [b_or]
                by_cases e : m = j
                · rw [e] at z; rw [z, Bool.or_true]
                · rw [f m (by omega) hb i hi z, Bool.true_or]
              · rw [b_or, Bool.or_eq_true] at z
                exact z.elim (h i hi) (hnd j hj i hi)
    refine key (cn c + 1) (cnds c k) 0 (by omega) (fun _ _ z => z) k2 sub.zero (hnd k hk) (fun e m _ hb => ?_)
    rw [e, b_0] at hb
    exact absurd hb (by decide)
/-- saves, as the reference has it: thrown, and the answer -/
theorem tX12_saves {i : Int32} (L : Lay M la lb pa pb0 rl) (R : RCo M c F) (O : COk c F) (S : RSt (mi M 162) (cn c) (ch c) T) (TO : TOk c T) (hd : 8 ≤ d) : R0 g YX12_saves d [.ref 130, .int i] M (fun rv M1 => ((isAhd c (tvOf (cn c) T) i = false ∧ rv = some (.int 0) ∧ mi M1 130 0 = 1) ∨ (isAhd c (tvOf (cn c) T) i = true ∧ rv = some (.int (togF c (tvOf (cn c) T) i (ch c - nPl c (tvOf (cn c) T)) (nPl c (tvOf (cn c) T)) (tp (tvOf (cn c) T)) 0 - togF c (tvOf (cn c) T) (-1) (ch c - nPl c (tvOf (cn c) T)) (nPl c (tvOf (cn c) T)) (tp (tvOf (cn c) T)) 0)) ∧ mi M1 130 0 = 0)) ∧ Sc M M1) := by
  have h10 := O.1
  have h6 := O.2.1
  have ob130 : ob M 130 12 := L.s (a := 130) rfl (by decide)
  have s1 : Sc M (wi M 130 0 1) := Sc.rf.w (by omega) (by omega)
  have t1 : mi (wi M 130 0 1) 130 0 = 1 := by rw [wi_at, if_pos ⟨rfl, rfl⟩]
  have s0 : Sc M (wi M 130 0 0) := Sc.t0
  have t0 : mi (wi M 130 0 0) 130 0 = 0 := by rw [wi_at, if_pos ⟨rfl, rfl⟩]
  refine R0.of (by decide +kernel) (Nat.le_of_ble_eq_true rfl) rfl (qX12_saves_0 L (K0.ans (d1 := d - 1) (by omega) (tX12_isHall L R) ?_))
  cases q : sIn i (nI (ch c))
  · have e : isAhd c (tvOf (cn c) T) i = false := by unfold isAhd; rw [q]; rfl
    exact qX12_saves_6 L rfl ob130 (fun _ z => absurd t1 z) (fun _ _ => ⟨.inl ⟨e, rfl, t1⟩, s1⟩) (fun z => absurd rfl z)
  · obtain ⟨hl, hh, rfl⟩ := sIn_of (by omega) q
    obtain ⟨o1, o2⟩ := ordF_inv (tu := T.2.1) hh
    have hpl := plF_le TO
    have e : isAhd c (tvOf (cn c) T) (nI hl) = decide (plF (ch c) T ≤ ordF (ch c) T.2.1 hl) := by
      unfold isAhd
      rw [q, Bool.true_and, nI_clamp (by omega), spl_ord hh, nPl_T TO h6]
    refine qX12_saves_6 L rfl ob130 (fun z => absurd z (by decide)) (fun z => absurd z (by decide)) (fun _ => K0.ans (d1 := d - 1) (by omega) (tX12_placeOf L O S hh) ?_)
    have el : nI (ordF (ch c) T.2.1 hl) < mi M 162 1 ↔ ordF (ch c) T.2.1 hl < plF (ch c) T := by rw [S.2.1, nI_ltI (by omega) (by omega)]
    refine qX12_saves_14 L rfl rfl ob130 (fun _ z => absurd t1 z) (fun r _ => ⟨.inl ⟨?_, rfl, t1⟩, s1⟩) (fun r _ => K0.set (d1 := d - 1) (by omega) (tX12_goesOn (s0.1.lay L) (R.sc s0) O (S.sc h10 s0) TO (by omega)) ?_) (fun _ z => absurd (t0.symm.trans z) (by decide))
    · rw [el] at r
      rw [e, decide_eq_false (by omega)]
    · rw [el] at r
      rintro rv M2 ⟨rfl, G2⟩
      have s2 := s0.trans G2.2.2.2.2.1
      refine qX12_saves_46 (s2.1.lay L) (K0.set (d1 := d - 1) (by omega) (tX12_goesOn (s2.1.lay L) (R.sc s2) O (S.sc h10 s2) TO (by omega)) ?_)
      rintro rv M3 ⟨rfl, G3⟩
      have s3 := s2.trans G3.2.2.2.2.1
      refine qX12_saves_56 (s3.1.lay L) ⟨.inr ⟨?_, ?_, ?_⟩, s3⟩
      · rw [e, decide_eq_true (by omega)]
      · rw [G3.2.1, G2.2.1, nPl_T TO h6]
      · rw [G3.2.2.2.2.2, G2.2.2.2.2.2]; exact t0
end A5
