/-! ===== laws, worked by the reference: a machine that reads from left to right ===== -/
abbrev WW : Type := Nat → Nat → Int32
def opnW (W : WW) (d : Nat) : WW := mu (mu (mu (mu (mu W 1 d 0) 3 d 0) 4 d 0) 5 d 20) 7 d 0
def sumV (W : WW) (d : Nat) : Int32 := if W 5 d = 21 then W 4 d - W 6 d else W 4 d + W 6 d
def smsW (W : WW) (d : Nat) : WW := mu (mu W 4 d (sumV W d)) 7 d 0
def tstV (W : WW) (d : Nat) : Int32 := if W 3 d = 25 then (if W 2 d = sumV W d then 1 else 0) else if W 3 d = 24 then (if W 2 d < sumV W d then 1 else 0) else sumV W d
def expV (W : WW) (d : Nat) : Int32 := if W 1 d = 27 then (if W 0 d = 0 ∧ tstV W d = 0 then 0 else 1) else if W 1 d = 26 then (if W 0 d = 0 ∨ tstV W d = 0 then 0 else 1) else tstV W d
def tstW (W : WW) (d : Nat) : WW := mu (mu (mu (mu (smsW W d) 0 d (expV W d)) 3 d 0) 4 d 0) 5 d 20
def trmV (W : WW) (d : Nat) (v : Int32) : Int32 := if W 7 d = 0 then v else W 6 d * v
def dlT : Nat → WW → Int32 → Nat × WW
  | 0, W, v => (0, mu W 6 0 (trmV W 0 v))
  | d + 1, W, v => if W 8 (d + 1) = 1 then dlT d W (if v = 0 then 1 else 0) else (d + 1, mu W 6 (d + 1) (trmV W (d + 1) v))
def wStep (env : Nat → Int32) (c : Int32) (s : Nat × WW) : Option (Nat × WW) :=
  if c = 28 then (if s.1 < 6 then some (s.1 + 1, opnW (mu s.2 8 (s.1 + 1) 0) (s.1 + 1)) else none)
  else if c = 30 then (if s.1 < 6 then some (s.1 + 1, opnW (mu s.2 8 (s.1 + 1) 1) (s.1 + 1)) else none)
  else if c = 20 ∨ c = 21 then some (s.1, mu (smsW s.2 s.1) 5 s.1 c)
  else if c = 22 then some (s.1, mu s.2 7 s.1 22)
  else if c = 24 ∨ c = 25 then some (s.1, mu (mu (mu (mu (smsW s.2 s.1) 2 s.1 (sumV s.2 s.1)) 3 s.1 c) 4 s.1 0) 5 s.1 20)
  else if c = 26 ∨ c = 27 then some (s.1, mu (tstW s.2 s.1) 1 s.1 c)
  else if c = 29 then (if 1 ≤ s.1 then some (dlT (s.1 - 1) (tstW s.2 s.1) (expV s.2 s.1)) else none)
  else if ¬ c < 100 then some (dlT s.1 s.2 (c - 100))
  else if ¬ c < 0 ∧ ¬ 20 ≤ c then some (dlT s.1 s.2 (env c.toNatClampNeg))
  else none
def wRun (env : Nat → Int32) : List Int32 → Nat × WW → Option (Nat × WW)
  | [], s => some s
  | c :: cc, s => (wStep env c s).bind (wRun env cc)
theorem wRun_app {env : Nat → Int32} : ∀ {a b s s1}, wRun env a s = some s1 → wRun env (a ++ b) s = wRun env b s1
  | [], b, s, s1, h => by cases h; rfl
  | c :: a, b, s, s1, h => by
    show (wStep env c s).bind (wRun env (a ++ b)) = _
    have h : (wStep env c s).bind (wRun env a) = some s1 := h
    cases q : wStep env c s with
    | none => rw [q] at h; cases h
    | some s2 => rw [q] at h; exact wRun_app (a := a) h
def Ag (d : Nat) (W W1 : WW) : Prop := ∀ a k, k ≤ d → W a k = W1 a k
def Fm (W : WW) (d : Nat) : Prop := d = 0 ∨ W 8 d ≠ 1
theorem mu_of {α : Type} (f : Nat → Nat → α) (a k : Nat) (v : α) (b j : Nat) : mu f a k v b j = if b = a ∧ j = k then v else f b j := rfl
theorem dlT_fm {W : WW} {d : Nat} (h : Fm W d) (v : Int32) : dlT d W v = (d, mu W 6 d (trmV W d v)) := by
  cases d with
  | zero => rfl
  | succ d =>
    rcases h with h | h
    · omega
    · rw [dlT, if_neg h]
theorem Ag.mu {d : Nat} {W W1 : WW} (h : Ag d W W1) (a k : Nat) (v : Int32) : Ag d (mu W a k v) (mu W1 a k v) := fun b j hj => by
  rw [mu_of, mu_of]
  split
  · rfl
  · exact h b j hj
theorem dlT_ag : ∀ {d : Nat} {W W1 : WW} (v : Int32), Ag d W W1 → (dlT d W v).1 = (dlT d W1 v).1 ∧ Ag d (dlT d W v).2 (dlT d W1 v).2 ∧ (dlT d W v).1 ≤ d
  | 0, W, W1, v, h => by
    refine ⟨rfl, ?_, Nat.le_refl _⟩
    show Ag 0 (mu W 6 0 (trmV W 0 v)) (mu W1 6 0 (trmV W1 0 v))
    have : trmV W 0 v = trmV W1 0 v := by unfold trmV; rw [h 7 0 (Nat.le_refl _), h 6 0 (Nat.le_refl _)]
    rw [this]; exact h.mu _ _ _
  | d + 1, W, W1, v, h => by
    rw [dlT, dlT, h 8 (d + 1) (Nat.le_refl _)]
    by_cases q : W1 8 (d + 1) = 1
    · rw [if_pos q, if_pos q]
      have h0 : Ag d W W1 := fun a k hk => h a k (by omega)
      have ih := dlT_ag (d := d) (if v = 0 then 1 else 0) h0
      refine ⟨ih.1, fun a k hk => ?_, by omega⟩
      by_cases e : k ≤ d
      · exact ih.2.1 a k e
      · have hk : k = d + 1 := by omega
        have up : ∀ {d : Nat} {W : WW} {v : Int32} {a k : Nat}, d < k → (dlT d W v).2 a k = W a k := by
          intro d
          induction d with
          | zero => intro W v a k hk; show mu W 6 0 _ a k = _; rw [mu_of, if_neg (by omega)]
          | succ d ih =>
            intro W v a k hk
            rw [dlT]
            split
            · exact ih (by omega)
            · show mu W 6 (d + 1) _ a k = _; rw [mu_of, if_neg (by omega)]
        rw [up (by omega), up (by omega)]
        exact h a k (by omega)
    · rw [if_neg q, if_neg q]
      refine ⟨rfl, ?_, Nat.le_refl _⟩
      have : trmV W (d + 1) v = trmV W1 (d + 1) v := by unfold trmV; rw [h 7 (d + 1) (Nat.le_refl _), h 6 (d + 1) (Nat.le_refl _)]
      show Ag (d + 1) (mu W 6 (d + 1) (trmV W (d + 1) v)) (mu W1 6 (d + 1) (trmV W1 (d + 1) v))
      rw [this]; exact h.mu _ _ _
def PR0 (dp : Nat) (rc : List Int32) (f : (Nat → Int32) → Int32) : Prop := ∀ env W, ∃ W2, wRun env rc (dp, W) = some ((dlT dp W (f env)).1, W2) ∧ Ag dp W2 (dlT dp W (f env)).2
def PR1 (dp : Nat) (rc : List Int32) (f : (Nat → Int32) → Int32) : Prop := ∀ env W, Fm W dp → W 7 dp = 0 → ∃ W2, wRun env rc (dp, W) = some (dp, W2) ∧ W2 6 dp = f env ∧ ∀ a k, k ≤ dp → ¬ (k = dp ∧ (a = 6 ∨ a = 7)) → W2 a k = W a k
def PR2 (dp : Nat) (rc : List Int32) (f : (Nat → Int32) → Int32) : Prop := ∀ env W, Fm W dp → W 7 dp = 0 → W 4 dp = 0 → W 5 dp = 20 → ∃ W2, wRun env rc (dp, W) = some (dp, W2) ∧ sumV W2 dp = f env ∧ ∀ a k, k ≤ dp → ¬ (k = dp ∧ (a = 4 ∨ a = 5 ∨ a = 6 ∨ a = 7)) → W2 a k = W a k
def PR3 (dp : Nat) (rc : List Int32) (f : (Nat → Int32) → Int32) : Prop := ∀ env W, Fm W dp → W 7 dp = 0 → W 4 dp = 0 → W 5 dp = 20 → W 3 dp = 0 → ∃ W2, wRun env rc (dp, W) = some (dp, W2) ∧ tstV W2 dp = f env ∧ ∀ a k, k ≤ dp → ¬ (k = dp ∧ 2 ≤ a ∧ a ≤ 7) → W2 a k = W a k
def PR4 (dp : Nat) (rc : List Int32) (f : (Nat → Int32) → Int32) : Prop := ∀ env W, Fm W dp → W 7 dp = 0 → W 4 dp = 0 → W 5 dp = 20 → W 3 dp = 0 → W 1 dp = 0 → ∃ W2, wRun env rc (dp, W) = some (dp, W2) ∧ expV W2 dp = f env ∧ ∀ a k, k ≤ dp → ¬ (k = dp ∧ a ≤ 7) → W2 a k = W a k
section PRS
variable {dp : Nat} {rc rd : List Int32} {f h : (Nat → Int32) → Int32}
theorem Fm.to {W W2 : WW} (q : Fm W dp) (e : W2 8 dp = W 8 dp) : Fm W2 dp := by
  rcases q with q | q
  · exact .inl q
  · exact .inr (by rw [e]; exact q)
theorem PR1.of (q : PR0 dp rc f) : PR1 dp rc f := fun env W hf h7 => by
  obtain ⟨W2, w1, w2⟩ := q env W
  rw [dlT_fm hf] at w1 w2
  have w2 : Ag dp W2 (mu W 6 dp (trmV W dp (f env))) := w2
  refine ⟨W2, w1, ?_, fun a k hk hn => ?_⟩
  · rw [w2 6 dp (Nat.le_refl _), mu_of, if_pos ⟨rfl, rfl⟩]; unfold trmV; rw [if_pos h7]
  · rw [w2 a k hk, mu_of, if_neg (fun z => hn ⟨z.2, .inl z.1⟩)]
theorem PR1.tl (q : PR1 dp rc f) (q2 : PR0 dp rd h) : PR1 dp (rc ++ (22 :: rd)) (jnF (-12) f h) := fun env W hf h7 => by
  obtain ⟨W2, w1, w2, w3⟩ := q env W hf h7
  obtain ⟨W3, v1, v2⟩ := q2 env (mu W2 7 dp 22)
  have hf2 : Fm (mu W2 7 dp 22) dp := hf.to (by rw [mu_of, if_neg (by omega)]; exact w3 8 dp (Nat.le_refl _) (by omega))
  rw [dlT_fm hf2] at v1 v2
  have v2 : Ag dp W3 (mu (mu W2 7 dp 22) 6 dp (trmV (mu W2 7 dp 22) dp (h env))) := v2
  refine ⟨W3, ?_, ?_, fun a k hk hn => ?_⟩
  · rw [wRun_app w1]
    show (wStep env 22 (dp, W2)).bind (wRun env rd) = _
    have : wStep env 22 (dp, W2) = some (dp, mu W2 7 dp 22) := rfl
    rw [this]; exact v1
  · rw [v2 6 dp (Nat.le_refl _), mu_of, if_pos ⟨rfl, rfl⟩]
    have e7 : mu W2 7 dp 22 7 dp = 22 := by rw [mu_of, if_pos ⟨rfl, rfl⟩]
    have e6 : mu W2 7 dp 22 6 dp = f env := by rw [mu_of, if_neg (by omega), w2]
    unfold trmV
    rw [e7, e6, if_neg (by decide)]
    rfl
  · rw [v2 a k hk, mu_of, if_neg (fun z => hn ⟨z.2, .inl z.1⟩), mu_of, if_neg (fun z => hn ⟨z.2, .inr z.1⟩)]
    exact w3 a k hk hn
theorem PR2.of (q : PR1 dp rc f) : PR2 dp rc f := fun env W hf h7 h4 h5 => by
  obtain ⟨W2, w1, w2, w3⟩ := q env W hf h7
  refine ⟨W2, w1, ?_, fun a k hk hn => w3 a k hk (by omega)⟩
  unfold sumV
  rw [w3 5 dp (Nat.le_refl _) (by omega), w3 4 dp (Nat.le_refl _) (by omega), h4, h5, if_neg (by decide), w2, Int32.zero_add]
theorem PR2.tl {c c2 : Int32} (hc : (c = 20 ∧ c2 = -10) ∨ (c = 21 ∧ c2 = -11)) (q : PR2 dp rc f) (q2 : PR1 dp rd h) : PR2 dp (rc ++ (c :: rd)) (jnF c2 f h) := fun env W hf h7 h4 h5 => by
  obtain ⟨W2, w1, w2, w3⟩ := q env W hf h7 h4 h5
  have st : wStep env c (dp, W2) = some (dp, mu (smsW W2 dp) 5 dp c) := by rcases hc with ⟨rfl, -⟩ | ⟨rfl, -⟩ <;> rfl
  have e8 : mu (smsW W2 dp) 5 dp c 8 dp = W 8 dp := by
    unfold smsW
    rw [mu_of, if_neg (by omega), mu_of, if_neg (by omega), mu_of, if_neg (by omega)]; exact w3 8 dp (Nat.le_refl _) (by omega)
  obtain ⟨W3, v1, v2, v3⟩ := q2 env (mu (smsW W2 dp) 5 dp c) (hf.to e8) (by unfold smsW; rw [mu_of, if_neg (by omega), mu_of, if_pos ⟨rfl, rfl⟩])
  have x5 : W3 5 dp = c := by rw [v3 5 dp (Nat.le_refl _) (by omega), mu_of, if_pos ⟨rfl, rfl⟩]
  have x4 : W3 4 dp = f env := by
    rw [v3 4 dp (Nat.le_refl _) (by omega)]
    unfold smsW
    rw [mu_of, if_neg (by omega), mu_of, if_neg (by omega), mu_of, if_pos ⟨rfl, rfl⟩, w2]
  refine ⟨W3, ?_, ?_, fun a k hk hn => ?_⟩
  · rw [wRun_app w1]
    show (wStep env c (dp, W2)).bind (wRun env rd) = _
    rw [st]; exact v1
  · unfold sumV
    rw [x5, x4, v2]
    rcases hc with ⟨rfl, rfl⟩ | ⟨rfl, rfl⟩ <;> rfl
  · rw [v3 a k hk (by omega)]
    unfold smsW
    rw [mu_of, if_neg (by omega), mu_of, if_neg (by omega), mu_of, if_neg (by omega)]
    exact w3 a k hk hn
theorem PR3.of (q : PR2 dp rc f) : PR3 dp rc f := fun env W hf h7 h4 h5 h3 => by
  obtain ⟨W2, w1, w2, w3⟩ := q env W hf h7 h4 h5
  refine ⟨W2, w1, ?_, fun a k hk hn => w3 a k hk (by omega)⟩
  unfold tstV
  rw [w3 3 dp (Nat.le_refl _) (by omega), h3, if_neg (by decide), if_neg (by decide), w2]
theorem PR3.cmp {c c2 : Int32} (hc : (c = 24 ∧ c2 = -8) ∨ (c = 25 ∧ c2 = -9)) (q : PR2 dp rc f) (q2 : PR2 dp rd h) : PR3 dp (rc ++ (c :: rd)) (jnF c2 f h) := fun env W hf h7 h4 h5 h3 => by
  obtain ⟨W2, w1, w2, w3⟩ := q env W hf h7 h4 h5
  have st : wStep env c (dp, W2) = some (dp, mu (mu (mu (mu (smsW W2 dp) 2 dp (sumV W2 dp)) 3 dp c) 4 dp 0) 5 dp 20) := by rcases hc with ⟨rfl, -⟩ | ⟨rfl, -⟩ <;> rfl
  have at2 : ∀ a k, mu (mu (mu (mu (smsW W2 dp) 2 dp (sumV W2 dp)) 3 dp c) 4 dp 0) 5 dp 20 a k = if k = dp then (if a = 5 then 20 else if a = 4 then 0 else if a = 3 then c else if a = 2 then sumV W2 dp else if a = 7 then 0 else W2 a k) else W2 a k := fun a k => by
    unfold smsW
    simp only [mu_of]
    by_cases e : k = dp
    · simp only [e, and_true, if_true]
      by_cases a5 : a = 5
      · simp [a5]
      · by_cases a4 : a = 4
        · simp [a4]
        · by_cases a3 : a = 3
          · simp [a3]
          · by_cases a2 : a = 2
            · simp [a2]
            · simp [a5, a4, a3, a2]
    · simp [e]
  obtain ⟨W3, v1, v2, v3⟩ := q2 env (mu (mu (mu (mu (smsW W2 dp) 2 dp (sumV W2 dp)) 3 dp c) 4 dp 0) 5 dp 20) (hf.to (by rw [at2, if_pos rfl]; simp; exact w3 8 dp (Nat.le_refl _) (by omega))) (by rw [at2, if_pos rfl]; rfl) (by rw [at2, if_pos rfl]; rfl) (by rw [at2, if_pos rfl]; rfl)
  have x3 : W3 3 dp = c := by rw [v3 3 dp (Nat.le_refl _) (by omega), at2, if_pos rfl]; rfl
  have x2 : W3 2 dp = f env := by rw [v3 2 dp (Nat.le_refl _) (by omega), at2, if_pos rfl, ← w2]; rfl
  refine ⟨W3, ?_, ?_, fun a k hk hn => ?_⟩
  · rw [wRun_app w1]
    show (wStep env c (dp, W2)).bind (wRun env rd) = _
    rw [st]; exact v1
  · unfold tstV
    rw [x3, x2, v2]
    rcases hc with ⟨rfl, rfl⟩ | ⟨rfl, rfl⟩ <;> rfl
  · rw [v3 a k hk (by omega), at2]
    by_cases e : k = dp
    · rw [if_pos e, if_neg (by omega), if_neg (by omega), if_neg (by omega), if_neg (by omega), if_neg (by omega)]
      exact w3 a k hk (by omega)
    · rw [if_neg e]
      exact w3 a k hk (by omega)
theorem PR4.of (q : PR3 dp rc f) : PR4 dp rc f := fun env W hf h7 h4 h5 h3 h1 => by
  obtain ⟨W2, w1, w2, w3⟩ := q env W hf h7 h4 h5 h3
  refine ⟨W2, w1, ?_, fun a k hk hn => w3 a k hk (by omega)⟩
  unfold expV
  rw [w3 1 dp (Nat.le_refl _) (by omega), h1, if_neg (by decide), if_neg (by decide), w2]
theorem tstW_at (W : WW) (d a k : Nat) : tstW W d a k = if k = d then (if a = 5 then 20 else if a = 4 then 0 else if a = 3 then 0 else if a = 0 then expV W d else if a = 7 then 0 else W a k) else W a k := by
  unfold tstW smsW
  simp only [mu_of]
  by_cases e : k = d
  · simp only [e, and_true, if_true]
    by_cases a5 : a = 5
    · simp [a5]
    · by_cases a4 : a = 4
      · simp [a4]
      · by_cases a3 : a = 3
        · simp [a3]
        · by_cases a0 : a = 0
          · simp [a0]
          · simp [a5, a4, a3, a0]
  · simp [e]
theorem PR4.tl {c c2 : Int32} (hc : (c = 26 ∧ c2 = -6) ∨ (c = 27 ∧ c2 = -7)) (q : PR4 dp rc f) (q2 : PR3 dp rd h) : PR4 dp (rc ++ (c :: rd)) (jnF c2 f h) := fun env W hf h7 h4 h5 h3 h1 => by
  obtain ⟨W2, w1, w2, w3⟩ := q env W hf h7 h4 h5 h3 h1
  have st : wStep env c (dp, W2) = some (dp, mu (tstW W2 dp) 1 dp c) := by rcases hc with ⟨rfl, -⟩ | ⟨rfl, -⟩ <;> rfl
  have at1 : ∀ a, a ≠ 1 → mu (tstW W2 dp) 1 dp c a dp = tstW W2 dp a dp := fun a ha => by rw [mu_of, if_neg (fun z => ha z.1)]
  obtain ⟨W3, v1, v2, v3⟩ := q2 env (mu (tstW W2 dp) 1 dp c) (hf.to (by rw [at1 8 (by omega), tstW_at, if_pos rfl]; simp; exact w3 8 dp (Nat.le_refl _) (by omega))) (by rw [at1 7 (by omega), tstW_at, if_pos rfl]; rfl) (by rw [at1 4 (by omega), tstW_at, if_pos rfl]; rfl) (by rw [at1 5 (by omega), tstW_at, if_pos rfl]; rfl) (by rw [at1 3 (by omega), tstW_at, if_pos rfl]; rfl)
  have x1 : W3 1 dp = c := by rw [v3 1 dp (Nat.le_refl _) (by omega), mu_of, if_pos ⟨rfl, rfl⟩]
  have x0 : W3 0 dp = f env := by rw [v3 0 dp (Nat.le_refl _) (by omega), at1 0 (by omega), tstW_at, if_pos rfl, ← w2]; rfl
  refine ⟨W3, ?_, ?_, fun a k hk hn => ?_⟩
  · rw [wRun_app w1]
    show (wStep env c (dp, W2)).bind (wRun env rd) = _
    rw [st]; exact v1
  · unfold expV
    rw [x1, x0, v2]
    rcases hc with ⟨rfl, rfl⟩ | ⟨rfl, rfl⟩ <;> rfl
  · rw [v3 a k hk (by omega), mu_of, if_neg (by omega), tstW_at]
    by_cases e : k = dp
    · rw [if_pos e, if_neg (by omega), if_neg (by omega), if_neg (by omega), if_neg (by omega), if_neg (by omega)]
      exact w3 a k hk (by omega)
    · rw [if_neg e]
      exact w3 a k hk (by omega)
theorem opn_at (W : WW) (x : Int32) (d a k : Nat) : opnW (mu W 8 d x) d a k = if k = d then (if a = 1 ∨ a = 3 ∨ a = 4 ∨ a = 7 then 0 else if a = 5 then 20 else if a = 8 then x else W a k) else W a k := by
  unfold opnW
  simp only [mu_of]
  by_cases e : k = d
  · simp only [e, and_true, if_true]
    by_cases a7 : a = 7
    · simp [a7]
    · by_cases a5 : a = 5
      · simp [a5]
      · by_cases a4 : a = 4
        · simp [a4]
        · by_cases a3 : a = 3
          · simp [a3]
          · by_cases a1 : a = 1
            · simp [a1]
            · simp [a7, a5, a4, a3, a1]
  · simp [e]
theorem PR0.opn (hd : ¬ 5 ≤ dp) (q : PR4 (dp + 1) rc f) : PR0 dp (28 :: (rc ++ [29])) f := fun env W => by
  obtain ⟨W2, w1, w2, w3⟩ := q env (opnW (mu W 8 (dp + 1) 0) (dp + 1)) (.inr (by rw [opn_at, if_pos rfl, if_neg (by omega), if_neg (by omega), if_pos rfl]; decide)) (by rw [opn_at, if_pos rfl]; rfl) (by rw [opn_at, if_pos rfl]; rfl) (by rw [opn_at, if_pos rfl]; rfl) (by rw [opn_at, if_pos rfl]; rfl) (by rw [opn_at, if_pos rfl]; rfl)
  have ag : Ag dp (tstW W2 (dp + 1)) W := fun a k hk => by
    rw [tstW_at, if_neg (by omega), w3 a k (by omega) (by omega), opn_at, if_neg (by omega)]
  have h29 : wStep env 29 (dp + 1, W2) = some (dlT dp (tstW W2 (dp + 1)) (f env)) := by rw [← w2]; rfl
  have h28 : wStep env 28 (dp, W) = some (dp + 1, opnW (mu W 8 (dp + 1) 0) (dp + 1)) := by
    show (if dp < 6 then _ else none) = _
    rw [if_pos (by omega)]
  have g := dlT_ag (f env) ag
  refine ⟨(dlT dp (tstW W2 (dp + 1)) (f env)).2, ?_, g.2.1⟩
  show (wStep env 28 (dp, W)).bind (wRun env (rc ++ [29])) = _
  rw [h28]
  show wRun env (rc ++ [29]) (dp + 1, opnW (mu W 8 (dp + 1) 0) (dp + 1)) = _
  rw [wRun_app w1]
  show (wStep env 29 (dp + 1, W2)).bind (wRun env []) = _
  rw [h29, ← g.1]
  rfl
theorem PR0.neg (hd : ¬ 5 ≤ dp) (q : PR0 (dp + 1) rc f) : PR0 dp (30 :: rc) (fun e => if f e = 0 then 1 else 0) := fun env W => by
  obtain ⟨W2, w1, w2⟩ := q env (opnW (mu W 8 (dp + 1) 1) (dp + 1))
  have e1 : dlT (dp + 1) (opnW (mu W 8 (dp + 1) 1) (dp + 1)) (f env) = dlT dp (opnW (mu W 8 (dp + 1) 1) (dp + 1)) (if f env = 0 then 1 else 0) := by
    rw [dlT, if_pos (by rw [opn_at, if_pos rfl]; rfl)]
  rw [e1] at w1 w2
  have ag : Ag dp (opnW (mu W 8 (dp + 1) 1) (dp + 1)) W := fun a k hk => by rw [opn_at, if_neg (by omega)]
  have g := dlT_ag (if f env = 0 then 1 else 0) ag
  have h30 : wStep env 30 (dp, W) = some (dp + 1, opnW (mu W 8 (dp + 1) 1) (dp + 1)) := by
    show (if dp < 6 then _ else none) = _
    rw [if_pos (by omega)]
  refine ⟨W2, ?_, fun a k hk => (w2 a k (by omega)).trans (g.2.1 a k hk)⟩
  show (wStep env 30 (dp, W)).bind (wRun env rc) = _
  rw [h30]
  show wRun env rc (dp + 1, opnW (mu W 8 (dp + 1) 1) (dp + 1)) = _
  rw [w1, g.1]
end PRS
def PRl (lvl dp : Nat) (rc : List Int32) (f : (Nat → Int32) → Int32) : Prop := if lvl = 0 then PR0 dp rc f else if lvl = 1 then PR1 dp rc f else if lvl = 2 then PR2 dp rc f else if lvl = 3 then PR3 dp rc f else PR4 dp rc f
def lvT (lvl : Nat) : Nat := if lvl = 7 then 4 else lvl - 4
section PRG
variable {n : Nat} {t : Nat → Nat}
theorem pEx_goodR (f lvl dp p : Nat) (acc : PRs) (hl : lvl ≤ 7) (h : rst (pEx n t f lvl dp p acc) = 0) : (lvl < 5 → PRl lvl dp (rrc (pEx n t f lvl dp p acc)) (rfv (pEx n t f lvl dp p acc))) ∧ (5 ≤ lvl → PRl (lvT lvl) dp (rrc acc) (rfv acc) → PRl (lvT lvl) dp (rrc (pEx n t f lvl dp p acc)) (rfv (pEx n t f lvl dp p acc))) := by
  refine pEx_ind (n := n) (t := t) (fun lvl dp p acc r => (lvl < 5 → PRl lvl dp (rrc r) (rfv r)) ∧ (5 ≤ lvl → PRl (lvT lvl) dp (rrc acc) (rfv acc) → PRl (lvT lvl) dp (rrc r) (rfv r))) ?_ ?_ ?_ ?_ ?_ ?_ ?_ ?_ ?_ ?_ ?_ f lvl dp p acc hl h
  · intro dp p acc q hd
    refine ⟨fun _ env W => ⟨_, ?_, fun a k hk => rfl⟩, fun z => absurd z (by omega)⟩
    have hk := lexT_nu q
    have e : wStep env (nI (100 + knu (lexT n t p))) (dp, W) = some (dlT dp W (nI (knu (lexT n t p)))) := by
      have ne : ∀ (m : Nat) (x : Int32), x = nI m → m < 100 → ¬ nI (100 + knu (lexT n t p)) = x := fun m x hx hm z => by
        rw [hx] at z
        have := (nI_eq (by omega) (by omega)).mp z
        omega
      unfold wStep
      have lt : ¬ nI (100 + knu (lexT n t p)) < 100 := by rw [show (100 : Int32) = nI 100 from rfl, nI_ltI (by omega) (by decide)]; omega
      rw [if_neg (ne 28 28 rfl (by omega)), if_neg (ne 30 30 rfl (by omega)), if_neg (fun z => z.elim (ne 20 20 rfl (by omega)) (ne 21 21 rfl (by omega))), if_neg (ne 22 22 rfl (by omega)), if_neg (fun z => z.elim (ne 24 24 rfl (by omega)) (ne 25 25 rfl (by omega))), if_neg (fun z => z.elim (ne 26 26 rfl (by omega)) (ne 27 27 rfl (by omega))), if_neg (ne 29 29 rfl (by omega)), if_pos lt]
      have : nI (100 + knu (lexT n t p)) - 100 = nI (knu (lexT n t p)) := by
        rw [Nat.add_comm, ← nI_add, show (100 : Int32) = nI 100 from rfl, Int32.add_sub_cancel]
      rw [this]
    show (wStep env (nI (100 + knu (lexT n t p))) (dp, W)).bind (wRun env []) = _
    rw [e]; rfl
  · intro dp p acc q hd
    refine ⟨fun _ env W => ⟨_, ?_, fun a k hk => rfl⟩, fun z => absurd z (by omega)⟩
    have h4 := kfa_le (K := lexT n t p)
    have e : ∀ m, m ≠ 0 → m ≤ 4 → wStep env (nI m) (dp, W) = some (dlT dp W (env m)) := fun m m0 m4 => by
      match m, m0, m4 with
      | 1, _, _ => rfl
      | 2, _, _ => rfl
      | 3, _, _ => rfl
      | 4, _, _ => rfl
    show (wStep env (nI (kfa (lexT n t p))) (dp, W)).bind (wRun env []) = _
    rw [e _ q h4]; rfl
  · intro dp p acc r _ hd _ Q1 _
    exact ⟨fun _ => PR0.opn hd (Q1.1 (by omega)), fun z => absurd z (by omega)⟩
  · intro dp p acc r _ hd _ Q1
    exact ⟨fun _ => PR0.neg hd (Q1.1 (by omega)), fun z => absurd z (by omega)⟩
  · intro dp p acc r r2 _ _ Q1 Q2
    exact ⟨fun _ => Q2.2 (by omega) (PR1.of (Q1.1 (by omega))), fun z => absurd z (by omega)⟩
  · intro dp p acc r r2 _ _ Q1 Q2
    exact ⟨fun _ => Q2.2 (by omega) (PR2.of (Q1.1 (by omega))), fun z => absurd z (by omega)⟩
  · intro dp p acc r r2 _ _ Q1 Q2
    exact ⟨fun _ => Q2.2 (by omega) (PR4.of (Q1.1 (by omega))), fun z => absurd z (by omega)⟩
  · intro dp p acc a _ Q1 _ _
    exact ⟨fun _ => PR3.of (Q1.1 (by omega)), fun z => absurd z (by omega)⟩
  · intro dp p acc a r c d hc _ _ Q1 Q2
    exact ⟨fun _ => PR3.cmp (by rcases hc with ⟨-, rfl, rfl⟩ | ⟨-, rfl, rfl⟩; exact .inl ⟨rfl, rfl⟩; exact .inr ⟨rfl, rfl⟩) (Q1.1 (by omega)) (Q2.1 (by omega)), fun z => absurd z (by omega)⟩
  · intro lvl dp p acc hc
    exact ⟨fun z => absurd z (by omega), fun _ q => q⟩
  · intro l1 l2 dp p acc r r2 c d hc _ _ Q1 Q2
    refine ⟨fun z => absurd z (by omega), fun _ q => Q2.2 (by omega) ?_⟩
    have g := Q1.1 (by omega)
    rcases hc with ⟨rfl, rfl, -, rfl, rfl⟩ | ⟨rfl, rfl, -, rfl, rfl⟩ | ⟨rfl, rfl, -, rfl, rfl⟩ | ⟨rfl, rfl, -, rfl, rfl⟩ | ⟨rfl, rfl, -, rfl, rfl⟩
    · exact PR1.tl q g
    · exact PR2.tl (.inl ⟨rfl, rfl⟩) q g
    · exact PR2.tl (.inr ⟨rfl, rfl⟩) q g
    · exact PR4.tl (.inl ⟨rfl, rfl⟩) q g
    · exact PR4.tl (.inr ⟨rfl, rfl⟩) q g
end PRG
