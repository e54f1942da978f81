/-! ===== fields, arrays of references, new cells, calls, returns over EX ===== -/
def FD (own : String) (idx ci k : Nat) (ty : FieldType) (fin : Bool) : Prop :=
  ∃ (C : String) (T : u_T), vwCl[ci]? = some (C, T, mN ci) ∧ (∀ w ∈ u_ws C T (mN ci), w ∈ gw) ∧ (∀ j, j < mN ci → parseFieldDescriptor (T j).2.2.1 = some (mty ci j)) ∧ (∀ a, a < mN ci → ∀ b, b < mN ci → a ≠ b → (T a).2.1 ≠ (T b).2.1) ∧ k < mN ci ∧ mty ci k = ty ∧ (T k).2.2.2 = fin ∧ (T k).1 = C ∧ Cond.fieldLink own idx C (T k).2.1 (T k).2.2.1 ∈ gw
section EXH
variable {g : GG} {Y : YY} {d mc ms ce sl pc : Nat} {lv : List (Nat × Value)} {st : List Value} {M : MM} {P : Option Value → MM → Prop}
theorem x_get {idx ci k a : Nat} {ty : FieldType} {fin : Bool} {v : Value} (F : FD (yN Y).cls idx ci k ty fin) (hd : decode (yC Y) pc = .ok (.getfield idx, 3)) (ha : a < mn M) (hs : mh M a = (0, ci)) (hv : mfv (gB g) M a k (mkd ty) = xv (gB g) v) (k1 : EX g Y d mc ms ce sl (pc + 3) lv (v :: st) M P) : EX g Y d mc ms ce sl pc lv (.ref a :: st) M P := by
  intro p e s m args below meth c H locs ls C hP hS hz hl
  have h1 := mW_at g M ha
  rw [mE_ob hs] at h1
  obtain ⟨CN, T, hc, hin, hty, hnm, hkN, rfl, hfin, hdecl, hlink⟩ := F
  exact va_get C.1 C.2.1 (Ts := gw) C.2.2.2.2.1 hin C.2.2.2.1 C.2.2.2.2.2.2.2.2.1.1 hP a h1 hc k hkN (C.2.2.2.2.1 _ hlink) (fun x h => by rw [hdecl] at h; exact h) ((mF_at hkN).trans (congrArg some hv)) hd (k1 p e s m args below meth c H locs ls C hP hS hz hl)
theorem x_getI {idx ci k a : Nat} {ty : FieldType} {fin : Bool} (F : FD (yN Y).cls idx ci k ty fin) (hk : mkd ty = 0) (hd : decode (yC Y) pc = .ok (.getfield idx, 3)) (ha : a < mn M) (hs : mh M a = (0, ci)) (k1 : EX g Y d mc ms ce sl (pc + 3) lv (.int (mi M a k) :: st) M P) : EX g Y d mc ms ce sl pc lv (.ref a :: st) M P :=
  x_get F hd ha hs (by rw [hk]; rfl) k1
theorem x_getJ {idx ci k a : Nat} {ty : FieldType} {fin : Bool} (F : FD (yN Y).cls idx ci k ty fin) (hk : mkd ty = 1) (hd : decode (yC Y) pc = .ok (.getfield idx, 3)) (ha : a < mn M) (hs : mh M a = (0, ci)) (k1 : EX g Y d mc ms ce sl (pc + 3) lv (.long (mj M a k) :: st) M P) : EX g Y d mc ms ce sl pc lv (.ref a :: st) M P :=
  x_get F hd ha hs (by rw [hk]; rfl) k1
theorem x_getR {idx ci k a b : Nat} {ty : FieldType} {fin : Bool} (F : FD (yN Y).cls idx ci k ty fin) (hk : mkd ty = 2) (hd : decode (yC Y) pc = .ok (.getfield idx, 3)) (ha : a < mn M) (hs : mh M a = (0, ci)) (hb : mr M a k = some b) (k1 : EX g Y d mc ms ce sl (pc + 3) lv (.ref b :: st) M P) : EX g Y d mc ms ce sl pc lv (.ref a :: st) M P :=
  x_get F hd ha hs (by rw [hk]; unfold mfv; rw [if_neg (by decide), if_neg (by decide), hb]; rfl) k1
/-- a store into a field that isn't final, or of a constructor into its own final field -/
theorem x_put {idx ci k a : Nat} {ty : FieldType} {fin : Bool} {v : Value} {M1 : MM} (F : FD (yN Y).cls idx ci k ty fin) (hf : fin = false ∨ (vwCl[ci]?.map (fun r => r.1) = some (yN Y).cls ∧ (yN Y).name = "<init>")) (hd : decode (yC Y) pc = .ok (.putfield idx, 3)) (ha : a < mn M) (hs : mh M a = (0, ci)) (hnar : narrow ty (xv (gB g) v) = xv (gB g) v) (hfit : fits ty (xv (gB g) v) = true)
    (hn : mn M1 = mn M) (hh : mh M1 = mh M) (hv : mfv (gB g) M1 a k (mkd ty) = xv (gB g) v) (ho : ∀ j kd, j ≠ k → mfv (gB g) M1 a j kd = mfv (gB g) M a j kd) (hE : ∀ b, b ≠ a → mE (gB g) g.2.2.2 M1 b = mE (gB g) g.2.2.2 M b)
    (k1 : EX g Y d mc ms ce sl (pc + 3) lv st M1 P) : EX g Y d mc ms ce sl pc lv (v :: .ref a :: st) M P := by
  intro p e s m args below meth c H locs ls C hP hS0 hz hl
  have he := mW_at g M ha
  rw [mE_ob hs] at he
  obtain ⟨CN, T, hc, hin, hty, hnm, hk, rfl, hfin, hdecl, hlink⟩ := F
  have hts := C.2.2.2.2.1
  have hK := C.2.2.2.2.2.2.2.2.1.1
  have hlink := hts _ hlink
  have hap := va_apart (own := (yN Y).cls) hts hin (mty ci) hty hnm hK hc
  obtain ⟨r, h1, cell, q1, q2, q3, q4⟩ := hP a _ he
  have hr : r = (CN, T, mN ci) := Option.some.inj (h1.symm.trans hc)
  subst hr
  obtain ⟨hS, hfc, kC, hkC, hkind⟩ := hK.1 ci _ hc
  obtain ⟨cf, kf, fi, f, hi, hsl⟩ := hS k hk
  have hlay := hts _ (hin _ (u_in_lay hk))
  have hst := (u_facts hfc hkC (u_lays hts hin hk) hi).1
  have hi2 : s.fieldFound? CN (T k).2.1 (T k).2.2.1 = some (cf, kf, fi, f) := by
    have h := hi
    rw [hdecl] at h
    exact h
  have h3 : (mW g M).set a (gB g + a, .inr (ci, (mF (gB g) M ci a).set k (xv (gB g) v))) = mW g M1 := by
    refine mW_set ha hn ?_ hE
    rw [mE_ob (M := M1) (by rw [hh]; exact hs), mF_set hk hv ho]
  have fin1 : ∀ H' : Heap, H'[gB g + a]? = some (cell.setSlot f.slot (xv (gB g) v)) → H'.size = H.size → (∀ q, q ≠ gB g + a → H'[q]? = H[q]?) → W p g.1 e (xR d mc ms) s m args below meth c H' (locs ++ [⟨gB g + a, f.slot⟩]) ce sl (MQ below (xQ g P) args s mc ms (gA g)) (F0 m (pc + 3) ls (xst g st)) := by
    intro H' e1 e2 e3
    rw [hsl] at e1
    have hP1 := va_P.set hP (mD g M) he (e := .inr (ci, (mF (gB g) M ci a).set k (xv (gB g) v))) ⟨_, hc, t_OB.to (V := updV (vp_V (mF (gB g) M ci a)) k (xv (gB g) v)) ⟨_, e1, q2, q3, t_set q4 hap hk (xv (gB g) v)⟩ (fun j _ => vp_updV_set (by rw [mF_len]; exact hk) (xv (gB g) v) j)⟩ e3
    rw [h3] at hP1
    exact k1 p e s m args below meth c H' _ ls C hP1 (hS0.put e2 e3 (Nat.le_add_right _ _)) (by rw [e2, hz, hn]) hl
  unfold u_lay at hlay
  cases fin with
  | false =>
    rw [if_neg (by rw [hfin]; decide)] at hlay
    have h6 := u_store hfc hkC hkind hlay hi (hty k hk) hnar hfit
    exact W.putK C.1 C.2.1 (f := f) ⟨C.2.2.2.1, hlink, ⟨_, _, _, hi2⟩, hst⟩ (by rw [q2]; exact h6) q1 q3 (by rw [hsl]; exact k2_hasslot (q4 k hk)) rfl rfl hd fin1
  | true =>
    rw [if_pos hfin] at hlay
    rcases hf with hf | ⟨hown, hini⟩
    · cases hf
    · rw [hc] at hown
      have hown : CN = (yN Y).cls := Option.some.inj hown
      have hcf : m.cls = cf := by
        obtain ⟨_, _, c', _, _, _, -, -, hf', -, -, -, hown2, -⟩ := Cond.laysFinal_spec hlay
        have e1 : c' = cf := by have := hi.symm.trans hf'; simp at this; exact this.1.symm
        rw [hdecl, hown] at hown2
        rw [← e1]; exact Option.some.inj (C.2.2.2.1.symm.trans hown2)
      have h6 := u_fits hfc hkC hkind (Or.inr hlay) hi (hty k hk) hnar hfit
      exact W.putFinK C.1 C.2.1 C.2.2.2.1 hlink hi2 hst hcf (C.2.2.2.2.2.2.2.1.trans hini) (by rw [q2]; exact h6) q1 q3 (by rw [hsl]; exact k2_hasslot (q4 k hk)) rfl rfl hd fin1
theorem x_putI {idx ci k a : Nat} {ty : FieldType} {fin : Bool} {v : Int32} (F : FD (yN Y).cls idx ci k ty fin) (hk : mkd ty = 0) (hf : fin = false ∨ (vwCl[ci]?.map (fun r => r.1) = some (yN Y).cls ∧ (yN Y).name = "<init>")) (hd : decode (yC Y) pc = .ok (.putfield idx, 3)) (ha : a < mn M) (hs : mh M a = (0, ci)) (hnar : narrow ty (.int v) = .int v) (hfit : fits ty (.int v) = true) (k1 : EX g Y d mc ms ce sl (pc + 3) lv st (wi M a k v) P) : EX g Y d mc ms ce sl pc lv (.int v :: .ref a :: st) M P :=
  x_put (M1 := wi M a k v) F hf hd ha hs hnar hfit rfl rfl (by rw [hk]; exact congrArg Value.int (mu_s _ a k v)) (fun j kd hj => by
    unfold mfv
    by_cases h0 : kd = 0
    · rw [if_pos h0, if_pos h0]; exact congrArg Value.int (mu_k _ a v hj)
    · rw [if_neg h0, if_neg h0]) (fun b hb => mE_wi hb) k1
theorem x_putJ {idx ci k a : Nat} {ty : FieldType} {fin : Bool} {v : Int64} (F : FD (yN Y).cls idx ci k ty fin) (hk : ty = .long) (hf : fin = false ∨ (vwCl[ci]?.map (fun r => r.1) = some (yN Y).cls ∧ (yN Y).name = "<init>")) (hd : decode (yC Y) pc = .ok (.putfield idx, 3)) (ha : a < mn M) (hs : mh M a = (0, ci)) (k1 : EX g Y d mc ms ce sl (pc + 3) lv st (wj M a k v) P) : EX g Y d mc ms ce sl pc lv (.long v :: .ref a :: st) M P :=
  x_put (M1 := wj M a k v) F hf hd ha hs (by rw [hk]; rfl) (by rw [hk]; rfl) rfl rfl (by rw [hk]; exact congrArg Value.long (mu_s _ a k v)) (fun j kd hj => by
    unfold mfv
    by_cases h0 : kd = 0
    · rw [if_pos h0, if_pos h0]
    · rw [if_neg h0, if_neg h0]
      by_cases h1 : kd = 1
      · rw [if_pos h1, if_pos h1]; exact congrArg Value.long (mu_k _ a v hj)
      · rw [if_neg h1, if_neg h1]) (fun b hb => mE_wj hb) k1
theorem x_putR {idx ci k a b : Nat} {ty : FieldType} {fin : Bool} (F : FD (yN Y).cls idx ci k ty fin) (hk : mkd ty = 2) (hf : fin = false ∨ (vwCl[ci]?.map (fun r => r.1) = some (yN Y).cls ∧ (yN Y).name = "<init>")) (hd : decode (yC Y) pc = .ok (.putfield idx, 3)) (ha : a < mn M) (hs : mh M a = (0, ci)) (k1 : EX g Y d mc ms ce sl (pc + 3) lv st (wr M a k (some b)) P) : EX g Y d mc ms ce sl pc lv (.ref b :: .ref a :: st) M P :=
  x_put (M1 := wr M a k (some b)) F hf hd ha hs (by cases ty <;> first | rfl | cases hk) (by cases ty <;> first | rfl | cases hk) rfl rfl (by
    rw [hk]
    unfold mfv
    rw [if_neg (by decide), if_neg (by decide)]
    exact congrArg (fun r => va_rf (mo (gB g) r)) (mu_s (mr M) a k (some b))) (fun j kd hj => by
    unfold mfv
    by_cases h0 : kd = 0
    · rw [if_pos h0, if_pos h0]
    · rw [if_neg h0, if_neg h0]
      by_cases h1 : kd = 1
      · rw [if_pos h1, if_pos h1]
      · rw [if_neg h1, if_neg h1]; exact congrArg (fun r => va_rf (mo (gB g) r)) (mu_k (mr M) a (some b) hj)) (fun b hb => mE_wr hb) k1
/-- arrays of references -/
theorem x_aald {a n t b : Nat} {i : Int32} (hd : decode (yC Y) pc = .ok (.aaload, 1)) (ha : a < mn M) (hs : mh M a = (t, n)) (ht : t = 5 ∨ t = 6) (hi : vp_in i n) (hb : mr M a i.toNatClampNeg = some b) (k : EX g Y d mc ms ce sl (pc + 1) lv (.ref b :: st) M P) : EX g Y d mc ms ce sl pc lv (.int i :: .ref a :: st) M P := by
  intro p e s m args below meth c H locs ls C hP hS hz hl
  have h1 := mW_at g M ha
  have kk := k p e s m args below meth c H locs ls C hP hS hz hl
  rcases ht with rfl | rfl
  · rw [mE_q hs (by decide)] at h1
    refine va_aldq C.1 C.2.1 C.2.2.2.2.2.2.2.2.1.1 hP a 4 h1 rfl hi hd ?_
    rw [hb]; exact kk
  · rw [mE_q hs (by decide)] at h1
    refine va_aldq C.1 C.2.1 C.2.2.2.2.2.2.2.2.1.1 hP a 5 h1 rfl hi hd ?_
    rw [hb]; exact kk
theorem x_aast {a n t v ci : Nat} {i : Int32} (hd : decode (yC Y) pc = .ok (.aastore, 1)) (ha : a < mn M) (hs : mh M a = (t, n)) (ht : (t = 5 ∧ ci = 3) ∨ (t = 6 ∧ ci = 10)) (hi : vp_in i n) (hv : v < mn M) (hsv : mh M v = (0, ci)) (k : EX g Y d mc ms ce sl (pc + 1) lv st (wr M a i.toNatClampNeg (some v)) P) : EX g Y d mc ms ce sl pc lv (.ref v :: .int i :: .ref a :: st) M P := by
  intro p e s m args below meth c H locs ls C hP hS hz hl
  have hlt : i.toNatClampNeg < n := Nat.not_le.mp fun q => hi (Or.inr q)
  have h0 : ¬ i < 0 := fun q => hi (Or.inl q)
  have hK := C.2.2.2.2.2.2.2.2.1.1
  have ht5 : 5 ≤ t := by omega
  have h1 := mW_at g M ha
  rw [mE_q hs ht5] at h1
  have h1v := mW_at g M hv
  rw [mE_ob hsv] at h1v
  obtain ⟨rc, t0, hc, htt⟩ : ∃ (rc : vw_C) (t0 : Nat), vwCl[ci]? = some rc ∧ (mT g)[t0]? = some (g.2.2.2 t, .object rc.1) := by
    rcases ht with ⟨rfl, rfl⟩ | ⟨rfl, rfl⟩
    · exact ⟨_, 4, rfl, rfl⟩
    · exact ⟨_, 5, rfl, rfl⟩
  have h2 : mE (gB g) g.2.2.2 (wr M a i.toNatClampNeg (some v)) a = .inl (g.2.2.2 t, n, .inr (.inr (.inr (.inr (va_up (fun j => mo (gB g) (mr M a j)) i.toNatClampNeg (some (gB g + v))))))) := by
    rw [mE_q (M := wr M a i.toNatClampNeg (some v)) hs ht5]
    exact congrArg (fun f => Sum.inl (g.2.2.2 t, n, Sum.inr (Sum.inr (Sum.inr (Sum.inr f))))) (mu_upq (gB g) (mr M) a i.toNatClampNeg (some v))
  have h3 := mW_set (g := g) (M := M) (M' := wr M a i.toNatClampNeg (some v)) ha rfl h2 (fun b hb => mE_wr hb)
  obtain ⟨r', hr', cellV, g1, g2, g3, -⟩ := hP v _ h1v
  have hcls := (hK.1 ci rc hc).2
  obtain ⟨kA, comp, k1, k2, k3, -⟩ := (hK.2 t0 _ htt).2
  have hcomp : comp = g.2.2.1.1 ci := Option.some.inj (k3.symm.trans hcls.1)
  subst hcomp
  obtain ⟨kC, hkC, -⟩ := hcls.2
  refine W.aast C.1 C.2.1 (hP a _ h1) (fun q h => by cases h) (fun h => by cases h) k1 k2 rfl hkC ⟨h0, by show _ < (arrV _ _ _).slots.size; rw [arrV_size]; exact hlt⟩ g1 (fun q h => by rw [g3] at h; cases h) (by rw [g2]; exact hkC) (by rw [g2]; exact va_assign hcls) rfl rfl hd fun H1 e1 z oq => ?_
  have hP1 := va_P.set hP (mD g M) h1 (e := .inl (g.2.2.2 t, n, .inr (.inr (.inr (.inr (va_up (fun j => mo (gB g) (mr M a j)) i.toNatClampNeg (some (gB g + v)))))))) (by
    show H1[gB g + a]? = some (vp_cell _ _)
    rw [e1]
    rw [vp_cell_q, vp_cell_q, arrV_store]
    congr 2
    funext q
    by_cases hq : q = i.toNatClampNeg
    · subst hq
      simp [updV, va_up, va_rf]
    · simp [updV, va_up, hq]) oq
  rw [h3] at hP1
  exact k p e s m args below meth c H1 _ ls C hP1 (hS.put z oq (Nat.le_add_right _ _)) (z.trans hz) hl
/-- one cell more -/
theorem mW_new {g : GG} {M : MM} {sh : Nat × Nat} {H H1 : Heap} {e : va_E} (hP : gV g M H) (hz : H.size = gB g + mn M) (he : mE (gB g) g.2.2.2 (mw M sh) (mn M) = e) (hat : va_at g.2.2.1 vwCl (gB g + mn M, e) H1) (o1 : ∀ q, q < H.size → H1[q]? = H[q]?) : gV g (mw M sh) H1 := by
  intro k q hk
  obtain ⟨h1, rfl⟩ := mW_of hk
  have h1 : k < mn M + 1 := h1
  by_cases hk2 : k = mn M
  · subst hk2
    rw [he]
    exact hat
  · have hlt : k < mn M := by omega
    have e1 : mE (gB g) g.2.2.2 (mw M sh) k = mE (gB g) g.2.2.2 M k := mE_same (if_neg hk2) (fun _ => if_neg hk2) (fun _ => if_neg hk2) (fun _ => if_neg hk2)
    rw [e1]
    exact (hP k _ (mW_at g M hlt)).kept (o1 _ (by show gB g + k < H.size; rw [hz]; omega))
theorem mw_S {g : GG} {H0 H H1 : Heap} {locs : List Loc} (hS : va_S (gA g) H0 H locs) (z1 : H1.size = H.size + 1) (o1 : ∀ q, q < H.size → H1[q]? = H[q]?) : va_S (gA g) H0 H1 locs :=
  ⟨Nat.le_trans hS.1 (by omega), fun x h1 h2 => (o1 x (Nat.lt_of_lt_of_le h1 hS.1)).trans (hS.2.1 x h1 h2), hS.2.2⟩
theorem x_newarray (hJ : gJ g = 0) {t : Nat} {n : Int32} {N : Nat} {atype : ArrayType} (ht : (t = 1 ∧ newarray.typeOf atype = .int) ∨ (t = 2 ∧ newarray.typeOf atype = .long) ∨ (t = 3 ∧ newarray.typeOf atype = .boolean) ∨ (t = 4 ∧ newarray.typeOf atype = .char)) (hd : decode (yC Y) pc = .ok (.newarray atype, 2)) (hw : Cond.arrayClass (newarray.typeOf atype) ∈ gw) (hn : ¬ n < 0) (hN : n.toNatClampNeg = N) (hN2 : N ≤ 4000) (hc : ce + 1 ≤ mc) (hsl : sl + N ≤ ms) (k : EX g Y d mc ms (ce + 1) (sl + N) (pc + 2) lv (.ref (mn M) :: st) (mw M (t, N)) P) : EX g Y d mc ms ce sl pc lv (.int n :: st) M P := by
  intro p e s m args below meth c H locs ls C hP hS hz0 hl
  have hz : H.size = gB g + mn M := by rw [hz0]; show gJ g + gB g + mn M = _; rw [hJ]; omega
  have hK := C.2.2.2.2.2.2.2.2.1.1
  have hby : N * componentBytes (newarray.typeOf atype) ≤ 536870912 := by
    rcases ht with ⟨-, h⟩ | ⟨-, h⟩ | ⟨-, h⟩ | ⟨-, h⟩ <;> rw [h] <;> simp [componentBytes] <;> omega
  refine va_newaK C.1 C.2.1 (C.2.2.2.2.1 _ hw) rfl hd rfl hn hN hby hc hsl hz fun H1 cA e1 z1 o1 hAr hNm => ?_
  have o1' : ∀ q, q < H.size → H1[q]? = H[q]? := fun q h => o1 q (by rw [← hz]; exact h)
  have hcA : cA = g.2.2.2 t := by
    rcases ht with ⟨rfl, h⟩ | ⟨rfl, h⟩ | ⟨rfl, h⟩ | ⟨rfl, h⟩ <;> rw [h] at hNm
    · exact Option.some.inj (hNm.symm.trans (hK.2 0 _ rfl).2)
    · exact Option.some.inj (hNm.symm.trans (hK.2 1 _ rfl).2)
    · exact Option.some.inj (hNm.symm.trans (hK.2 2 _ rfl).2)
    · exact Option.some.inj (hNm.symm.trans (hK.2 3 _ rfl).2)
  subst hcA
  have hh : mh (mw M (t, N)) (mn M) = (t, N) := if_pos rfl
  have ei : mi (mw M (t, N)) (mn M) = fun _ => 0 := funext fun _ => if_pos rfl
  have ej : mj (mw M (t, N)) (mn M) = fun _ => 0 := funext fun _ => if_pos rfl
  have hP1 : gV g (mw M (t, N)) H1 := by
    refine mW_new hP hz rfl ?_ o1'
    rcases ht with ⟨rfl, h⟩ | ⟨rfl, h⟩ | ⟨rfl, h⟩ | ⟨rfl, h⟩ <;> rw [h] at e1
    · rw [mE_i hh, ei]; exact e1
    · rw [mE_j hh, ej]; exact e1
    · rw [mE_z hh, ei]; exact e1
    · rw [mE_c hh, ei]; exact e1
  exact k p e s m args below meth c H1 locs ls C hP1 (mw_S hS (by rw [z1, hz]) o1') (by rw [z1]; show gB g + mn M + 1 = gJ g + gB g + (mn M + 1); omega) hl
theorem x_anew (hJ : gJ g = 0) {t idx : Nat} {n : Int32} {N : Nat} {CN : String} (ht : (t = 5 ∧ CN = RX3) ∨ (t = 6 ∧ CN = RX10)) (hd : decode (yC Y) pc = .ok (.anewarray idx, 3)) (hcl : Cond.classLink (yN Y).cls idx CN ∈ gw) (hn : ¬ n < 0) (hN : n.toNatClampNeg = N) (hN2 : N ≤ 4000) (hc : ce + 1 ≤ mc) (hsl : sl + N ≤ ms) (k : EX g Y d mc ms (ce + 1) (sl + N) (pc + 3) lv (.ref (mn M) :: st) (mw M (t, N)) P) : EX g Y d mc ms ce sl pc lv (.int n :: st) M P := by
  intro p e s m args below meth c H locs ls C hP hS hz0 hl
  have hz : H.size = gB g + mn M := by rw [hz0]; show gJ g + gB g + mn M = _; rw [hJ]; omega
  have hK := C.2.2.2.2.2.2.2.2.1.1
  subst hN
  have hov : va_AO CN s := by
    rcases ht with ⟨-, rfl⟩ | ⟨-, rfl⟩
    · exact C.2.2.2.2.2.2.2.2.1.2.1.2.1
    · exact C.2.2.2.2.2.2.2.2.1.2.1.2.2
  refine W.anew C.1 C.2.1 C.2.2.2.1 (C.2.2.2.2.1 _ hcl) hov.use rfl hd rfl hn (by omega) hc hsl fun cA kA comp f1 f2 f3 f4 => ?_
  generalize hH1 : H.push ({ cls := cA, slots := Array.replicate n.toNatClampNeg .null, vm := .none } : Cell) = H1
  have z1 : H1.size = H.size + 1 := by rw [← hH1, Array.size_push]
  have e1 : H1[H.size]? = some (arrV cA n.toNatClampNeg (fun _ => .null)) := by rw [← hH1, Array.getElem?_push_size, ← arrV_new]
  have o1 : ∀ q : Nat, q < H.size → H1[q]? = H[q]? := fun q hq => by rw [← hH1, Array.getElem?_push, if_neg (Nat.ne_of_lt hq)]
  have hcA : cA = g.2.2.2 t := by
    rcases ht with ⟨rfl, rfl⟩ | ⟨rfl, rfl⟩
    · obtain ⟨_, _, _, _, _, h⟩ := (hK.2 4 _ rfl).2
      exact Option.some.inj (f1.symm.trans h)
    · obtain ⟨_, _, _, _, _, h⟩ := (hK.2 5 _ rfl).2
      exact Option.some.inj (f1.symm.trans h)
  subst hcA
  have ht5 : 5 ≤ t := by rcases ht with ⟨rfl, -⟩ | ⟨rfl, -⟩ <;> decide
  have hh : mh (mw M (t, n.toNatClampNeg)) (mn M) = (t, n.toNatClampNeg) := if_pos rfl
  have er : (fun k => mo (gB g) (mr (mw M (t, n.toNatClampNeg)) (mn M) k)) = fun _ => none := funext fun _ => congrArg (mo (gB g)) (if_pos rfl)
  have hP1 : gV g (mw M (t, n.toNatClampNeg)) H1 := by
    refine mW_new hP hz rfl ?_ o1
    rw [mE_q hh ht5, er, ← hz]
    show H1[H.size]? = some (vp_cell _ _)
    rw [vp_cell_q]
    exact e1
  have kk := k p e s m args below meth c H1 locs ls C hP1 (mw_S hS z1 o1) (by rw [z1, hz]; show gB g + mn M + 1 = gJ g + gB g + (mn M + 1); omega) hl
  rw [hz]
  exact kk
end EXH
