/-! ===== constructors with loops, and of two arguments ===== -/
section CT2
variable {g : GG} {Y : YY} {d mc ms ce sl pc : Nat} {lv : List (Nat × Value)} {st : List Value} {M : MM} {P : Option Value → MM → Prop}
theorem x_wid {ce2 sl2 : Nat} (h1 : ce ≤ ce2) (h2 : sl ≤ sl2) (k : EX g Y d mc ms ce2 sl2 pc lv st M P) : EX g Y d mc ms ce sl pc lv st M P := by
  intro p e s m args below meth c H locs ls C hP hS hz hl
  exact W.widen h1 h2 (k p e s m args below meth c H locs ls C hP hS hz hl)
end CT2
/-- i objects of class ci, made by f, laid into the array w -/
def bda (ci w : Nat) (f : Nat → MM → MM) : Nat → MM → MM
  | 0, M => M
  | i + 1, M => bdo ci w i f (bda ci w f i M)
theorem bda_g {ci w : Nat} {f : Nat → MM → MM} (hf : GrF f) : ∀ (i : Nat) {M : MM} {x : Nat} {s : Nat × Nat}, x < mn M ∧ mh M x = s → x < mn (bda ci w f i M) ∧ mh (bda ci w f i M) x = s
  | 0, _, _, _, h => h
  | i + 1, _, _, _, h => obo hf (bda_g hf i h)
theorem bda_r {ci w : Nat} {f : Nat → MM → MM} (hf : GrF f) (hk : RkF f) : ∀ (i : Nat) {M : MM} {x j : Nat}, x < mn M → x ≠ w → mr (bda ci w f i M) x j = mr M x j
  | 0, _, _, _, _, _ => rfl
  | i + 1, M, x, j, h, hn => by
    rw [bda, bdo_r hf hk (bda_g (s := mh M x) hf i ⟨h, rfl⟩).1 (fun z => hn z.1)]
    exact bda_r hf hk i h hn
theorem bda_z {ci w : Nat} {f : Nat → MM → MM} (hf : ZiF f) : ∀ (i : Nat) {M : MM}, Zi M → Zi (bda ci w f i M)
  | 0, _, h => h
  | i + 1, _, h => bdo_z hf (bda_z hf i h)
def iX4 (a : Nat) (M : MM) : MM := bda 10 (mn M) iX10 16 (bd1 6 16 a 0 M)
theorem gX4 : GrF iX4 := fun a M x s h => bda_g gX10 16 (obd h)
theorem kX4 : RkF iX4 := fun a M x j h1 h2 => by
  unfold iX4
  rw [bda_r gX10 kX10 16 (bd1_lt h1) (Nat.ne_of_lt h1), bd1_r h1 (fun z => h2 z.1)]
theorem zX4 : ZiF iX4 := fun a M h => bda_z zX10 16 (bd1_z h)
theorem cX4 {g : GG} {d a : Nat} {M : MM} (hJ : gJ g = 0) (h : ob M a 4) (hd : 2 ≤ d) : RT g YX4_init d 33 192 [.ref a] M (fun rv M1 => rv = none ∧ M1 = iX4 a M) := by
  refine EX.entry (by decide +kernel) (Nat.le_of_ble_eq_true rfl) ?_
  show EX g YX4_init d 33 192 0 0 0 [(0, .ref a)] [] M _
  refine x_aload_n dX4_init_0 0 rfl ?_
  refine x_objInit dX4_init_1 oiX4_3 gk_oi1 gk_oi2 (by omega) (Nat.le_of_ble_eq_true rfl) ?_
  refine x_aload_n dX4_init_4 0 rfl ?_
  refine x_bipush (v := 16) dX4_init_5 (by decide) ?_
  refine x_anew hJ (t := 6) (N := 16) (.inr ⟨rfl, rfl⟩) dX4_init_7 klX4_9 (by decide) (by decide) (by decide) (by omega) (by omega) ?_
  refine x_putA fdX4_11 rfl (.inr ⟨rfl, rfl⟩) dX4_init_10 h ?_
  refine x_iconst (v := 0) dX4_init_13 (by decide) ?_
  refine x_istore_n (lv1 := [(1, .int 0), (0, .ref a)]) dX4_init_14 (by decide) rfl ?_
  have key := up0 (p := fun i => EX g YX4_init d 33 192 (1 + 2 * i) (16 + 11 * i) 15 [(1, .int (nI i)), (0, .ref a)] [] (bda 10 (mn M) iX10 i (bd1 6 16 a 0 M)) (fun rv M1 => rv = none ∧ M1 = iX4 a M)) 16 ?_ (fun i hi ih => ?_)
  · exact key
  · refine x_iload_n dX4_init_15 0 rfl ?_
    refine x_bipush (v := 16) dX4_init_16 (by decide) ?_
    refine x_ic_ge 40 dX4_init_18 (by decide) (fun _ => ?_) (fun z => absurd (by decide) z)
    exact x_vret rfl dX4_init_40 (by omega) (by omega) ⟨rfl, rfl⟩
  · have hb := bda_g (ci := 10) (w := mn M) gX10 i (obd (t := 6) (n := 16) (a := a) (k := 0) h)
    have hw := bda_g (ci := 10) (w := mn M) gX10 i (x := mn M) (s := (6, 16)) (M := bd1 6 16 a 0 M) obn
    have hr : mr (bda 10 (mn M) iX10 i (bd1 6 16 a 0 M)) a 0 = some (mn M) := by rw [bda_r gX10 kX10 i (bd1_lt h.1) (Nat.ne_of_lt h.1), bd1_s]
    have hN : ∀ N, N = bda 10 (mn M) iX10 (i + 1) (bd1 6 16 a 0 M) → N = bdo 10 (mn M) i iX10 (bda 10 (mn M) iX10 i (bd1 6 16 a 0 M)) := fun N e => e
    generalize hMi : bda 10 (mn M) iX10 i (bd1 6 16 a 0 M) = Mi at hb hw hr hN ⊢
    have ih : EX g YX4_init d 33 192 (1 + 2 * (i + 1)) (16 + 11 * (i + 1)) 15 [(1, .int (nI (i + 1))), (0, .ref a)] [] (bdo 10 (mn M) i iX10 Mi) (fun rv M1 => rv = none ∧ M1 = iX4 a M) := by rw [← hMi]; exact ih
    refine x_iload_n dX4_init_15 0 rfl ?_
    refine x_bipush (v := 16) dX4_init_16 (by decide) ?_
    refine x_ic_ge 40 dX4_init_18 (by decide) (fun z => absurd z (ngl 16 rfl (by decide) hi)) (fun _ => ?_)
    refine x_aload_n dX4_init_21 1 rfl ?_
    refine x_getR fdX4_11 rfl dX4_init_22 hb.1 hb.2 hr ?_
    refine x_iload_n dX4_init_25 0 rfl ?_
    refine x_new hJ (ci := 10) (N := 5) rfl cnX4_9 dX4_init_26 (by omega) (by omega) ?_
    refine x_dup dX4_init_29 rfl ?_
    refine x_callIN (As := []) (d1 := d - 1) (mc1 := 1) (ms1 := 6) YX10_init cniX4_17 dX4_init_30 rfl rfl (by omega) (by omega) (by omega) (Nat.le_of_ble_eq_true rfl) (cX10 hJ obn (by omega)) ?_
    rintro rv M1 ⟨rfl, rfl⟩
    refine x_aast (a := mn M) (n := 16) (t := 6) (v := mn Mi) (ci := 10) dX4_init_33 (gX10 _ _ _ _ (obw hw)).1 (gX10 _ _ _ _ (obw hw)).2 (.inr ⟨rfl, rfl⟩) (vi hi (by decide)) (gX10 _ _ _ _ obn).1 (gX10 _ _ _ _ obn).2 ?_
    rw [nI_clamp (by omega)]
    refine x_iinc (v := nI (i + 1)) (lv1 := [(1, .int (nI (i + 1))), (0, .ref a)]) dX4_init_34 0 rfl (nI_1 i) (by decide) rfl ?_
    refine x_goto 15 dX4_init_37 (by decide) ?_
    exact x_wid (by omega) (by omega) ih
def iX7 (b e a : Nat) (M : MM) : MM := wr (wr M a 0 (some b)) a 1 (some e)
theorem gX7 {b e : Nat} : GrF (iX7 b e) := fun a M x s h => h
theorem kX7 {b e : Nat} : RkF (iX7 b e) := fun a M x j h1 h2 => by
  show mu (mu (mr M) a 0 (some b)) a 1 (some e) x j = _
  rw [mu_a _ _ _ _ h2, mu_a _ _ _ _ h2]
theorem zX7 {b e : Nat} : ZiF (iX7 b e) := fun a M h => h
theorem cX7 {g : GG} {d a b e : Nat} {M : MM} (h : ob M a 7) (hd : 1 ≤ d) : RT g YX7_init d 0 0 [.ref a, .ref b, .ref e] M (fun rv M1 => rv = none ∧ M1 = iX7 b e a M) := by
  refine EX.entry (by decide +kernel) (Nat.le_of_ble_eq_true rfl) ?_
  show EX g YX7_init d 0 0 0 0 0 [(0, .ref a), (1, .ref b), (2, .ref e)] [] M _
  refine x_aload_n dX7_init_0 0 rfl ?_
  refine x_objInit dX7_init_1 oiX7_3 gk_oi1 gk_oi2 (by omega) (Nat.le_of_ble_eq_true rfl) ?_
  refine x_aload_n dX7_init_4 0 rfl ?_
  refine x_aload_n dX7_init_5 1 rfl ?_
  refine x_putR fdX7_9 rfl (.inr ⟨rfl, rfl⟩) dX7_init_6 h.1 h.2 ?_
  refine x_aload_n dX7_init_9 0 rfl ?_
  refine x_aload_n dX7_init_10 2 rfl ?_
  refine x_putR fdX7_15 rfl (.inl rfl) dX7_init_11 h.1 h.2 ?_
  exact x_vret rfl dX7_init_14 (by omega) (by omega) ⟨rfl, rfl⟩
