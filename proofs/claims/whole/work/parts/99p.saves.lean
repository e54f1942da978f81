/-! ===== saves and rests of the class: answered or thrown ===== -/
section SV
variable {g : GG} {d : Nat} {M : MM} {la lb pa pb rl : Nat} {c : CD} {v : TV}
theorem tX11_savesA {i : Int32} (L : Lay M la lb pa pb rl) (K : CoIs M la c) (V : TrIs M 39 v) (O : tOk c v) (h : isAhd c v i = true) (hd : 5 ≤ d) : R0 g YX11_saves d [.ref 0, .int i] M (Ans (togF c v i (ch c - nPl c v) (nPl c v) (tp v) 0 - togF c v (-1) (ch c - nPl c v) (nPl c v) (tp v) 0) M) := by
  have o0 : ob M 0 11 := L.s rfl (by decide)
  refine R0.of (lv := [(0, .ref 0), (1, .int i)]) (by decide +kernel) (Nat.le_of_ble_eq_true rfl) rfl ?_
  refine x_aload_n dX11_saves_0 0 rfl ?_
  refine x_iload_n dX11_saves_1 1 rfl ?_
  refine K0.v (As := [.int i]) (st := []) cvX11_227 dX11_saves_2 rfl rfl o0 rfl (Nat.le_of_ble_eq_true rfl) (K0.ans (d1 := d - 1) (by omega) (tX11_isAhead L K V O (by omega)) ?_)
  rw [h]
  refine x_if_ne 18 dX11_saves_5 (by decide) (fun _ => ?_) (fun z => absurd z (by decide))
  refine x_aload_n dX11_saves_18 0 rfl ?_
  refine x_iload_n dX11_saves_19 1 rfl ?_
  refine K0.v (As := [.int i]) (st := []) cvX11_237 dX11_saves_20 rfl rfl o0 rfl (Nat.le_of_ble_eq_true rfl) (K0.ans (d1 := d - 1) (by omega) (tX11_minutesTogether L K V O (by omega)) ?_)
  refine x_aload_n dX11_saves_23 0 rfl ?_
  refine x_iconst (v := -1) dX11_saves_24 (by decide) ?_
  refine K0.v (As := [.int (-1)]) cvX11_237 dX11_saves_25 rfl rfl o0 rfl (Nat.le_of_ble_eq_true rfl) (K0.ans (d1 := d - 1) (by omega) (tX11_minutesTogether L K V O (by omega)) ?_)
  refine x_isub dX11_saves_28 ?_
  exact x_iret rfl dX11_saves_29 (Nat.le_refl _) (Nat.le_refl _) ⟨rfl, rfl⟩
theorem tX11_savesB {i : Int32} (hT : g.1.stackTraces = false) (L : Lay M la lb pa pb rl) (K : CoIs M la c) (V : TrIs M 39 v) (O : tOk c v) (h : isAhd c v i = false) (hd : 7 ≤ d) : RTX g YX11_saves d [.ref 0, .int i] M := by
  have o0 : ob M 0 11 := L.s rfl (by decide)
  refine RTX.of (by decide +kernel) (Nat.le_of_ble_eq_true rfl) (fun p e s m args below meth cc C ht => ?_)
  show EQ g YX11_saves p e s m args below meth cc (xR d 1 6) _ [] 0 0 0 [(0, .ref 0), (1, .int i)] [] M
  refine y_aload_n C dX11_saves_0 0 rfl ?_
  refine y_iload_n C dX11_saves_1 1 rfl ?_
  refine y_callV (As := [.int i]) (st := []) (d1 := d - 1) (mc1 := 0) (ms1 := 0) C YX11_isAhead cvX11_227 dX11_saves_2 rfl rfl o0.1 o0.2 rfl ⟨Nat.zero_le _, Nat.zero_le _⟩ ⟨by show d - 1 + 1 ≤ d; omega, by show 40 * (d - 1 + 1) ≤ 40 * d; omega⟩ (Nat.le_of_ble_eq_true rfl) (tX11_isAhead L K V O (by omega)) ?_
  rintro rv M1 ⟨rfl, rfl⟩
  rw [h]
  refine y_if_ne C 18 dX11_saves_5 (by decide) (fun z => absurd rfl z) (fun _ => ?_)
  exact y_throwS C rfl ht hT hd dX11_saves_8 dX11_saves_11 dX11_saves_12 dX11_saves_14 dX11_saves_17
theorem w_rests {hi lo al x : Int32} {p : Program} {e : Env} {s : State} {m : MethodId} {args : Array Value} {below : List Frame} {meth : Method} {cc : Code} {R : Room} {Q : State → Prop} (C : xC g YX11_rests p s m args meth cc) (hR : 2 ≤ R.frames ∧ 80 ≤ R.locals)
    (kr : ∀ v, restA hi lo al x = some v → ∀ pc lv, (pc = 70 ∨ pc = 99) → EQ g YX11_rests p e s m args below meth cc R Q [] 0 0 pc lv [.int v] M) (kt : restA hi lo al x = none → ∀ pc lv, (pc = 27 ∨ pc = 86) → EQ g YX11_rests p e s m args below meth cc R Q [] 0 0 pc lv [] M) :
    EQ g YX11_rests p e s m args below meth cc R Q [] 0 0 0 [(1, .int hi), (2, .int lo), (3, .int al), (4, .int x)] [] M := by
  have s1 : ∀ y : Int32, wIn y 0 9 = sIn y 10 := fun y => wIn_sIn (m := 9) (by decide)
  have hR1 : 1 + 1 ≤ R.frames ∧ 40 * (1 + 1) ≤ R.locals := hR
  refine y_iload_n C dX11_rests_0 0 rfl ?_
  refine y_callS (As := [.int hi]) (st := []) (d1 := 1) (mc1 := 0) (ms1 := 0) C YX11_isBid csX11_301 dX11_rests_1 rfl rfl ⟨Nat.zero_le _, Nat.zero_le _⟩ hR1 (Nat.le_of_ble_eq_true rfl) tX11_isBid ?_
  rintro rv M1 ⟨rfl, rfl⟩
  refine y_if_eq C 27 dX11_rests_4 (by decide) (fun z => kt (if_neg (fun q => ?_)) 27 _ (.inl rfl)) (fun z1 => ?_)
  · rw [s1, b2i_z.mp z] at q; exact absurd q.1 (by decide)
  refine y_iload_n C dX11_rests_7 1 rfl ?_
  refine y_callS (As := [.int lo]) (st := []) (d1 := 1) (mc1 := 0) (ms1 := 0) C YX11_isBid csX11_301 dX11_rests_8 rfl rfl ⟨Nat.zero_le _, Nat.zero_le _⟩ hR1 (Nat.le_of_ble_eq_true rfl) tX11_isBid ?_
  rintro rv M2 ⟨rfl, rfl⟩
  refine y_if_eq C 27 dX11_rests_11 (by decide) (fun z => kt (if_neg (fun q => ?_)) 27 _ (.inl rfl)) (fun z2 => ?_)
  · rw [s1 lo, b2i_z.mp z] at q; exact absurd q.2.1 (by decide)
  refine y_iload_n C dX11_rests_14 2 rfl ?_
  refine y_callS (As := [.int al]) (st := []) (d1 := 1) (mc1 := 0) (ms1 := 0) C YX11_isBid csX11_301 dX11_rests_15 rfl rfl ⟨Nat.zero_le _, Nat.zero_le _⟩ hR1 (Nat.le_of_ble_eq_true rfl) tX11_isBid ?_
  rintro rv M3 ⟨rfl, rfl⟩
  refine y_if_eq C 27 dX11_rests_18 (by decide) (fun z => kt (if_neg (fun q => ?_)) 27 _ (.inl rfl)) (fun z3 => ?_)
  · rw [s1 al, b2i_z.mp z] at q; exact absurd q.2.2.1 (by decide)
  refine y_iload C dX11_rests_21 3 rfl ?_
  refine y_iconst (v := -1) C dX11_rests_23 (by decide) ?_
  refine y_ic_ge C 38 dX11_rests_24 (by decide) (fun z4 => ?_) (fun z4 => kt (if_neg (fun q => q.2.2.2 (Int32.not_le.mp z4))) 27 _ (.inl rfl))
  have eA : restA hi lo al x = restF hi lo al x 4 0 0 := if_pos ⟨by rw [s1]; exact b2i_n.mp z1, by rw [s1]; exact b2i_n.mp z2, by rw [s1]; exact b2i_n.mp z3, Int32.not_lt.mpr z4⟩
  rw [eA] at kr kt
  refine y_iconst (v := 0) C dX11_rests_38 (by decide) ?_
  refine y_istore (lv1 := [(5, .int 0), (1, .int hi), (2, .int lo), (3, .int al), (4, .int x)]) C dX11_rests_39 (by decide) rfl rfl ?_
  refine y_iconst (v := 0) C dX11_rests_41 (by decide) ?_
  refine y_istore (lv1 := [(6, .int 0), (5, .int 0), (1, .int hi), (2, .int lo), (3, .int al), (4, .int x)]) C dX11_rests_42 (by decide) rfl rfl ?_
  have key := up0 (p := fun k => ∀ f, restF hi lo al x (4 - k) k f = restF hi lo al x 4 0 0 → EQ g YX11_rests p e s m args below meth cc R Q [] 0 0 44 [(1, .int hi), (2, .int lo), (3, .int al), (4, .int x), (5, .int f), (6, .int (nI k))] [] M3) 4 (fun f hs => ?_) (fun k hk ih f hs => ?_)
  · exact EQ.sub [2, 3, 4, 5, 1, 0] (key 0 rfl) rfl
  · have hs : (if x = -1 then some f else none) = restF hi lo al x 4 0 0 := hs
    refine y_iload C dX11_rests_44 5 rfl ?_
    refine y_iconst (v := 4) C dX11_rests_46 (by decide) ?_
    refine y_ic_ge C 80 dX11_rests_47 (by decide) (fun _ => ?_) (fun z => absurd (by decide) z)
    refine y_iload C dX11_rests_80 3 rfl ?_
    refine y_iconst (v := -1) C dX11_rests_82 (by decide) ?_
    refine y_ic_eq C 97 dX11_rests_83 (by decide) (fun z => ?_) (fun z => ?_)
    · rw [if_pos z] at hs
      refine y_iload C dX11_rests_97 4 rfl ?_
      exact kr f hs.symm 99 _ (.inr rfl)
    · rw [if_neg z] at hs
      exact kt hs.symm 86 _ (.inr rfl)
  · rw [show 4 - k = (4 - (k + 1)) + 1 by omega, restF] at hs
    refine y_iload C dX11_rests_44 5 rfl ?_
    refine y_iconst (v := 4) C dX11_rests_46 (by decide) ?_
    refine y_ic_ge C 80 dX11_rests_47 (by decide) (fun z => absurd z (ngl 4 rfl (by decide) hk)) (fun _ => ?_)
    refine y_iload_n C dX11_rests_50 0 rfl ?_
    refine y_iload_n C dX11_rests_51 1 rfl ?_
    refine y_iload_n C dX11_rests_52 2 rfl ?_
    refine y_iload C dX11_rests_53 5 rfl ?_
    refine y_callS (As := [.int hi, .int lo, .int al, .int (nI k)]) (st := []) (d1 := 1) (mc1 := 0) (ms1 := 0) C YX11_isAtRest csX11_306 dX11_rests_55 rfl rfl ⟨Nat.zero_le _, Nat.zero_le _⟩ hR1 (Nat.le_of_ble_eq_true rfl) (tX11_isAtRest (by omega)) ?_
    rintro rv M4 ⟨rfl, rfl⟩
    have go : ∀ f2, restF hi lo al x (4 - (k + 1)) (k + 1) f2 = restF hi lo al x 4 0 0 → EQ g YX11_rests p e s m args below meth cc R Q [] 0 0 74 [(1, .int hi), (2, .int lo), (3, .int al), (4, .int x), (5, .int f2), (6, .int (nI k))] [] M4 := fun f2 h2 => by
      refine y_iinc (v := nI (k + 1)) (lv1 := [(6, .int (nI (k + 1))), (1, .int hi), (2, .int lo), (3, .int al), (4, .int x), (5, .int f2)]) C dX11_rests_74 5 rfl (nI_1 k) (by decide) rfl rfl ?_
      refine y_goto C 44 dX11_rests_77 (by decide) ?_
      exact EQ.sub [1, 2, 3, 4, 5, 0] (ih f2 h2) rfl
    refine y_if_eq C 74 dX11_rests_58 (by decide) (fun z => ?_) (fun z => ?_)
    · rw [b2i_z.mp z, if_neg (by decide)] at hs
      exact go f hs
    · rw [b2i_n.mp z, if_pos rfl] at hs
      refine y_iload C dX11_rests_61 4 rfl ?_
      refine y_iload C dX11_rests_63 3 rfl ?_
      refine y_ic_ne C 71 dX11_rests_65 (by decide) (fun z2 => ?_) (fun z2 => ?_)
      · rw [if_neg z2] at hs
        refine y_iinc (v := f + 1) (lv1 := [(5, .int (f + 1)), (1, .int hi), (2, .int lo), (3, .int al), (4, .int x), (6, .int (nI k))]) C dX11_rests_71 4 rfl rfl (by decide) rfl rfl ?_
        exact EQ.sub [1, 2, 3, 4, 0, 5] (go (f + 1) hs) rfl
      · rw [if_pos z2] at hs
        refine y_iload C dX11_rests_68 5 rfl ?_
        exact kr (nI k) hs.symm 70 _ (.inl rfl)
theorem tX11_restsA {hi lo al x r : Int32} (h : restA hi lo al x = some r) (hd : 2 ≤ d) : R0 g YX11_rests d [.ref 0, .int hi, .int lo, .int al, .int x] M (Ans r M) := by
  refine R0.of (lv := [(0, .ref 0), (1, .int hi), (2, .int lo), (3, .int al), (4, .int x)]) (by decide +kernel) (Nat.le_of_ble_eq_true rfl) rfl ?_
  intro p e s m args below meth cc H locs ls C hP hS hz hl
  refine (EQ.sub [1, 2, 3, 4] (w_rests (hi := hi) (lo := lo) (al := al) (x := x) C ⟨by show 2 ≤ d; omega, by show 80 ≤ 40 * d; omega⟩ (fun v hv pc lv hpc => ?_) (fun hv => ?_)) rfl : EQ g YX11_rests p e s m args below meth cc (xR d 0 0) (MQ below (xQ g (Ans r M)) args s 0 0 (gA g)) [] 0 0 0 [(0, .ref 0), (1, .int hi), (2, .int lo), (3, .int al), (4, .int x)] [] M) H locs ls hP hS hz hl
  · have hd : decode (yC YX11_rests) pc = .ok (.ireturn, 1) := by rcases hpc with rfl | rfl; exact dX11_rests_70; exact dX11_rests_99
    have ev : v = r := Option.some.inj (hv.symm.trans h)
    subst ev
    intro H1 locs1 ls1 hP1 hS1 hz1 hl1
    exact W.iret C.1 C.2.1 C.2.2.2.2.2.1 (fun t ht hW => ⟨⟨some (.int v), M, rfl, ⟨rfl, rfl⟩, by rw [ht]; exact hP1, by rw [ht]; exact hz1⟩, hS1.F ht⟩) hS1.2.2 hd C.2.2.2.2.2.2.1
  · rw [h] at hv; cases hv
theorem tX11_restsB {hi lo al x : Int32} (hT : g.1.stackTraces = false) (h : restA hi lo al x = none) (hd : 7 ≤ d) : RTX g YX11_rests d [.ref 0, .int hi, .int lo, .int al, .int x] M := by
  refine RTX.of (by decide +kernel) (Nat.le_of_ble_eq_true rfl) (fun p e s m args below meth cc C ht => ?_)
  show EQ g YX11_rests p e s m args below meth cc (xR d 1 6) _ [] 0 0 0 [(0, .ref 0), (1, .int hi), (2, .int lo), (3, .int al), (4, .int x)] [] M
  refine EQ.sub [1, 2, 3, 4] (w_rests (hi := hi) (lo := lo) (al := al) (x := x) C ⟨by show 2 ≤ d; omega, by show 80 ≤ 40 * d; omega⟩ (fun v hv => ?_) (fun _ pc lv hpc => ?_)) rfl
  · rw [h] at hv; cases hv
  · have hs := C.2.2.2.2.2.2.2.2.1.2.2.thr
    rcases hpc with rfl | rfl
    · exact y_throwSW C rfl ht hT hd hs.2.2.2.1 dX11_rests_27 dX11_rests_30 dX11_rests_31 dX11_rests_34 dX11_rests_37
    · exact y_throwSW C rfl ht hT hd hs.2.2.2.2 dX11_rests_86 dX11_rests_89 dX11_rests_90 dX11_rests_93 dX11_rests_96
end SV
