/-! ===== the start: both are made ===== -/
def LyF (M : MM) : Prop := ob M 130 12 ∧ mr M 130 43 = some 162 ∧ ar M 162 1 19 ∧ mr M 130 10 = some 132 ∧ ar M 132 1 4
theorem LyF.fr {S : Nat → Prop} {M M1 : MM} (h : Fr S M M1) (L : LyF M) : LyF M1 := by
  simp only [LyF, ob, ar, h.1, h.2.1, h.2.2.1] at L ⊢; exact L
set_option maxRecDepth 8000 in
theorem qF_fresh_0 {g : GG} {d : Nat} {M : MM} {P : Option Value → MM → Prop} 
    (k1 : E0 g YX12_fresh d 2 [(0, .ref 130), (1, .int 0)] [] M P) :
    E0 g YX12_fresh d 0 [(0, .ref 130)] [] M P := by
  refine x_iconst (v := 0) dX12_fresh_0 (by decide) ?_
  refine x_istore_n (lv1 := [(1, .int 0), (0, .ref 130)]) dX12_fresh_1 (by decide) rfl ?_
  exact EX.sub [1, 0] k1 rfl
set_option maxRecDepth 8000 in
theorem qF_fresh_2 {g : GG} {d : Nat} {M : MM} {P : Option Value → MM → Prop} {i1 : Int32} {M1 : MM} (L : LyF M)
    (qM1 : M1 = wi M 162 (i1 : Int32).toNatClampNeg 0)
    (h1 : ¬ (19 ≤ i1) → vp_in i1 19)
    (k1 : 19 ≤ i1 → K0 g YX12_fresh YX12_allShots d 30 [.ref 130] [(0, .ref 130)] [.int 0, .ref 162] M P)
    (k2 : ¬ (19 ≤ i1) → E0 g YX12_fresh d 2 [(0, .ref 130), (1, .int (i1 + 1))] [] M1 P) :
    E0 g YX12_fresh d 2 [(0, .ref 130), (1, .int i1)] [] M P := by
  have f1 : ob M 130 12 := L.1
  have f2 : mr M 130 43 = some 162 := L.2.1
  have f3 : ar M 162 1 19 := L.2.2.1
  subst qM1
  refine x_iload_n dX12_fresh_2 1 rfl ?_
  refine x_bipush (v := 19) dX12_fresh_3 (by decide) ?_
  refine x_ic_ge 21 dX12_fresh_5 (by decide) (fun c1 => ?_) (fun c1 => ?_)
  · refine x_aload_n dX12_fresh_21 0 rfl ?_
    refine x_getR fdX12_105 rfl dX12_fresh_22 f1.1 f1.2 f2 ?_
    refine x_iconst (v := 0) dX12_fresh_25 (by decide) ?_
    refine x_aload_n dX12_fresh_26 0 rfl ?_
    refine EX.sub [0] (K0.v (As := []) (st := [.int 0, .ref 162]) cvX12_314 dX12_fresh_27 rfl rfl f1 rfl (Nat.le_of_ble_eq_true rfl) (k1 c1)) rfl
  · refine x_aload_n dX12_fresh_8 0 rfl ?_
    refine x_getR fdX12_105 rfl dX12_fresh_9 f1.1 f1.2 f2 ?_
    refine x_iload_n dX12_fresh_12 1 rfl ?_
    refine x_iconst (v := 0) dX12_fresh_13 (by decide) ?_
    refine x_iast dX12_fresh_14 f3.1 f3.2 (h1 c1) ?_
    refine x_iinc (v := (i1 + 1)) (lv1 := [(1, .int (i1 + 1)), (0, .ref 130)]) dX12_fresh_15 1 rfl rfl (by decide) rfl ?_
    refine x_goto 2 dX12_fresh_18 (by decide) ?_
    exact EX.sub [1, 0] (k2 c1) rfl
set_option maxRecDepth 8000 in
theorem qF_fresh_30 {g : GG} {d : Nat} {M : MM} {P : Option Value → MM → Prop} {s0 : Nat} {s1 : Int32} {s2 : Int32} {n_s0 : Nat} {M1 : MM}
    (qM1 : M1 = wi M s0 (s1 : Int32).toNatClampNeg s2)
    (h1 : ar M s0 1 n_s0)
    (h2 : vp_in s1 n_s0)
    (k1 : E0 g YX12_fresh d 33 [(0, .ref 130), (1, .int 0)] [] M1 P) :
    E0 g YX12_fresh d 30 [(0, .ref 130)] [.int s2, .int s1, .ref s0] M P := by
  subst qM1
  refine x_iast dX12_fresh_30 h1.1 h1.2 (h2) ?_
  refine x_iconst (v := 0) dX12_fresh_31 (by decide) ?_
  refine x_istore_n (lv1 := [(1, .int 0), (0, .ref 130)]) dX12_fresh_32 (by decide) rfl ?_
  exact EX.sub [1, 0] k1 rfl
set_option maxRecDepth 8000 in
theorem qF_fresh_33 {g : GG} {d : Nat} {M : MM} {P : Option Value → MM → Prop} {i1 : Int32} {M1 : MM} (L : LyF M)
    (qM1 : M1 = wi M 162 ((3 + i1) : Int32).toNatClampNeg i1)
    (h1 : ¬ (6 ≤ i1) → vp_in (3 + i1) 19)
    (k1 : 6 ≤ i1 → P none M)
    (k2 : ¬ (6 ≤ i1) → E0 g YX12_fresh d 33 [(0, .ref 130), (1, .int (i1 + 1))] [] M1 P) :
    E0 g YX12_fresh d 33 [(0, .ref 130), (1, .int i1)] [] M P := by
  have f1 : ob M 130 12 := L.1
  have f2 : mr M 130 43 = some 162 := L.2.1
  have f3 : ar M 162 1 19 := L.2.2.1
  subst qM1
  refine x_iload_n dX12_fresh_33 1 rfl ?_
  refine x_bipush (v := 6) dX12_fresh_34 (by decide) ?_
  refine x_ic_ge 54 dX12_fresh_36 (by decide) (fun c1 => ?_) (fun c1 => ?_)
  · exact x_vret rfl dX12_fresh_54 (Nat.le_refl _) (Nat.le_refl _) (k1 c1)
  · refine x_aload_n dX12_fresh_39 0 rfl ?_
    refine x_getR fdX12_105 rfl dX12_fresh_40 f1.1 f1.2 f2 ?_
    refine x_iconst (v := 3) dX12_fresh_43 (by decide) ?_
    refine x_iload_n dX12_fresh_44 1 rfl ?_
    refine x_iadd dX12_fresh_45 ?_
    refine x_iload_n dX12_fresh_46 1 rfl ?_
    refine x_iast dX12_fresh_47 f3.1 f3.2 (h1 c1) ?_
    refine x_iinc (v := (i1 + 1)) (lv1 := [(1, .int (i1 + 1)), (0, .ref 130)]) dX12_fresh_48 1 rfl rfl (by decide) rfl ?_
    refine x_goto 33 dX12_fresh_51 (by decide) ?_
    exact EX.sub [1, 0] (k2 c1) rfl
set_option maxRecDepth 8000 in
theorem qF_allShots_0 {g : GG} {d : Nat} {M : MM} {P : Option Value → MM → Prop}  (L : LyF M)
    (k1 : P (some (.int (((1 : Int32) <<< ((mi M 132 0) &&& 31)) - 1))) M) :
    E0 g YX12_allShots d 0 [(0, .ref 130)] [] M P := by
  have f1 : ob M 130 12 := L.1
  have f2 : mr M 130 10 = some 132 := L.2.2.2.1
  have f3 : ar M 132 1 4 := L.2.2.2.2
  refine x_iconst (v := 1) dX12_allShots_0 (by decide) ?_
  refine x_aload_n dX12_allShots_1 0 rfl ?_
  refine x_getR fdX12_13 rfl dX12_allShots_2 f1.1 f1.2 f2 ?_
  refine x_iconst (v := 0) dX12_allShots_5 (by decide) ?_
  refine x_iald dX12_allShots_6 f3.1 f3.2 (by unfold vp_in; decide) ?_
  refine x_ishl dX12_allShots_7 ?_
  refine x_iconst (v := 1) dX12_allShots_8 (by decide) ?_
  refine x_isub dX12_allShots_9 ?_
  exact x_iret rfl dX12_allShots_10 (Nat.le_refl _) (Nat.le_refl _) (k1)
theorem tF_allShots {g : GG} {d : Nat} {M : MM} {c : CD} {F : Nat → (Nat → Int32) → Int32} (L : LyF M) (R : RCo M c F) : R0 g YX12_allShots d [.ref 130] M (Ans (cFilm c) M) := by
  refine R0.of (by decide +kernel) (Nat.le_of_ble_eq_true rfl) rfl (qF_allShots_0 L ⟨?_, rfl⟩)
  rw [R.1]; rfl
theorem tF_fresh {g : GG} {d : Nat} {M : MM} {c : CD} {F : Nat → (Nat → Int32) → Int32} (L : LyF M) (R : RCo M c F) (h10 : cn c ≤ 10) (hd : 1 ≤ d) : R0 g YX12_fresh d [.ref 130] M (fun rv M1 => rv = none ∧ RSt (mi M1 162) (cn c) (ch c) T0 ∧ Fr (inC 162) M M1) := by
  refine R0.of (by decide +kernel) (Nat.le_of_ble_eq_true rfl) rfl (qF_fresh_0 ?_)
  have key2 : ∀ M1, (∀ k, k < 19 → mi M1 162 k = if k = 0 then cFilm c else 0) → Fr (inC 162) M M1 → E0 g YX12_fresh d 33 [(0, .ref 130), (1, .int 0)] [] M1 (fun rv M1 => rv = none ∧ RSt (mi M1 162) (cn c) (ch c) T0 ∧ Fr (inC 162) M M1) := fun M1 A F1 => by
    have key := up0 (p := fun i => ∀ M2, (∀ k, k < 19 → mi M2 162 k = if k = 0 then cFilm c else if 3 ≤ k ∧ k < 3 + i then nI (k - 3) else 0) → Fr (inC 162) M M2 → E0 g YX12_fresh d 33 [(0, .ref 130), (1, .int (nI i))] [] M2 (fun rv M1 => rv = none ∧ RSt (mi M1 162) (cn c) (ch c) T0 ∧ Fr (inC 162) M M1)) 6 (fun M2 B F2 => ?_) (fun i hi ih M2 B F2 => ?_)
    · exact key M1 (fun k hk => by rw [A k hk]; by_cases e : k = 0; rw [if_pos e, if_pos e]; rw [if_neg e, if_neg e, if_neg (by omega)]) F1
    · refine qF_fresh_33 (LyF.fr F2 L) rfl (fun z => absurd (by decide) z) (fun _ => ⟨rfl, ⟨?_, ?_, ?_, fun k hk => ?_, fun k hk => ?_⟩, F2⟩) (fun z => absurd (by decide) z)
      · rw [B 0 (by omega), if_pos rfl]; exact film_pb _ h10
      · rw [B 1 (by omega), if_neg (by omega), if_neg (by omega)]; rfl
      · rw [B 2 (by omega), if_neg (by omega), if_neg (by omega)]; rfl
      · rw [B (3 + k) (by omega), if_neg (by omega), if_pos (by omega)]
        show _ = nI (ordF _ false k)
        unfold ordF
        rw [if_neg (fun z => absurd z.1 (by decide))]
        congr 1; omega
      · rw [B (9 + k) (by omega), if_neg (by omega), if_neg (by omega)]; rfl
    · have ea : (3 + nI i : Int32) = nI (3 + i) := nI_add 3 _
      refine qF_fresh_33 (LyF.fr F2 L) rfl (fun _ => by rw [ea]; exact vi (by omega) (by decide)) (fun z => absurd z (ngl 6 rfl (by decide) hi)) (fun _ => ?_)
      rw [nI_1, ea, nI_clamp (by omega)]
      refine ih _ (fun k hk => ?_) (F2.wi rfl)
      rw [wi_at]
      by_cases e : k = 3 + i
      · rw [if_pos ⟨rfl, e⟩, if_neg (by omega), if_pos (by omega)]
        congr 1; omega
      · rw [if_neg (by omega), B k hk]
        by_cases e0 : k = 0
        · rw [if_pos e0, if_pos e0]
        · rw [if_neg e0, if_neg e0]
          by_cases e3 : 3 ≤ k ∧ k < 3 + i
          · rw [if_pos e3, if_pos (by omega)]
          · rw [if_neg e3, if_neg (by omega)]
  have key := up0 (p := fun i => ∀ M1, (∀ k, k < i → mi M1 162 k = 0) → Fr (inC 162) M M1 → E0 g YX12_fresh d 2 [(0, .ref 130), (1, .int (nI i))] [] M1 (fun rv M1 => rv = none ∧ RSt (mi M1 162) (cn c) (ch c) T0 ∧ Fr (inC 162) M M1)) 19 (fun M1 A F1 => ?_) (fun i hi ih M1 A F1 => ?_)
  · exact key M (fun k hk => absurd hk (by omega)) Fr.rf
  · have R1 := R.fr F1 (fun b hb => by omega)
    refine qF_fresh_2 (LyF.fr F1 L) rfl (fun z => absurd (by decide) z) (fun _ => K0.ans (d1 := d - 1) (by omega) (tF_allShots (LyF.fr F1 L) R1) (qF_fresh_30 rfl (LyF.fr F1 L).2.2.1 (vi (k := 0) (by omega) (by decide)) (key2 _ (fun k hk => ?_) (F1.wi rfl)))) (fun z => absurd (by decide) z)
    rw [wi_at]
    by_cases e : k = 0
    · rw [if_pos ⟨rfl, e⟩, if_pos e]
    · rw [if_neg (fun z => e z.2), if_neg e]; exact A k hk
  · refine qF_fresh_2 (LyF.fr F1 L) rfl (fun _ => vi (by omega) (by decide)) (fun z => absurd z (ngl 19 rfl (by decide) hi)) (fun _ => ?_)
    rw [nI_1, nI_clamp (by omega)]
    refine ih _ (fun k hk => ?_) (F1.wi rfl)
    rw [wi_at]
    by_cases e : k = i
    · rw [if_pos ⟨rfl, e⟩]
    · rw [if_neg (fun z => e z.2)]; exact A k (by omega)
def MS0 : MM := (0, fun _ => (9, 9), fun _ _ => 0, fun _ _ => 0, fun _ _ => none)
def MS1 : MM := iX11 0 (mw MS0 (0, 11))
def MS2 : MM := iX12 (mw MS1 (0, 12))
theorem ms1_n : mn MS1 = 130 := by decide +kernel
theorem ms2_n : mn MS2 = 172 := by decide +kernel
theorem ms2_o : ob MS2 130 12 := by decide +kernel
theorem ms2_f : LyF MS2 := by unfold LyF; decide +kernel
theorem ms2_h : ∀ a, a < 173 → mh (mw MS2 (2, 1)) a = SHa a := by decide +kernel
theorem ms2_r : ∀ q ∈ RST, mr (mw MS2 (2, 1)) q.1 q.2.1 = some q.2.2 := by decide +kernel
/-- longs stay where they are -/
def JkF (f : Nat → MM → MM) : Prop := ∀ (a : Nat) (M : MM) (x : Nat), x < mn M → mj (f a M) x = mj M x
section JK
variable {M : MM} {f : Nat → MM → MM}
theorem mw_j {x : Nat} {sh : Nat × Nat} (h : x < mn M) : mj (mw M sh) x = mj M x := funext fun j => if_neg (Nat.ne_of_lt h)
theorem bd1_j {x t n a k : Nat} (h : x < mn M) : mj (bd1 t n a k M) x = mj M x := mw_j (sh := (t, n)) h
theorem bdo_j {x ci a k : Nat} (hf : JkF f) (h : x < mn M) : mj (bdo ci a k f M) x = mj M x := (hf (mn M) (mw M (0, ci)) x (Nat.lt_succ_of_lt h)).trans (mw_j h)
theorem bda_j {ci w : Nat} (hg : GrF f) (hf : JkF f) : ∀ (i : Nat) {M : MM} {x : Nat}, x < mn M → mj (bda ci w f i M) x = mj M x
  | 0, _, _, _ => rfl
  | i + 1, M, x, h => (bdo_j hf (bda_g (s := mh M x) hg i ⟨h, rfl⟩).1).trans (bda_j hg hf i h)
end JK
theorem jX1 : JkF iX1 := fun a M x h => rfl
theorem jX5 : JkF iX5 := fun a M x h => (bd1_j (bd1_lt (bd1_lt (bd1_lt h)))).trans ((bd1_j (bd1_lt (bd1_lt h))).trans ((bd1_j (bd1_lt h)).trans (bd1_j h)))
theorem jX6 : JkF iX6 := fun a M x h => (bd1_j (bd1_lt h)).trans (bd1_j h)
theorem jX8 : JkF iX8 := fun a M x h => (bd1_j (bd1_lt h)).trans (bd1_j h)
theorem jX10 : JkF iX10 := fun a M x h => bd1_j h
theorem jX7 {b e : Nat} : JkF (iX7 b e) := fun a M x h => rfl
theorem jX3 : JkF iX3 := fun a M x h => (bdo_j jX8 (bdo_lt gX5 (bdo_lt gX10 h))).trans ((bdo_j jX5 (bdo_lt gX10 h)).trans (bdo_j jX10 h))
theorem jX4 : JkF iX4 := fun a M x h => (bda_j gX10 jX10 16 (bd1_lt h)).trans (bd1_j h)
theorem jX12 {M : MM} {x : Nat} (h : x < mn M) : mj (iX12 M) x = mj M x := by
  unfold iX12
  rw [bd1_j (bd1_lt (bd1_lt (bd1_lt (bd1_lt (bd1_lt (bd1_lt (bd1_lt (bd1_lt (bd1_lt (bd1_lt (bd1_lt (bd1_lt (bd1_lt (bd1_lt (bd1_lt (bd1_lt (bd1_lt (bd1_lt (bd1_lt (bd1_lt (bd1_lt (bd1_lt (bd1_lt (bd1_lt (bd1_lt (bd1_lt (bd1_lt (bd1_lt (bd1_lt (bd1_lt (bd1_lt (bd1_lt (bd1_lt (bd1_lt (bd1_lt (bd1_lt (bd1_lt (bd1_lt (bd1_lt (bd1_lt (h))))))))))))))))))))))))))))))))))))))))), bd1_j (bd1_lt (bd1_lt (bd1_lt (bd1_lt (bd1_lt (bd1_lt (bd1_lt (bd1_lt (bd1_lt (bd1_lt (bd1_lt (bd1_lt (bd1_lt (bd1_lt (bd1_lt (bd1_lt (bd1_lt (bd1_lt (bd1_lt (bd1_lt (bd1_lt (bd1_lt (bd1_lt (bd1_lt (bd1_lt (bd1_lt (bd1_lt (bd1_lt (bd1_lt (bd1_lt (bd1_lt (bd1_lt (bd1_lt (bd1_lt (bd1_lt (bd1_lt (bd1_lt (bd1_lt (bd1_lt (h)))))))))))))))))))))))))))))))))))))))), bd1_j (bd1_lt (bd1_lt (bd1_lt (bd1_lt (bd1_lt (bd1_lt (bd1_lt (bd1_lt (bd1_lt (bd1_lt (bd1_lt (bd1_lt (bd1_lt (bd1_lt (bd1_lt (bd1_lt (bd1_lt (bd1_lt (bd1_lt (bd1_lt (bd1_lt (bd1_lt (bd1_lt (bd1_lt (bd1_lt (bd1_lt (bd1_lt (bd1_lt (bd1_lt (bd1_lt (bd1_lt (bd1_lt (bd1_lt (bd1_lt (bd1_lt (bd1_lt (bd1_lt (bd1_lt (h))))))))))))))))))))))))))))))))))))))), bd1_j (bd1_lt (bd1_lt (bd1_lt (bd1_lt (bd1_lt (bd1_lt (bd1_lt (bd1_lt (bd1_lt (bd1_lt (bd1_lt (bd1_lt (bd1_lt (bd1_lt (bd1_lt (bd1_lt (bd1_lt (bd1_lt (bd1_lt (bd1_lt (bd1_lt (bd1_lt (bd1_lt (bd1_lt (bd1_lt (bd1_lt (bd1_lt (bd1_lt (bd1_lt (bd1_lt (bd1_lt (bd1_lt (bd1_lt (bd1_lt (bd1_lt (bd1_lt (bd1_lt (h)))))))))))))))))))))))))))))))))))))), bd1_j (bd1_lt (bd1_lt (bd1_lt (bd1_lt (bd1_lt (bd1_lt (bd1_lt (bd1_lt (bd1_lt (bd1_lt (bd1_lt (bd1_lt (bd1_lt (bd1_lt (bd1_lt (bd1_lt (bd1_lt (bd1_lt (bd1_lt (bd1_lt (bd1_lt (bd1_lt (bd1_lt (bd1_lt (bd1_lt (bd1_lt (bd1_lt (bd1_lt (bd1_lt (bd1_lt (bd1_lt (bd1_lt (bd1_lt (bd1_lt (bd1_lt (bd1_lt (h))))))))))))))))))))))))))))))))))))), bd1_j (bd1_lt (bd1_lt (bd1_lt (bd1_lt (bd1_lt (bd1_lt (bd1_lt (bd1_lt (bd1_lt (bd1_lt (bd1_lt (bd1_lt (bd1_lt (bd1_lt (bd1_lt (bd1_lt (bd1_lt (bd1_lt (bd1_lt (bd1_lt (bd1_lt (bd1_lt (bd1_lt (bd1_lt (bd1_lt (bd1_lt (bd1_lt (bd1_lt (bd1_lt (bd1_lt (bd1_lt (bd1_lt (bd1_lt (bd1_lt (bd1_lt (h)))))))))))))))))))))))))))))))))))), bd1_j (bd1_lt (bd1_lt (bd1_lt (bd1_lt (bd1_lt (bd1_lt (bd1_lt (bd1_lt (bd1_lt (bd1_lt (bd1_lt (bd1_lt (bd1_lt (bd1_lt (bd1_lt (bd1_lt (bd1_lt (bd1_lt (bd1_lt (bd1_lt (bd1_lt (bd1_lt (bd1_lt (bd1_lt (bd1_lt (bd1_lt (bd1_lt (bd1_lt (bd1_lt (bd1_lt (bd1_lt (bd1_lt (bd1_lt (bd1_lt (h))))))))))))))))))))))))))))))))))), bd1_j (bd1_lt (bd1_lt (bd1_lt (bd1_lt (bd1_lt (bd1_lt (bd1_lt (bd1_lt (bd1_lt (bd1_lt (bd1_lt (bd1_lt (bd1_lt (bd1_lt (bd1_lt (bd1_lt (bd1_lt (bd1_lt (bd1_lt (bd1_lt (bd1_lt (bd1_lt (bd1_lt (bd1_lt (bd1_lt (bd1_lt (bd1_lt (bd1_lt (bd1_lt (bd1_lt (bd1_lt (bd1_lt (bd1_lt (h)))))))))))))))))))))))))))))))))), bd1_j (bd1_lt (bd1_lt (bd1_lt (bd1_lt (bd1_lt (bd1_lt (bd1_lt (bd1_lt (bd1_lt (bd1_lt (bd1_lt (bd1_lt (bd1_lt (bd1_lt (bd1_lt (bd1_lt (bd1_lt (bd1_lt (bd1_lt (bd1_lt (bd1_lt (bd1_lt (bd1_lt (bd1_lt (bd1_lt (bd1_lt (bd1_lt (bd1_lt (bd1_lt (bd1_lt (bd1_lt (bd1_lt (h))))))))))))))))))))))))))))))))), bd1_j (bd1_lt (bd1_lt (bd1_lt (bd1_lt (bd1_lt (bd1_lt (bd1_lt (bd1_lt (bd1_lt (bd1_lt (bd1_lt (bd1_lt (bd1_lt (bd1_lt (bd1_lt (bd1_lt (bd1_lt (bd1_lt (bd1_lt (bd1_lt (bd1_lt (bd1_lt (bd1_lt (bd1_lt (bd1_lt (bd1_lt (bd1_lt (bd1_lt (bd1_lt (bd1_lt (bd1_lt (h)))))))))))))))))))))))))))))))), bd1_j (bd1_lt (bd1_lt (bd1_lt (bd1_lt (bd1_lt (bd1_lt (bd1_lt (bd1_lt (bd1_lt (bd1_lt (bd1_lt (bd1_lt (bd1_lt (bd1_lt (bd1_lt (bd1_lt (bd1_lt (bd1_lt (bd1_lt (bd1_lt (bd1_lt (bd1_lt (bd1_lt (bd1_lt (bd1_lt (bd1_lt (bd1_lt (bd1_lt (bd1_lt (bd1_lt (h))))))))))))))))))))))))))))))), bd1_j (bd1_lt (bd1_lt (bd1_lt (bd1_lt (bd1_lt (bd1_lt (bd1_lt (bd1_lt (bd1_lt (bd1_lt (bd1_lt (bd1_lt (bd1_lt (bd1_lt (bd1_lt (bd1_lt (bd1_lt (bd1_lt (bd1_lt (bd1_lt (bd1_lt (bd1_lt (bd1_lt (bd1_lt (bd1_lt (bd1_lt (bd1_lt (bd1_lt (bd1_lt (h)))))))))))))))))))))))))))))), bd1_j (bd1_lt (bd1_lt (bd1_lt (bd1_lt (bd1_lt (bd1_lt (bd1_lt (bd1_lt (bd1_lt (bd1_lt (bd1_lt (bd1_lt (bd1_lt (bd1_lt (bd1_lt (bd1_lt (bd1_lt (bd1_lt (bd1_lt (bd1_lt (bd1_lt (bd1_lt (bd1_lt (bd1_lt (bd1_lt (bd1_lt (bd1_lt (bd1_lt (h))))))))))))))))))))))))))))), bd1_j (bd1_lt (bd1_lt (bd1_lt (bd1_lt (bd1_lt (bd1_lt (bd1_lt (bd1_lt (bd1_lt (bd1_lt (bd1_lt (bd1_lt (bd1_lt (bd1_lt (bd1_lt (bd1_lt (bd1_lt (bd1_lt (bd1_lt (bd1_lt (bd1_lt (bd1_lt (bd1_lt (bd1_lt (bd1_lt (bd1_lt (bd1_lt (h)))))))))))))))))))))))))))), bd1_j (bd1_lt (bd1_lt (bd1_lt (bd1_lt (bd1_lt (bd1_lt (bd1_lt (bd1_lt (bd1_lt (bd1_lt (bd1_lt (bd1_lt (bd1_lt (bd1_lt (bd1_lt (bd1_lt (bd1_lt (bd1_lt (bd1_lt (bd1_lt (bd1_lt (bd1_lt (bd1_lt (bd1_lt (bd1_lt (bd1_lt (h))))))))))))))))))))))))))), bd1_j (bd1_lt (bd1_lt (bd1_lt (bd1_lt (bd1_lt (bd1_lt (bd1_lt (bd1_lt (bd1_lt (bd1_lt (bd1_lt (bd1_lt (bd1_lt (bd1_lt (bd1_lt (bd1_lt (bd1_lt (bd1_lt (bd1_lt (bd1_lt (bd1_lt (bd1_lt (bd1_lt (bd1_lt (bd1_lt (h)))))))))))))))))))))))))), bd1_j (bd1_lt (bd1_lt (bd1_lt (bd1_lt (bd1_lt (bd1_lt (bd1_lt (bd1_lt (bd1_lt (bd1_lt (bd1_lt (bd1_lt (bd1_lt (bd1_lt (bd1_lt (bd1_lt (bd1_lt (bd1_lt (bd1_lt (bd1_lt (bd1_lt (bd1_lt (bd1_lt (bd1_lt (h))))))))))))))))))))))))), bd1_j (bd1_lt (bd1_lt (bd1_lt (bd1_lt (bd1_lt (bd1_lt (bd1_lt (bd1_lt (bd1_lt (bd1_lt (bd1_lt (bd1_lt (bd1_lt (bd1_lt (bd1_lt (bd1_lt (bd1_lt (bd1_lt (bd1_lt (bd1_lt (bd1_lt (bd1_lt (bd1_lt (h)))))))))))))))))))))))), bd1_j (bd1_lt (bd1_lt (bd1_lt (bd1_lt (bd1_lt (bd1_lt (bd1_lt (bd1_lt (bd1_lt (bd1_lt (bd1_lt (bd1_lt (bd1_lt (bd1_lt (bd1_lt (bd1_lt (bd1_lt (bd1_lt (bd1_lt (bd1_lt (bd1_lt (bd1_lt (h))))))))))))))))))))))), bd1_j (bd1_lt (bd1_lt (bd1_lt (bd1_lt (bd1_lt (bd1_lt (bd1_lt (bd1_lt (bd1_lt (bd1_lt (bd1_lt (bd1_lt (bd1_lt (bd1_lt (bd1_lt (bd1_lt (bd1_lt (bd1_lt (bd1_lt (bd1_lt (bd1_lt (h)))))))))))))))))))))), bd1_j (bd1_lt (bd1_lt (bd1_lt (bd1_lt (bd1_lt (bd1_lt (bd1_lt (bd1_lt (bd1_lt (bd1_lt (bd1_lt (bd1_lt (bd1_lt (bd1_lt (bd1_lt (bd1_lt (bd1_lt (bd1_lt (bd1_lt (bd1_lt (h))))))))))))))))))))), bd1_j (bd1_lt (bd1_lt (bd1_lt (bd1_lt (bd1_lt (bd1_lt (bd1_lt (bd1_lt (bd1_lt (bd1_lt (bd1_lt (bd1_lt (bd1_lt (bd1_lt (bd1_lt (bd1_lt (bd1_lt (bd1_lt (bd1_lt (h)))))))))))))))))))), bd1_j (bd1_lt (bd1_lt (bd1_lt (bd1_lt (bd1_lt (bd1_lt (bd1_lt (bd1_lt (bd1_lt (bd1_lt (bd1_lt (bd1_lt (bd1_lt (bd1_lt (bd1_lt (bd1_lt (bd1_lt (bd1_lt (h))))))))))))))))))), bd1_j (bd1_lt (bd1_lt (bd1_lt (bd1_lt (bd1_lt (bd1_lt (bd1_lt (bd1_lt (bd1_lt (bd1_lt (bd1_lt (bd1_lt (bd1_lt (bd1_lt (bd1_lt (bd1_lt (bd1_lt (h)))))))))))))))))), bd1_j (bd1_lt (bd1_lt (bd1_lt (bd1_lt (bd1_lt (bd1_lt (bd1_lt (bd1_lt (bd1_lt (bd1_lt (bd1_lt (bd1_lt (bd1_lt (bd1_lt (bd1_lt (bd1_lt (h))))))))))))))))), bd1_j (bd1_lt (bd1_lt (bd1_lt (bd1_lt (bd1_lt (bd1_lt (bd1_lt (bd1_lt (bd1_lt (bd1_lt (bd1_lt (bd1_lt (bd1_lt (bd1_lt (bd1_lt (h)))))))))))))))), bd1_j (bd1_lt (bd1_lt (bd1_lt (bd1_lt (bd1_lt (bd1_lt (bd1_lt (bd1_lt (bd1_lt (bd1_lt (bd1_lt (bd1_lt (bd1_lt (bd1_lt (h))))))))))))))), bd1_j (bd1_lt (bd1_lt (bd1_lt (bd1_lt (bd1_lt (bd1_lt (bd1_lt (bd1_lt (bd1_lt (bd1_lt (bd1_lt (bd1_lt (bd1_lt (h)))))))))))))), bd1_j (bd1_lt (bd1_lt (bd1_lt (bd1_lt (bd1_lt (bd1_lt (bd1_lt (bd1_lt (bd1_lt (bd1_lt (bd1_lt (bd1_lt (h))))))))))))), bd1_j (bd1_lt (bd1_lt (bd1_lt (bd1_lt (bd1_lt (bd1_lt (bd1_lt (bd1_lt (bd1_lt (bd1_lt (bd1_lt (h)))))))))))), bd1_j (bd1_lt (bd1_lt (bd1_lt (bd1_lt (bd1_lt (bd1_lt (bd1_lt (bd1_lt (bd1_lt (bd1_lt (h))))))))))), bd1_j (bd1_lt (bd1_lt (bd1_lt (bd1_lt (bd1_lt (bd1_lt (bd1_lt (bd1_lt (bd1_lt (h)))))))))), bd1_j (bd1_lt (bd1_lt (bd1_lt (bd1_lt (bd1_lt (bd1_lt (bd1_lt (bd1_lt (h))))))))), bd1_j (bd1_lt (bd1_lt (bd1_lt (bd1_lt (bd1_lt (bd1_lt (bd1_lt (h)))))))), bd1_j (bd1_lt (bd1_lt (bd1_lt (bd1_lt (bd1_lt (bd1_lt (h))))))), bd1_j (bd1_lt (bd1_lt (bd1_lt (bd1_lt (bd1_lt (h)))))), bd1_j (bd1_lt (bd1_lt (bd1_lt (bd1_lt (h))))), bd1_j (bd1_lt (bd1_lt (bd1_lt (h)))), bd1_j (bd1_lt (bd1_lt (h))), bd1_j (bd1_lt (h)), bd1_j (h)]
/-- the class's own longs: the words -/
theorem jX11 {a : Nat} {M : MM} (h : a < mn M) : mj (iX11 a M) (mn (bdo 0 a 3 iX0 (bdo 0 a 2 iX0 M)) + 1) = (tpS 113).2 := by
  have e3 : mj (bdo 9 a 0 iX9 (bdo 0 a 3 iX0 (bdo 0 a 2 iX0 M))) (mn (bdo 0 a 3 iX0 (bdo 0 a 2 iX0 M)) + 1) = (tpS 113).2 := by
    generalize bdo 0 a 3 iX0 (bdo 0 a 2 iX0 M) = m2
    funext k
    show (if mn m2 + 1 = mn (mw m2 (0, 9)) then (tpS 113).2 k else _) = _
    exact if_pos rfl
  have l3 : mn (bdo 0 a 3 iX0 (bdo 0 a 2 iX0 M)) + 1 < mn (bdo 9 a 0 iX9 (bdo 0 a 3 iX0 (bdo 0 a 2 iX0 M))) := by
    generalize bdo 0 a 3 iX0 (bdo 0 a 2 iX0 M) = m2
    show mn m2 + 1 < mn m2 + 1 + 1 + 1
    omega
  unfold iX11
  generalize mn (bdo 0 a 3 iX0 (bdo 0 a 2 iX0 M)) = w at e3 l3 ⊢
  generalize bdo 9 a 0 iX9 (bdo 0 a 3 iX0 (bdo 0 a 2 iX0 M)) = m3 at e3 l3 ⊢
  have l4 := bdo_lt (ci := 7) (a := a) (k := 1) (f := iX7 w (mn M)) gX7 l3
  have e4 := (bdo_j (ci := 7) (a := a) (k := 1) (f := iX7 w (mn M)) jX7 l3).trans e3
  generalize bdo 7 a 1 (iX7 w (mn M)) m3 = m4 at e4 l4 ⊢
  have l5 := bdo_lt (ci := 5) (a := a) (k := 4) gX5 l4
  have e5 := (bdo_j (ci := 5) (a := a) (k := 4) jX5 l4).trans e4
  have l6 := bdo_lt (ci := 5) (a := a) (k := 5) gX5 l5
  have e6 := (bdo_j (ci := 5) (a := a) (k := 5) jX5 l5).trans e5
  have l7 := bdo_lt (ci := 10) (a := a) (k := 6) gX10 l6
  have e7 := (bdo_j (ci := 10) (a := a) (k := 6) jX10 l6).trans e6
  have l8 := bdo_lt (ci := 10) (a := a) (k := 7) gX10 l7
  have e8 := (bdo_j (ci := 10) (a := a) (k := 7) jX10 l7).trans e7
  have l9 := bdo_lt (ci := 4) (a := a) (k := 8) gX4 l8
  have e9 := (bdo_j (ci := 4) (a := a) (k := 8) jX4 l8).trans e8
  have l10 := bdo_lt (ci := 8) (a := a) (k := 9) gX8 l9
  have e10 := (bdo_j (ci := 8) (a := a) (k := 9) jX8 l9).trans e9
  generalize bdo 8 a 9 iX8 (bdo 4 a 8 iX4 (bdo 10 a 7 iX10 (bdo 10 a 6 iX10 (bdo 5 a 5 iX5 (bdo 5 a 4 iX5 m4))))) = m10 at l10 e10 ⊢
  have l11 := bd1_lt (t := 5) (n := 4) (a := a) (k := 10) l10
  have e11 := (bd1_j (t := 5) (n := 4) (a := a) (k := 10) l10).trans e10
  have l12 := (bda_g (ci := 3) (w := mn m10) gX3 4 (s := mh (bd1 5 4 a 10 m10) (w + 1)) ⟨l11, rfl⟩).1
  have e12 := (bda_j (ci := 3) (w := mn m10) gX3 jX3 4 l11).trans e11
  have l13 := bdo_lt (ci := 6) (a := a) (k := 11) gX6 l12
  have e13 := (bdo_j (ci := 6) (a := a) (k := 11) jX6 l12).trans e12
  have l14 := bdo_lt (ci := 1) (a := a) (k := 12) gX1 l13
  have e14 := (bdo_j (ci := 1) (a := a) (k := 12) jX1 l13).trans e13
  exact (bd1_j l14).trans e14
theorem ms_25 : mn (bdo 0 0 3 iX0 (bdo 0 0 2 iX0 (mw MS0 (0, 11)))) + 1 = 26 := by decide +kernel
theorem ms2_w : ∀ i, i < 21 → mj (mw MS2 (2, 1)) 26 i = lJ (hRx 32 (kwL i)) := fun i hi => by
  have h2 : (26 : Nat) < mn MS2 := by rw [ms2_n]; decide
  have h1 : (26 : Nat) < mn (mw MS1 (0, 12)) := by show 26 < mn MS1 + 1; rw [ms1_n]; decide
  have h0 : (26 : Nat) < mn MS1 := by rw [ms1_n]; decide
  have e := jX11 (a := 0) (M := mw MS0 (0, 11)) (by decide)
  rw [ms_25] at e
  rw [mw_j h2, show MS2 = iX12 (mw MS1 (0, 12)) from rfl, jX12 h1, mw_j h0, show mj MS1 26 = (tpS 113).2 from e]
  exact tpS_end i hi
theorem zX11 : ZiF iX11 := fun a M h => bd1_z (bdo_z zX1 (bdo_z zX6 (bda_z zX3 4 (bd1_z (bdo_z zX8 (bdo_z zX4 (bdo_z zX10 (bdo_z zX10 (bdo_z zX5 (bdo_z zX5 (bdo_z zX7 (bdo_z zX9 (bdo_z zX0 (bdo_z zX0 h))))))))))))))
theorem ms2_z : Zi MS2 := zX12 (mw_z (sh := (0, 12)) (zX11 0 _ (mw_z (sh := (0, 11)) (fun _ _ => rfl))))
theorem ms2_L : Lay (mw MS2 (2, 1)) 1 13 29 34 1 := by
  refine ⟨?_, ms2_h, ms2_r, .inl ⟨rfl, rfl⟩, .inl ⟨rfl, rfl⟩, ?_, ?_, ?_, ?_, ?_, .inl rfl⟩
  · show 173 ≤ mn MS2 + 1
    rw [ms2_n]
    decide
  all_goals decide +kernel
/-- all is well at the start -/
theorem inv_start {M : MM} (F : Fr (inC 162) MS2 M) (S : RSt (mi M 162) 0 0 T0) : Inv (mw M (2, 1)) := by
  have en : mn M = 172 := F.1.trans ms2_n
  have zi : ∀ b j, b ≠ 162 → mi (mw M (2, 1)) b j = 0 := fun b j hb => by
    show (if b = mn M then 0 else mi M b j) = 0
    rw [F.i hb, ms2_z b j, ite_self]
  have e162 : mi (mw M (2, 1)) 162 = mi M 162 := funext fun j => if_neg (by show ¬ 162 = mn M; omega)
  have L : Lay (mw M (2, 1)) 1 13 29 34 1 := by
    refine ms2_L.to ?_ ?_ ?_
    · show mn M + 1 = mn MS2 + 1
      rw [F.1]
    · show (fun a => if a = mn M then (2, 1) else mh M a) = (fun a => if a = mn MS2 then (2, 1) else mh MS2 a)
      rw [F.1, F.2.1]
    · show (fun a k => if a = mn M then none else mr M a k) = (fun a k => if a = mn MS2 then none else mr MS2 a k)
      rw [F.1, F.2.2.1]
  have W : WdOk (mw M (2, 1)) := fun i hi => by
    have h := ms2_w i hi
    rw [mw_j (show 26 < mn MS2 by rw [ms2_n]; decide)] at h
    rw [mw_j (show 26 < mn M by rw [en]; decide), F.j (by omega)]
    exact h
  have S1 : RSt (mi (mw M (2, 1)) 162) 0 0 T0 := by rw [e162]; exact S
  generalize mw M (2, 1) = N at zi L W S1
  have n0 : nI 0 = 0 := rfl
  have Tr : ∀ t, t ≠ 162 → t + 1 ≠ 162 → TrIs N t (tvOf 0 T0) := fun t h1 h2 => ⟨by rw [zi _ _ h1]; rfl, fun h _ => by rw [zi _ _ h2]; rfl, by rw [zi _ _ h1]; rfl, by rw [zi _ _ h1]; rfl, by rw [zi _ _ h1]; rfl⟩
  have nl : ∀ {i : Nat} {p : Prop}, i < 0 → p := fun hi => absurd hi (Nat.not_lt_zero _)
  have C0 : CofD ((0, 0, mi N 3, mi N 4, mi N 5, mi N 7, mi N 12) : CD) dEmp := ⟨rfl, rfl, fun k hk => nl hk, fun k hk => nl hk⟩
  have O0 : COk ((0, 0, mi N 3, mi N 4, mi N 5, mi N 7, mi N 12) : CD) (lwF dEmp) := COk_D dEmp_ok C0 (fun hl k pl h1 => nl h1)
  refine ⟨1, 13, 29, 34, 1, 0, fun _ => 0, dEmp, (0, 0, mi N 3, mi N 4, mi N 5, mi N 7, mi N 12), T0, (0, fun _ => T0), pEmp, (0, fun _ => 0, fun _ => false), fun _ => (false, T0, pEmp, (0, fun _ => 0, fun _ => false)), ?_, ?_, dEmp_ok, C0, O0, T0_ok _, fun i hi => nl hi, pEmp_ok, fun i hi z => absurd (show false = true from z) (by decide)⟩
  · refine ⟨L, W, ⟨Nat.zero_le _, by rw [zi _ _ (by decide)]; rfl, fun k hk => nl hk⟩, ⟨by rw [zi _ _ (by decide)]; rfl, by rw [zi _ _ (by decide)]; rfl, fun k hk => nl hk, fun k hk => nl hk⟩, by rw [zi _ _ (by decide)]; rfl, ⟨by rw [zi _ _ (by decide)]; rfl, Nat.zero_le _, by rw [zi _ _ (by decide)]; rfl, Nat.zero_le _, rfl, rfl, rfl, rfl, rfl⟩, Tr 39 (by decide) (by decide), ⟨(0, fun _ => 0, fun _ => 0, fun _ => 0, fun _ => 0), ⟨Nat.zero_le _, by rw [zi _ _ (by decide)]; rfl, fun k hk => nl hk⟩, rfl, fun i hi => nl hi⟩, ⟨Nat.zero_le _, by rw [zi _ _ (by decide)]; rfl, fun k hk => nl hk, fun k hk => nl hk⟩, ⟨(0, 0, fun _ => tvOf 0 T0), ⟨by decide, by decide, by rw [zi _ _ (by decide)]; rfl, by rw [zi _ _ (by decide)]; rfl, fun i hi => Tr _ (by omega) (by omega)⟩, rfl, fun i hi => nl hi⟩, fun i hi => ⟨by rw [zi _ _ (by omega)]; rfl, fun z => absurd (show false = true from z) (by decide)⟩⟩
  · exact ⟨⟨Nat.zero_le _, by rw [zi _ _ (by decide)]; rfl, fun k hk => nl hk⟩, ⟨by rw [zi _ _ (by decide)]; rfl, by rw [zi _ _ (by decide)]; rfl, fun k hk => nl hk, fun k hk => nl hk⟩, ⟨by rw [zi _ _ (by decide)]; rfl, by rw [zi _ _ (by decide)]; rfl, fun k hk => nl hk, fun k hk => nl hk, fun hl hk => nl hk⟩, S1, ⟨Nat.zero_le _, by rw [zi _ _ (by decide)]; rfl, fun i hi => nl hi⟩, ⟨by rw [zi _ _ (by decide)]; rfl, fun i hi => nl hi⟩, ⟨Nat.zero_le _, by rw [zi _ _ (by decide)]; rfl, fun k hk => nl hk⟩, fun i hi => ⟨by rw [zi _ _ (by decide)]; rfl, fun z => absurd (show false = true from z) (by decide)⟩⟩
