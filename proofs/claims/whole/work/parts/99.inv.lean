/-! ===== class and reference side by side ===== -/
abbrev inQt : Nat → Prop := fun b => b = 41 ∨ b = 42 ∨ (125 ≤ b ∧ b ≤ 129)
/-- what can be undone, as the class keeps it -/
def PsO (M : MM) (n : Nat) (U : UU) : Prop := ∃ u : UV, PsIs M u ∧ u.2.1 = U.1 ∧ ∀ i, i < U.1 → u.2.2 ((u.1 + 16 - U.1 + i) % 16) = tvOf n (U.2 i)
def MkO (M : MM) (D : DTs) (i : Nat) (k : KK) : Prop := mi M (81 + 11 * i) 0 = b2i k.1 ∧ (k.1 = true → TrIs M (81 + 11 * i + 1) (tvOf (dn D) k.2.1) ∧ PlO M (81 + 11 * i + 3) D k.2.2.1 ∧ SgIs M (81 + 11 * i + 8) k.2.2.2)
def CIv (M : MM) (la lb pa pb0 rl n : Nat) (t : Nat → Nat) (D : DTs) (c : CD) (T : TT) (U : UU) (p : PP) (w : SV) (mk : Nat → KK) : Prop := Lay M la lb pa pb0 rl ∧ WdOk M ∧ TapeIs M n t ∧ DrIs M la D ∧ mi M (la + 7) 1 = nI (eD D) ∧ CoIs M la c ∧ TrIs M 39 (tvOf (cn c) T) ∧ PlO M pa D p ∧ SgIs M 77 w ∧ PsO M (cn c) U ∧ ∀ i, i < 4 → MkO M D i (mk i)
def RI (M : MM) (n : Nat) (t : Nat → Nat) (D : DTs) (c : CD) (T : TT) (U : UU) (p : PP) (w : SV) (mk : Nat → KK) : Prop := RTp M n t ∧ RNm M 0 D ∧ RAll M c (lwF D) T U p w mk
def Pu (D : DTs) (c : CD) (T : TT) (U : UU) (p : PP) (mk : Nat → KK) : Prop := DOk D ∧ CofD c D ∧ COk c (lwF D) ∧ TOk c T ∧ (∀ i, i < U.1 → TOk c (U.2 i)) ∧ POk D p ∧ ∀ i, i < 4 → (mk i).1 = true → TOk c (mk i).2.1 ∧ POk D (mk i).2.2.1
def Inv (M : MM) : Prop := ∃ (la lb pa pb0 rl n : Nat) (t : Nat → Nat) (D : DTs) (c : CD) (T : TT) (U : UU) (p : PP) (w : SV) (mk : Nat → KK), CIv M la lb pa pb0 rl n t D c T U p w mk ∧ RI M n t D c T U p w mk ∧ Pu D c T U p mk
section IV
variable {g : GG} {d : Nat} {S : Nat → Prop} {M M1 : MM} {la lb pa pb0 rl n i : Nat} {t : Nat → Nat} {D : DTs} {c : CD} {T : TT} {U : UU} {p : PP} {w : SV} {mk : Nat → KK} {k : KK}
theorem PsO.fr (h : PsO M n U) (F : Fr S M M1) (hS : ∀ b, 43 ≤ b → b ≤ 76 → ¬ S b) : PsO M1 n U := by
  obtain ⟨u, h1, h2, h3⟩ := h
  exact ⟨u, h1.fr F hS, h2, h3⟩
theorem MkO.fr (h : MkO M D i k) (F : Fr S M M1) (hS : ∀ k, k < 11 → ¬ S (81 + 11 * i + k)) : MkO M1 D i k := by
  refine ⟨by rw [show mi M1 (81 + 11 * i) = mi M (81 + 11 * i) from F.i (hS 0 (by omega))]; exact h.1, fun hb => ?_⟩
  obtain ⟨h1, h2, h3⟩ := h.2 hb
  exact ⟨h1.fr F (hS 1 (by omega)) (hS 2 (by omega)), h2.fr F (fun k hk => by rw [Nat.add_assoc]; exact hS (3 + k) (by omega)), h3.fr F (hS 8 (by omega)) (hS 9 (by omega)) (hS 10 (by omega))⟩
theorem WdOk.fr (h : WdOk M) (F : Fr S M M1) (hS : ¬ S 26) : WdOk M1 := fun i hi => by rw [F.j hS]; exact h i hi
theorem CIv.fr (I : CIv M la lb pa pb0 rl n t D c T U p w mk) (F : Fr S M M1) (hS : ∀ b, b < 130 → ¬ inQt b → ¬ S b) : CIv M1 la lb pa pb0 rl n t D c T U p w mk := by
  obtain ⟨L, W, Tp, H, hm, K, V, Q, Sg, Ps, Mk⟩ := I
  have hla := L.la_lt
  have hpa := L.pa_lt
  exact ⟨F.lay L, W.fr F (hS _ (by omega) (by omega)), Tp.fr F (hS _ (by omega) (by omega)) (hS _ (by omega) (by omega)), H.fr F (fun k hk => hS _ (by omega) (by omega)), by rw [F.i (hS _ (by omega) (by omega))]; exact hm, K.fr F (fun k hk => hS _ (by omega) (by omega)), V.fr F (hS _ (by omega) (by omega)) (hS _ (by omega) (by omega)), Q.fr F (fun k hk => hS _ (by omega) (by omega)), Sg.fr F (hS _ (by omega) (by omega)) (hS _ (by omega) (by omega)) (hS _ (by omega) (by omega)), Ps.fr F (fun b h1 h2 => hS _ (by omega) (by omega)), fun i hi => (Mk i hi).fr F (fun k hk => hS _ (by omega) (by omega))⟩
theorem RTp.fr (h : RTp M n t) (F : Fr S M M1) (h1 : mi M1 130 1 = mi M 130 1) (h2 : ¬ S 131) : RTp M1 n t := ⟨h.1, by rw [h1]; exact h.2.1, fun k hk => by rw [F.i h2]; exact h.2.2 k hk⟩
theorem RNm.fr (h : RNm M 0 D) (F : Fr S M M1) (h1 : ¬ S 132) (h2 : ¬ S 133) (h3 : ¬ S 134) : RNm M1 0 D := by
  unfold RNm
  rw [F.i h1, F.j h2, F.j h3]
  exact h
theorem RAll.fr (A : RAll M c (lwF D) T U p w mk) (F : Fr S M M1) (hS : ∀ b, 130 ≤ b → ¬ S b) : RAll M1 c (lwF D) T U p w mk := by
  obtain ⟨a1, a2, a3, a4, a5, a6⟩ := A
  exact ⟨a1.fr F (fun b hb => hS b (by omega)), by rw [F.i (hS _ (by omega))]; exact a2, a3.fr F (by rw [F.i (hS _ (by omega))]) (hS _ (by omega)), a4.fr F (fun b h1 h2 => hS b (by omega)), a5.fr F (fun b h1 h2 => hS b (by omega)), fun i hi => (a6 i hi).fr F (fun b hb => hS b (by omega))⟩
theorem RI.fr (J : RI M n t D c T U p w mk) (F : Fr S M M1) (hS : ∀ b, 130 ≤ b → ¬ S b) : RI M1 n t D c T U p w mk :=
  ⟨J.1.fr F (by rw [F.i (hS _ (by omega))]) (hS _ (by omega)), J.2.1.fr F (hS _ (by omega)) (hS _ (by omega)) (hS _ (by omega)), J.2.2.fr F hS⟩
theorem RI.sc (J : RI M n t D c T U p w mk) (h10 : cn c ≤ 10) (s : Sc M M1) : RI M1 n t D c T U p w mk :=
  ⟨J.1.fr s.1 s.2.1 (by omega), J.2.1.fr s.1 (by omega) (by omega) (by omega), J.2.2.sc h10 s⟩
/-- both are called, answer alike, and all is well behind them -/
def Pr (g : GG) (Yc Yr : YY) (d : Nat) (As : List Value) (M : MM) : Prop := R0 g Yc d (.ref 0 :: As) M (fun rv M1 => ∃ v, rv = some (.int v) ∧ ob M1 130 12 ∧ R0 g Yr d (.ref 130 :: As) M1 (fun rv2 M2 => rv2 = some (.int v) ∧ Inv M2))
theorem Pr.q {Yc Yr : YY} {As : List Value} {v : Int32} (I : CIv M la lb pa pb0 rl n t D c T U p w mk) (J : RI M n t D c T U p w mk) (P : Pu D c T U p mk) (h1 : R0 g Yc d (.ref 0 :: As) M (fun rv M1 => rv = some (.int v) ∧ Fr inQt M M1)) (h2 : ∀ M1, Lay M1 la lb pa pb0 rl → RI M1 n t D c T U p w mk → R0 g Yr d (.ref 130 :: As) M1 (QR v M1)) : Pr g Yc Yr d As M := by
  refine RT.to h1 (fun rv M1 q => ?_)
  obtain ⟨e, F⟩ := q
  have I1 := I.fr F (fun b hb h => h)
  have J1 := J.fr F (fun b hb h => by omega)
  refine ⟨v, e, I1.1.s rfl (by decide), RT.to (h2 M1 I1.1 J1) (fun rv2 M2 q2 => ?_)⟩
  obtain ⟨e2, s⟩ := q2
  exact ⟨e2, la, lb, pa, pb0, rl, n, t, D, c, T, U, p, w, mk, I1.fr s.1 (fun b hb h z => by omega), J1.sc P.2.2.1.1 s, P⟩
theorem An {Y : YY} {As : List Value} {v : Int32} (h : R0 g Y d As M (Ans v M)) : R0 g Y d As M (fun rv M1 => rv = some (.int v) ∧ Fr inQt M M1) := RT.to h (fun rv M1 q => ⟨q.1, by rw [q.2]; exact Fr.rf⟩)
theorem Af {Y : YY} {As : List Value} {v : Int32} (hS : ∀ b, S b → inQt b) (h : R0 g Y d As M (fun rv M1 => rv = some (.int v) ∧ Fr S M M1)) : R0 g Y d As M (fun rv M1 => rv = some (.int v) ∧ Fr inQt M M1) := RT.to h (fun rv M1 q => ⟨q.1, q.2.mono hS⟩)
theorem POk.toC (h : POk D p) (hc : CofD c D) : POc c p := by
  unfold POc
  rw [hc.1, hc.2.1]
  exact h
theorem tHold_cong {f f2 : Nat → Int32} {s : Int32} (h : ∀ k, k < 6 → f k = f2 k) : ∀ j i, i + j ≤ 6 → tHold f s j i = tHold f2 s j i
  | 0, _, _ => rfl
  | j + 1, i, hi => by
    have e : tHas f (nI i) s = tHas f2 (nI i) s := by
      unfold tHas
      rw [nI_clamp (by omega), h i (by omega)]
    rw [tHold, tHold, e, tHold_cong h j (i + 1) (by omega)]
theorem dOr_small (O : COk c (lwF D)) (TO : TOk c T) : ∃ m, dOr (td (tvOf (cn c) T)) 6 = nI m ∧ m < 1024 := by
  have h10 := O.1
  have h6 := O.2.1
  obtain ⟨m, h1, h2⟩ := pb_small (fun k => !(T.1 k == 0)) h10
  exact ⟨m, by rw [dOr_T (by omega) (fun k hk => Nat.le_trans (TO.1 k hk) h6)]; exact h2, h1⟩
end IV
section PQ
variable {g : GG} {M : MM}
theorem p_shot {i x : Int32} (I : Inv M) : Pr g YX11_shot YX12_shot 60 [.int i, .int x] M := by
  obtain ⟨la, lb, pa, pb0, rl, n, t, D, c, T, U, p, w, mk, I, J, P⟩ := I
  obtain ⟨L, W, Tp, H, hm, K, V, Q, Sg, Ps, Mk⟩ := id I
  obtain ⟨O1, C1, O, TO, UO, PO, MO⟩ := id P
  exact Pr.q I J P (An (tX11_shot L K V (by omega))) (fun M1 L1 J1 => tX12_shot L1 J1.2.2.1 O J1.2.2.2.1 (by omega))
theorem p_hall {i x : Int32} (I : Inv M) : Pr g YX11_hall YX12_hall 60 [.int i, .int x] M := by
  obtain ⟨la, lb, pa, pb0, rl, n, t, D, c, T, U, p, w, mk, I, J, P⟩ := I
  obtain ⟨L, W, Tp, H, hm, K, V, Q, Sg, Ps, Mk⟩ := id I
  obtain ⟨O1, C1, O, TO, UO, PO, MO⟩ := id P
  exact Pr.q I J P (An (tX11_hall L K V (by omega))) (fun M1 L1 J1 => tX12_hall L1 J1.2.2.1 O J1.2.2.2.1 TO (by omega))
theorem p_judged {x : Int32} (I : Inv M) : Pr g YX11_judged YX12_judged 60 [.int x] M := by
  obtain ⟨la, lb, pa, pb0, rl, n, t, D, c, T, U, p, w, mk, I, J, P⟩ := I
  obtain ⟨L, W, Tp, H, hm, K, V, Q, Sg, Ps, Mk⟩ := id I
  obtain ⟨O1, C1, O, TO, UO, PO, MO⟩ := id P
  obtain ⟨qv, q1, q2, q3⟩ := Q
  rw [← C1.1, ← C1.2.1] at q3
  exact Pr.q I J P (Af (fun b hb => by omega) (tX11_judged L K q1 q3 q2 (by omega))) (fun M1 L1 J1 => tX12_judged L1 J1.2.2.1 O J1.2.2.2.2.2.1 (PO.toC C1) (by omega))
theorem p_shown {i x : Int32} (I : Inv M) : Pr g YX11_shown YX12_shown 60 [.int i, .int x] M := by
  obtain ⟨la, lb, pa, pb0, rl, n, t, D, c, T, U, p, w, mk, I, J, P⟩ := I
  obtain ⟨L, W, Tp, H, hm, K, V, Q, Sg, Ps, Mk⟩ := id I
  obtain ⟨O1, C1, O, TO, UO, PO, MO⟩ := id P
  exact Pr.q (v := if cAhd c (tvOf (cn c) T) i = -1 then -1 else sAt (cAhd c (tvOf (cn c) T) i) x (cn c) 0 0) I J P (An (tX11_shown L K V TO.ok (by omega))) (fun M1 L1 J1 => tX12_shown L1 J1.2.2.1 O J1.2.2.2.1 TO (by omega))
theorem p_minutes {i : Int32} (I : Inv M) : Pr g YX11_minutes YX12_minutes 60 [.int i] M := by
  obtain ⟨la, lb, pa, pb0, rl, n, t, D, c, T, U, p, w, mk, I, J, P⟩ := I
  obtain ⟨L, W, Tp, H, hm, K, V, Q, Sg, Ps, Mk⟩ := id I
  obtain ⟨O1, C1, O, TO, UO, PO, MO⟩ := id P
  exact Pr.q (v := if cAhd c (tvOf (cn c) T) i = -1 then -1 else cMin c (cAhd c (tvOf (cn c) T) i)) I J P (An (tX11_minutes L K V TO.ok (by omega))) (fun M1 L1 J1 => tX12_minutes L1 J1.2.2.1 O J1.2.2.2.1 TO (by omega))
theorem p_silly (I : Inv M) : Pr g YX11_silly YX12_silly 60 [] M := by
  obtain ⟨la, lb, pa, pb0, rl, n, t, D, c, T, U, p, w, mk, I, J, P⟩ := I
  obtain ⟨L, W, Tp, H, hm, K, V, Q, Sg, Ps, Mk⟩ := id I
  obtain ⟨O1, C1, O, TO, UO, PO, MO⟩ := id P
  exact Pr.q I J P (An (tX11_silly L K V TO.ok (by omega))) (fun M1 L1 J1 => tX12_silly L1 J1.2.2.1 O J1.2.2.2.1 TO (by omega))
theorem p_lasts (I : Inv M) : Pr g YX11_lasts YX12_lasts 60 [] M := by
  obtain ⟨la, lb, pa, pb0, rl, n, t, D, c, T, U, p, w, mk, I, J, P⟩ := I
  obtain ⟨L, W, Tp, H, hm, K, V, Q, Sg, Ps, Mk⟩ := id I
  obtain ⟨O1, C1, O, TO, UO, PO, MO⟩ := id P
  exact Pr.q I J P (Af (fun b hb => by omega) (tX11_lasts L K V TO.ok (by omega))) (fun M1 L1 J1 => tX12_lasts L1 J1.2.2.1 O J1.2.2.2.1 TO (by omega))
theorem p_sense (I : Inv M) : Pr g YX11_sense YX12_sense 60 [] M := by
  obtain ⟨la, lb, pa, pb0, rl, n, t, D, c, T, U, p, w, mk, I, J, P⟩ := I
  obtain ⟨L, W, Tp, H, hm, K, V, Q, Sg, Ps, Mk⟩ := id I
  obtain ⟨O1, C1, O, TO, UO, PO, MO⟩ := id P
  exact Pr.q I J P (An (tX11_sense L K V (by omega))) (fun M1 L1 J1 => tX12_sense L1 J1.2.2.1 O J1.2.2.2.1 (by omega))
theorem p_gone {i : Int32} (I : Inv M) : Pr g YX11_gone YX12_gone 60 [.int i] M := by
  obtain ⟨la, lb, pa, pb0, rl, n, t, D, c, T, U, p, w, mk, I, J, P⟩ := I
  obtain ⟨L, W, Tp, H, hm, K, V, Q, Sg, Ps, Mk⟩ := id I
  obtain ⟨O1, C1, O, TO, UO, PO, MO⟩ := id P
  exact Pr.q I J P (An (tX11_gone L K V TO.ok (by omega))) (fun M1 L1 J1 => tX12_gone L1 J1.2.2.1 O J1.2.2.2.1 TO (by omega))
theorem p_kin {i : Int32} (I : Inv M) : Pr g YX11_kin YX12_kin 60 [.int i] M := by
  obtain ⟨la, lb, pa, pb0, rl, n, t, D, c, T, U, p, w, mk, I, J, P⟩ := I
  obtain ⟨L, W, Tp, H, hm, K, V, Q, Sg, Ps, Mk⟩ := id I
  obtain ⟨O1, C1, O, TO, UO, PO, MO⟩ := id P
  exact Pr.q I J P (An (tX11_kin L K (by omega))) (fun M1 L1 J1 => tX12_kin L1 J1.2.2.1 O (by omega))
theorem p_hoard {i : Int32} (I : Inv M) : Pr g YX11_hoard YX12_hoard 60 [.int i] M := by
  obtain ⟨la, lb, pa, pb0, rl, n, t, D, c, T, U, p, w, mk, I, J, P⟩ := I
  obtain ⟨L, W, Tp, H, hm, K, V, Q, Sg, Ps, Mk⟩ := id I
  obtain ⟨O1, C1, O, TO, UO, PO, MO⟩ := id P
  exact Pr.q I J P (An (tX11_hoard L K V (by omega))) (fun M1 L1 J1 => tX12_hoard L1 J1.2.2.1 O J1.2.2.2.1 TO (by omega))
theorem p_longest (I : Inv M) : Pr g YX11_longest YX12_longest 60 [] M := by
  obtain ⟨la, lb, pa, pb0, rl, n, t, D, c, T, U, p, w, mk, I, J, P⟩ := I
  obtain ⟨L, W, Tp, H, hm, K, V, Q, Sg, Ps, Mk⟩ := id I
  obtain ⟨O1, C1, O, TO, UO, PO, MO⟩ := id P
  exact Pr.q I J P (An (tX11_longest L K V (by omega))) (fun M1 L1 J1 => tX12_longest L1 J1.2.2.1 O J1.2.2.2.1 (by omega))
theorem p_order {x : Int32} (I : Inv M) : Pr g YX11_order YX12_order 60 [.int x] M := by
  obtain ⟨la, lb, pa, pb0, rl, n, t, D, c, T, U, p, w, mk, I, J, P⟩ := I
  obtain ⟨L, W, Tp, H, hm, K, V, Q, Sg, Ps, Mk⟩ := id I
  obtain ⟨O1, C1, O, TO, UO, PO, MO⟩ := id P
  exact Pr.q I J P (Af (fun b hb => by omega) (tX11_order O.2.2.2.2.2.2.1 L K V TO.ok (by omega))) (fun M1 L1 J1 => tX12_order L1 J1.2.2.1 O J1.2.2.2.1 TO (by omega))
theorem p_ride (I : Inv M) : Pr g YX11_ride YX12_ride 60 [] M := by
  obtain ⟨la, lb, pa, pb0, rl, n, t, D, c, T, U, p, w, mk, I, J, P⟩ := I
  obtain ⟨L, W, Tp, H, hm, K, V, Q, Sg, Ps, Mk⟩ := id I
  obtain ⟨O1, C1, O, TO, UO, PO, MO⟩ := id P
  exact Pr.q I J P (Af (fun b hb => by omega) (tX11_ride L K V (by omega))) (fun M1 L1 J1 => tX12_ride L1 J1.2.2.1 O J1.2.2.2.1 TO (by omega))
theorem p_other {x : Int32} (I : Inv M) : Pr g YX11_other YX12_other 60 [.int x] M := by
  obtain ⟨la, lb, pa, pb0, rl, n, t, D, c, T, U, p, w, mk, I, J, P⟩ := I
  obtain ⟨L, W, Tp, H, hm, K, V, Q, Sg, Ps, Mk⟩ := id I
  obtain ⟨O1, C1, O, TO, UO, PO, MO⟩ := id P
  obtain ⟨m, m1, m2⟩ := dOr_small O TO
  exact Pr.q I J P (An (tX11_other L K V m1 m2 (by omega))) (fun M1 L1 J1 => tX12_other L1 J1.2.2.1 O J1.2.2.2.1 TO m1 m2 (by omega))
theorem p_mends (I : Inv M) : Pr g YX11_mends YX12_mends 60 [] M := by
  obtain ⟨la, lb, pa, pb0, rl, n, t, D, c, T, U, p, w, mk, I, J, P⟩ := I
  obtain ⟨L, W, Tp, H, hm, K, V, Q, Sg, Ps, Mk⟩ := id I
  obtain ⟨O1, C1, O, TO, UO, PO, MO⟩ := id P
  obtain ⟨m, m1, m2⟩ := dOr_small O TO
  exact Pr.q I J P (An (tX11_mends L K V m1 m2 (by omega))) (fun M1 L1 J1 => tX12_mends L1 J1.2.2.1 O J1.2.2.2.1 TO m1 m2 (by omega))
theorem p_where {i : Int32} (I : Inv M) : Pr g YX11_where YX12_where 60 [.int i] M := by
  obtain ⟨la, lb, pa, pb0, rl, n, t, D, c, T, U, p, w, mk, I, J, P⟩ := I
  obtain ⟨L, W, Tp, H, hm, K, V, Q, Sg, Ps, Mk⟩ := id I
  obtain ⟨O1, C1, O, TO, UO, PO, MO⟩ := id P
  have h := tX11_where (g := g) (d := 60) (i := i) L K V (by omega)
  rw [tHold_cong (f2 := td (tvOf (cn c) T)) V.2.1 6 0 (Nat.le_refl _)] at h
  exact Pr.q I J P (An h) (fun M1 L1 J1 => tX12_where L1 J1.2.2.1 O J1.2.2.2.1 TO (by omega))
theorem p_taste {i o : Int32} (I : Inv M) : Pr g YX11_taste YX12_taste 60 [.int i, .int o] M := by
  obtain ⟨la, lb, pa, pb0, rl, n, t, D, c, T, U, p, w, mk, I, J, P⟩ := I
  obtain ⟨L, W, Tp, H, hm, K, V, Q, Sg, Ps, Mk⟩ := id I
  obtain ⟨O1, C1, O, TO, UO, PO, MO⟩ := id P
  exact Pr.q I J P (An (tX11_taste L K (by omega))) (fun M1 L1 J1 => tX12_taste L1 J1.2.2.1 O (by omega))
theorem p_mild (I : Inv M) : Pr g YX11_mild YX12_mild 60 [] M := by
  obtain ⟨la, lb, pa, pb0, rl, n, t, D, c, T, U, p, w, mk, I, J, P⟩ := I
  obtain ⟨L, W, Tp, H, hm, K, V, Q, Sg, Ps, Mk⟩ := id I
  obtain ⟨O1, C1, O, TO, UO, PO, MO⟩ := id P
  exact Pr.q I J P (An (tX11_mild L K (by omega))) (fun M1 L1 J1 => tX12_mild L1 J1.2.2.1 O (by omega))
theorem p_halls (I : Inv M) : Pr g YX11_halls YX12_halls 60 [] M := by
  obtain ⟨la, lb, pa, pb0, rl, n, t, D, c, T, U, p, w, mk, I, J, P⟩ := I
  obtain ⟨L, W, Tp, H, hm, K, V, Q, Sg, Ps, Mk⟩ := id I
  obtain ⟨O1, C1, O, TO, UO, PO, MO⟩ := id P
  exact Pr.q I J P (RT.to (tX11_halls (g := g) (d := 60) L K V Sg (by omega)) (fun rv M1 q => ⟨q.1, q.2.2.mono (fun b hb => by omega)⟩)) (fun M1 L1 J1 => tX12_halls L1 J1.2.2.1 O J1.2.2.2.1 J1.2.2.2.2.2.2.1 (by omega))
theorem p_ask (I : Inv M) : Pr g YX11_ask YX12_ask 60 [] M := by
  obtain ⟨la, lb, pa, pb0, rl, n, t, D, c, T, U, p, w, mk, I, J, P⟩ := I
  obtain ⟨L, W, Tp, H, hm, K, V, Q, Sg, Ps, Mk⟩ := id I
  obtain ⟨O1, C1, O, TO, UO, PO, MO⟩ := id P
  exact Pr.q I J P (Af (fun b hb => by omega) (tX11_ask L K V Sg (by omega))) (fun M1 L1 J1 => tX12_ask L1 J1.2.2.1 O J1.2.2.2.1 J1.2.2.2.2.2.2.1 (by omega))
theorem p_share {i : Int32} (I : Inv M) : Pr g YX11_share YX12_share 60 [.int i] M := by
  obtain ⟨la, lb, pa, pb0, rl, n, t, D, c, T, U, p, w, mk, I, J, P⟩ := I
  obtain ⟨L, W, Tp, H, hm, K, V, Q, Sg, Ps, Mk⟩ := id I
  obtain ⟨O1, C1, O, TO, UO, PO, MO⟩ := id P
  exact Pr.q I J P (An (tX11_share L K V (by omega))) (fun M1 L1 J1 => tX12_share L1 J1.2.2.1 O J1.2.2.2.1 TO (by omega))
theorem p_tours {x y z : Int32} (I : Inv M) : Pr g YX11_tours YX12_tours 60 [.int x, .int y, .int z] M := by
  obtain ⟨la, lb, pa, pb0, rl, n, t, D, c, T, U, p, w, mk, I, J, P⟩ := I
  obtain ⟨L, W, Tp, H, hm, K, V, Q, Sg, Ps, Mk⟩ := id I
  obtain ⟨O1, C1, O, TO, UO, PO, MO⟩ := id P
  exact Pr.q I J P (Af (fun b hb => by omega) (tX11_tours L K V TO (by omega))) (fun M1 L1 J1 => tX12_tours L1 J1.2.2.1 O J1.2.2.2.1 TO (by omega))
theorem p_count {x : Int32} (I : Inv M) : Pr g YX11_count YX12_count 60 [.int x] M := by
  obtain ⟨la, lb, pa, pb0, rl, n, t, D, c, T, U, p, w, mk, I, J, P⟩ := I
  obtain ⟨L, W, Tp, H, hm, K, V, Q, Sg, Ps, Mk⟩ := id I
  obtain ⟨O1, C1, O, TO, UO, PO, MO⟩ := id P
  obtain ⟨qv, q1, q2, q3⟩ := Q
  obtain ⟨u, u1, u2, u3⟩ := Ps
  refine Pr.q (v := cCnt c (tvOf (cn c) T) (0, U.1, fun _ => tvOf (cn c) T) (p.1, fun _ => 0, fun _ => 0, fun _ => 0, fun _ => 0) w (nI n) x) I J P ?_ (fun M1 L1 J1 => ?_)
  · have h := tX11_count (g := g) (d := 60) (x := x) L K V u1 q1 Sg (by omega)
    have e : cCnt c (tvOf (cn c) T) u qv w (mi M 25 2) x = cCnt c (tvOf (cn c) T) (0, U.1, fun _ => tvOf (cn c) T) (p.1, fun _ => 0, fun _ => 0, fun _ => 0, fun _ => 0) w (nI n) x := by
      unfold cCnt
      rw [u2, q2, Tp.2.1]
    rw [e] at h
    exact An h
  · have h := tX12_count (g := g) (d := 60) (x := x) L1 O J1.2.2 TO (by omega)
    rw [J1.1.2.1] at h
    exact h
end PQ
