/-! ===== both, where something lasts ===== -/
section DD
variable {g : GG} {d : Nat} {S : Nat → Prop} {M M1 : MM} {la lb pa pb0 rl n n2 i : Nat} {t t2 : Nat → Nat} {D : DTs} {c : CD} {T T2 : TT} {U U2 : UU} {p p2 : PP} {w w2 : SV} {mk mk2 : Nat → KK} {k : KK}
theorem CIv.tape (I : CIv M la lb pa pb0 rl n t D c T U p w mk) (F : Fr S M M1) (hS : ∀ b, b < 130 → b ≠ 25 → b ≠ 27 → ¬ S b) (Tp : TapeIs M1 n2 t2) : CIv M1 la lb pa pb0 rl n2 t2 D c T U p w mk := by
  obtain ⟨L, W, -, H, hm, K, V, Q, Sg, Ps, Mk⟩ := I
  have hla := L.la_lt
  have hpa := L.pa_lt
  exact ⟨F.lay L, W.fr F (hS _ (by omega) (by omega) (by omega)), Tp, H.fr F (fun k hk => hS _ (by omega) (by omega) (by omega)), by rw [F.i (hS _ (by omega) (by omega) (by omega))]; exact hm, K.fr F (fun k hk => hS _ (by omega) (by omega) (by omega)), V.fr F (hS _ (by omega) (by omega) (by omega)) (hS _ (by omega) (by omega) (by omega)), Q.fr F (fun k hk => hS _ (by omega) (by omega) (by omega)), Sg.fr F (hS _ (by omega) (by omega) (by omega)) (hS _ (by omega) (by omega) (by omega)) (hS _ (by omega) (by omega) (by omega)), Ps.fr F (fun b h1 h2 => hS _ (by omega) (by omega) (by omega)), fun i hi => (Mk i hi).fr F (fun k hk => hS _ (by omega) (by omega) (by omega))⟩
theorem CIv.hand (I : CIv M la lb pa pb0 rl n t D c T U p w mk) (F : Fr inH M M1) (V : TrIs M1 39 (tvOf (cn c) T2)) (Ps : PsO M1 (cn c) U2) : CIv M1 la lb pa pb0 rl n t D c T2 U2 p w mk := by
  obtain ⟨L, W, Tp, H, hm, K, -, Q, Sg, -, Mk⟩ := I
  have hla := L.la_lt
  have hpa := L.pa_lt
  exact ⟨F.lay L, W.fr F (by omega), Tp.fr F (by omega) (by omega), H.fr F (fun k hk => by omega), by rw [F.i (by omega)]; exact hm, K.fr F (fun k hk => by omega), V, Q.fr F (fun k hk => by omega), Sg.fr F (by omega) (by omega) (by omega), Ps, fun i hi => (Mk i hi).fr F (fun k hk => by omega)⟩
theorem CIv.seen (I : CIv M la lb pa pb0 rl n t D c T U p w mk) (F : Fr (inS 77) M M1) (Sg : SgIs M1 77 w2) : CIv M1 la lb pa pb0 rl n t D c T U p w2 mk := by
  obtain ⟨L, W, Tp, H, hm, K, V, Q, -, Ps, Mk⟩ := I
  have hla := L.la_lt
  have hpa := L.pa_lt
  exact ⟨F.lay L, W.fr F (by omega), Tp.fr F (by omega) (by omega), H.fr F (fun k hk => by omega), by rw [F.i (by omega)]; exact hm, K.fr F (fun k hk => by omega), V.fr F (by omega) (by omega), Q.fr F (fun k hk => by omega), Sg, Ps.fr F (fun b h1 h2 => by omega), fun i hi => (Mk i hi).fr F (fun k hk => by omega)⟩
theorem RAll.fr2 (A : RAll M c (lwF D) T U p w mk) (F : Fr S M M1) (h49 : mi M1 130 49 = mi M 130 49) (hS : ∀ b, 132 ≤ b → ¬ S b) : RAll M1 c (lwF D) T U p w mk := by
  obtain ⟨a1, a2, a3, a4, a5, a6⟩ := A
  exact ⟨a1.fr F (fun b hb => hS b (by omega)), by rw [F.i (hS _ (by omega))]; exact a2, a3.fr F h49 (hS _ (by omega)), a4.fr F (fun b h1 h2 => hS b (by omega)), a5.fr F (fun b h1 h2 => hS b (by omega)), fun i hi => (a6 i hi).fr F (fun b hb => hS b (by omega))⟩
theorem RI.dd (J : RI M n t D c T U p w mk) (R : RDd M M1 c U2 T2) : RI M1 n t D c T2 U2 p w mk :=
  ⟨J.1.fr R.2.2.2 R.2.2.1 (by omega), J.2.1.fr R.2.2.2 (by omega) (by omega) (by omega), J.2.2.dd R⟩
theorem PsO.keep {u : UV} (u1 : PsIs M u) (u2 : u.2.1 = U.1) (u3 : ∀ i, i < U.1 → u.2.2 ((u.1 + 16 - U.1 + i) % 16) = tvOf n (U.2 i)) (h : PsIs M1 (uKeep u (tvOf n T))) : PsO M1 n (uPut U T) := by
  have l1 := u1.1
  have l2 := u1.2.1
  refine ⟨_, h, ?_, ?_⟩
  · show (if 16 < u.2.1 + 1 then 16 else u.2.1 + 1) = _
    unfold uPut
    by_cases e : U.1 = 16
    · rw [if_pos e, if_pos (by omega)]
    · rw [if_neg e, if_neg (by omega), u2]
  · unfold uPut
    by_cases e : U.1 = 16
    · rw [if_pos e]
      intro i hi
      have hi : i < 16 := hi
      show (if ((u.1 + 1) % 16 + 16 - 16 + i) % 16 = u.1 then tvOf n T else u.2.2 (((u.1 + 1) % 16 + 16 - 16 + i) % 16)) = tvOf n (if i = 15 then T else U.2 (i + 1))
      by_cases e2 : i = 15
      · rw [if_pos (by omega), if_pos e2]
      · rw [if_neg (by omega), if_neg e2, ← u3 (i + 1) (by omega)]
        exact congrArg u.2.2 (by omega)
    · rw [if_neg e]
      intro i hi
      have hi : i < U.1 + 1 := hi
      show (if ((u.1 + 1) % 16 + 16 - (U.1 + 1) + i) % 16 = u.1 then tvOf n T else u.2.2 (((u.1 + 1) % 16 + 16 - (U.1 + 1) + i) % 16)) = tvOf n (if i = U.1 then T else U.2 i)
      by_cases e2 : i = U.1
      · rw [if_pos (by omega), if_pos e2]
      · rw [if_neg (by omega), if_neg e2, ← u3 i (by omega)]
        exact congrArg u.2.2 (by omega)
theorem uPut_ok (h16 : U.1 ≤ 16) (h : ∀ i, i < U.1 → TOk c (U.2 i)) (hT : TOk c T) : ∀ i, i < (uPut U T).1 → TOk c ((uPut U T).2 i) := by
  unfold uPut
  by_cases e : U.1 = 16
  · rw [if_pos e]
    intro i hi
    have hi : i < 16 := hi
    show TOk c (if i = 15 then T else U.2 (i + 1))
    by_cases e2 : i = 15
    · rw [if_pos e2]; exact hT
    · rw [if_neg e2]; exact h _ (by omega)
  · rw [if_neg e]
    intro i hi
    have hi : i < U.1 + 1 := hi
    show TOk c (if i = U.1 then T else U.2 i)
    by_cases e2 : i = U.1
    · rw [if_pos e2]; exact hT
    · rw [if_neg e2]; exact h _ (by omega)
theorem vSh_p {v : TV} : tp (vSh c v) = tp v &&& (cNow c v ^^^ (-1)) := by
  unfold vSh vNext
  dsimp only
  split <;> split <;> rfl
/-- a deed by hand: what the class did, then the reference -/
theorem Pr.h {Yr : YY} {As : List Value} {v : Int32} (I : CIv M la lb pa pb0 rl n t D c T U p w mk) (J : RI M n t D c T U p w mk) (P : Pu D c T U p mk) {u : UV} (u1 : PsIs M u) (u2 : u.2.1 = U.1) (u3 : ∀ i, i < U.1 → u.2.2 ((u.1 + 16 - U.1 + i) % 16) = tvOf (cn c) (U.2 i)) (F : Fr inH M M1) (k1 : PsIs M1 (uKeep u (tvOf (cn c) T))) (k2 : TrIs M1 39 (tvOf (cn c) T2)) (hT : TOk c T2)
    (h2 : Lay M1 la lb pa pb0 rl → RI M1 n t D c T U p w mk → R0 g Yr d (.ref 130 :: As) M1 (fun rv M2 => rv = some (.int v) ∧ RDd M1 M2 c (uPut U T) T2)) : R0 g Yr d (.ref 130 :: As) M1 (fun rv M2 => rv = some (.int v) ∧ Inv M2) := by
  have I1 := I.hand F k2 (PsO.keep u1 u2 u3 k1)
  have J1 := J.fr F (fun b hb h => by omega)
  refine RT.to (h2 I1.1 J1) (fun rv M2 q => ?_)
  obtain ⟨e, R⟩ := q
  obtain ⟨O1, C1, O, TO, UO, PO, MO⟩ := P
  exact ⟨e, la, lb, pa, pb0, rl, n, t, D, c, T2, uPut U T, p, w, mk, I1.fr R.2.2.2 (fun b hb h z => by omega), J1.dd R, O1, C1, O, hT, uPut_ok (by have := u1.2.1; omega) UO TO, PO, MO⟩
end DD
section PD
variable {g : GG} {M : MM}
theorem p_feed {a b e : Int64} (I : Inv M) : Pr g YX11_feed YX12_feed 60 [.long a, .long b, .long e] M := by
  obtain ⟨la, lb, pa, pb0, rl, n, t, D, c, T, U, p, w, mk, I, J, P⟩ := I
  refine RT.to (tX11_feed (g := g) (d := 60) I.1 I.2.2.1 (by omega)) (fun rv M1 q => ?_)
  obtain ⟨e1, T1, F1⟩ := q
  have I1 := I.tape F1 (fun b hb h1 h2 z => by omega) T1
  have J1 := J.fr F1 (fun b hb z => by omega)
  refine ⟨_, e1, I1.1.s rfl (by decide), RT.to (tX12_feed (g := g) (d := 60) I1.1 J1.1) (fun rv2 M2 q2 => ?_)⟩
  obtain ⟨e2, T2, x2, F2⟩ := q2
  exact ⟨e2, la, lb, pa, pb0, rl, _, _, D, c, T, U, p, w, mk, I1.fr F2 (fun b hb h z => by omega), ⟨T2, J1.2.1.fr F2 (by omega) (by omega) (by omega), J1.2.2.fr2 F2 (x2 49 (by omega) (by omega)) (fun b hb z => by omega)⟩, P⟩
theorem p_show (I : Inv M) : Pr g YX11_show YX12_show 60 [] M := by
  obtain ⟨la, lb, pa, pb0, rl, n, t, D, c, T, U, p, w, mk, I, J, P⟩ := I
  obtain ⟨L, W, Tp, H, hm, K, V, Q, Sg, Ps, Mk⟩ := id I
  obtain ⟨O1, C1, O, TO, UO, PO, MO⟩ := id P
  obtain ⟨u, u1, u2, u3⟩ := Ps
  refine RT.to (tX11_show (g := g) (d := 60) L K V TO.ok u1 (by omega)) (fun rv M1 q => ?_)
  rcases q with ⟨h0, e, rfl⟩ | ⟨h0, e, k1, k2, F⟩
  · refine ⟨_, e, L.s rfl (by decide), RT.to (tX12_show (g := g) (d := 60) L J.2.2.1 O J.2.2.2.1 TO J.2.2.2.2.1 (by omega)) (fun rv2 M2 q2 => ?_)⟩
    rcases q2 with ⟨-, e2, s⟩ | ⟨z, -⟩
    · exact ⟨e2, la, lb, pa, pb0, rl, n, t, D, c, T, U, p, w, mk, I.fr s.1 (fun b hb h z => by omega), J.sc O.1 s, P⟩
    · exact absurd h0 z
  · have hx := TO.2
    rw [if_neg h0] at hx
    have ev := vSh_T O.1 O.2.1 hx
    have ep : tp (tvOf (cn c) T) &&& (cNow c (tvOf (cn c) T) ^^^ (-1)) = tp (tvOf (cn c) (shT c T)) := by rw [← ev, vSh_p]
    rw [ev] at k2
    rw [ep] at e
    refine ⟨_, e, (F.lay L).s rfl (by decide), Pr.h I J P u1 u2 u3 F k1 k2 (TO.sh h0) (fun L1 J1 => RT.to (tX12_show (g := g) (d := 60) L1 J1.2.2.1 O J1.2.2.2.1 TO J1.2.2.2.2.1 (by omega)) (fun rv2 M2 q2 => ?_))⟩
    rcases q2 with ⟨z, -⟩ | ⟨-, e2, s⟩
    · exact absurd z h0
    · exact ⟨e2, s⟩
theorem cLies_T {c : CD} {D : DTs} {T : TT} {i k : Int32} (O : COk c (lwF D)) (h : cLies c (tvOf (cn c) T) i k = true) : ∃ hl kk, hl < ch c ∧ kk < cn c ∧ i = nI hl ∧ k = nI kk ∧ T.1 kk = hl + 1 := by
  have h10 := O.1
  have h6 := O.2.1
  unfold cLies at h
  simp only [Bool.and_eq_true] at h
  obtain ⟨h1, h2, h3⟩ := h
  obtain ⟨hl, e1, rfl⟩ := sIn_of (by omega) h1
  obtain ⟨kk, e2, rfl⟩ := sIn_of (by omega) h2
  rw [tHas_T (by omega) e2 (by omega)] at h3
  exact ⟨hl, kk, e1, e2, rfl, rfl, of_decide_eq_true h3⟩
theorem p_give {i k : Int32} (I : Inv M) : Pr g YX11_give YX12_give 60 [.int i, .int k] M := by
  obtain ⟨la, lb, pa, pb0, rl, n, t, D, c, T, U, p, w, mk, I, J, P⟩ := I
  obtain ⟨L, W, Tp, H, hm, K, V, Q, Sg, Ps, Mk⟩ := id I
  obtain ⟨O1, C1, O, TO, UO, PO, MO⟩ := id P
  obtain ⟨u, u1, u2, u3⟩ := Ps
  refine RT.to (tX11_give (g := g) (d := 60) (i := i) (k := k) L K V u1 (by omega)) (fun rv M1 q => ?_)
  rcases q with ⟨h0, e, rfl⟩ | ⟨h0, e, k1, k2, F⟩
  · refine ⟨_, e, L.s rfl (by decide), RT.to (tX12_give (g := g) (d := 60) L J.2.2.1 O J.2.2.2.1 TO J.2.2.2.2.1 (by omega)) (fun rv2 M2 q2 => ?_)⟩
    rcases q2 with ⟨-, e2, s⟩ | ⟨z, -⟩
    · exact ⟨e2, la, lb, pa, pb0, rl, n, t, D, c, T, U, p, w, mk, I.fr s.1 (fun b hb h z => by omega), J.sc O.1 s, P⟩
    · rw [h0] at z; exact absurd z (by decide)
  · obtain ⟨hl, kk, e1, e2, rfl, rfl, e3⟩ := cLies_T O h0
    have h10 := O.1
    have h6 := O.2.1
    rw [nI_clamp (by omega), vGive_T (by omega) e2 e3] at k2 e
    refine ⟨_, e, (F.lay L).s rfl (by decide), Pr.h I J P u1 u2 u3 F k1 k2 (TO.lay (Nat.zero_le _)) (fun L1 J1 => RT.to (tX12_give (g := g) (d := 60) L1 J1.2.2.1 O J1.2.2.2.1 TO J1.2.2.2.2.1 (by omega)) (fun rv2 M2 q2 => ?_))⟩
    rcases q2 with ⟨z, -⟩ | ⟨-, e2, s⟩
    · rw [h0] at z; exact absurd z (by decide)
    · rw [nI_clamp (by omega)] at e2 s
      exact ⟨e2, s⟩
theorem p_trade {i o k : Int32} (I : Inv M) : Pr g YX11_trade YX12_trade 60 [.int i, .int o, .int k] M := by
  obtain ⟨la, lb, pa, pb0, rl, n, t, D, c, T, U, p, w, mk, I, J, P⟩ := I
  obtain ⟨L, W, Tp, H, hm, K, V, Q, Sg, Ps, Mk⟩ := id I
  obtain ⟨O1, C1, O, TO, UO, PO, MO⟩ := id P
  obtain ⟨u, u1, u2, u3⟩ := Ps
  refine RT.to (tX11_trade (g := g) (d := 60) (i := i) (o := o) (k := k) L K V u1 (by omega)) (fun rv M1 q => ?_)
  rcases q with ⟨h0, e, rfl⟩ | ⟨h0, e, k1, k2, F⟩
  · refine ⟨_, e, L.s rfl (by decide), RT.to (tX12_trade (g := g) (d := 60) L J.2.2.1 O J.2.2.2.1 TO J.2.2.2.2.1 (by omega)) (fun rv2 M2 q2 => ?_)⟩
    rcases q2 with ⟨-, e2, s⟩ | ⟨z, -⟩
    · exact ⟨e2, la, lb, pa, pb0, rl, n, t, D, c, T, U, p, w, mk, I.fr s.1 (fun b hb h z => by omega), J.sc O.1 s, P⟩
    · rw [h0] at z; exact absurd z (by decide)
  · have h10 := O.1
    have h6 := O.2.1
    have h1 := h0
    simp only [Bool.and_eq_true] at h1
    obtain ⟨ho, -, hc⟩ := h1
    obtain ⟨hl, kk, e1, e2, rfl, rfl, e3⟩ := cLies_T O hc
    obtain ⟨oo, e4, rfl⟩ := sIn_of (by omega) ho
    rw [nI_clamp (by omega), nI_clamp (by omega), vHand_T (by omega) e2 e3] at k2
    refine ⟨_, e, (F.lay L).s rfl (by decide), Pr.h I J P u1 u2 u3 F k1 k2 (TO.lay (by omega)) (fun L1 J1 => RT.to (tX12_trade (g := g) (d := 60) L1 J1.2.2.1 O J1.2.2.2.1 TO J1.2.2.2.2.1 (by omega)) (fun rv2 M2 q2 => ?_))⟩
    rcases q2 with ⟨z, -⟩ | ⟨-, e2, s⟩
    · rw [h0] at z; exact absurd z (by decide)
    · rw [nI_clamp (by omega), nI_clamp (by omega)] at s
      exact ⟨e2, s⟩
theorem p_turn (I : Inv M) : Pr g YX11_turn YX12_turn 60 [] M := by
  obtain ⟨la, lb, pa, pb0, rl, n, t, D, c, T, U, p, w, mk, I, J, P⟩ := I
  obtain ⟨L, W, Tp, H, hm, K, V, Q, Sg, Ps, Mk⟩ := id I
  obtain ⟨O1, C1, O, TO, UO, PO, MO⟩ := id P
  obtain ⟨u, u1, u2, u3⟩ := Ps
  refine RT.to (tX11_turn (g := g) (d := 60) L K V u1 (by omega)) (fun rv M1 q => ?_)
  obtain ⟨e, k1, k2, F⟩ := q
  exact ⟨_, e, (F.lay L).s rfl (by decide), Pr.h (T2 := tTurn T) I J P u1 u2 u3 F k1 k2 TO.turn (fun L1 J1 => tX12_turn L1 J1.2.2.1 O J1.2.2.2.1 TO J1.2.2.2.2.1 (by omega))⟩
theorem p_undo (I : Inv M) : Pr g YX11_undo YX12_undo 60 [] M := by
  obtain ⟨la, lb, pa, pb0, rl, n, t, D, c, T, U, p, w, mk, I, J, P⟩ := I
  obtain ⟨L, W, Tp, H, hm, K, V, Q, Sg, Ps, Mk⟩ := id I
  obtain ⟨O1, C1, O, TO, UO, PO, MO⟩ := id P
  obtain ⟨u, u1, u2, u3⟩ := Ps
  have l1 := u1.1
  have l2 := u1.2.1
  refine RT.to (tX11_undo (g := g) (d := 60) L V u1 (by omega)) (fun rv M1 q => ?_)
  rcases q with ⟨h0, e, rfl⟩ | ⟨h0, e, k1, k2, F⟩
  · refine ⟨_, e, L.s rfl (by decide), RT.to (tX12_undo (g := g) (d := 60) L O J.2.2.2.2.1 (by omega)) (fun rv2 M2 q2 => ?_)⟩
    rcases q2 with ⟨-, e2, s⟩ | ⟨z, -⟩
    · exact ⟨e2, la, lb, pa, pb0, rl, n, t, D, c, T, U, p, w, mk, I.fr s.1 (fun b hb h z => by omega), J.sc O.1 s, P⟩
    · omega
  · have k3 := u3 (U.1 - 1) (by omega)
    rw [show (u.1 + 16 - U.1 + (U.1 - 1)) % 16 = (u.1 + 15) % 16 by omega] at k3
    rw [k3] at k2
    have Ps1 : PsO M1 (cn c) (U.1 - 1, U.2) := by
      refine ⟨_, k1, ?_, fun i hi => ?_⟩
      · show u.2.1 - 1 = U.1 - 1
        rw [u2]
      · have hi : i < U.1 - 1 := hi
        show u.2.2 (((u.1 + 15) % 16 + 16 - (U.1 - 1) + i) % 16) = _
        rw [← u3 i (by omega)]
        exact congrArg u.2.2 (by omega)
    have I1 := I.hand F k2 Ps1
    have J1 := J.fr F (fun b hb h => by omega)
    refine ⟨_, e, I1.1.s rfl (by decide), RT.to (tX12_undo (g := g) (d := 60) I1.1 O J1.2.2.2.2.1 (by omega)) (fun rv2 M2 q2 => ?_)⟩
    rcases q2 with ⟨z, -⟩ | ⟨-, e2, R⟩
    · omega
    · exact ⟨e2, la, lb, pa, pb0, rl, n, t, D, c, _, _, p, w, mk, I1.fr R.2.2.2 (fun b hb h z => by omega), J1.dd R, O1, C1, O, UO _ (by omega), fun i hi => UO i (by have hi : i < U.1 - 1 := hi; omega), PO, MO⟩
end PD
