/-! ===== both: what was seen, marks, rounds and counties told ===== -/
section TD
variable {g : GG} {d : Nat} {S : Nat → Prop} {M M1 M2 : MM} {la lb pa pb0 rl n n2 i : Nat} {t t2 : Nat → Nat} {D : DTs} {c : CD} {T T2 : TT} {U U2 : UU} {p p2 : PP} {w w2 : SV} {mk mk2 : Nat → KK} {k : KK}
theorem RLw.wrr {hl x y : Nat} {v : Option Nat} {f : (Nat → Int32) → Int32} (h : RLw M hl f) : RLw (wr M x y v) hl f := by
  obtain ⟨b, rc, q1, q2, q3, q4, q5⟩ := h
  exact ⟨b, rc, q1, q2, q3, SegIs.to (M := M) (M1 := wr M x y v) rfl q4, q5⟩
theorem RI.wrr {x y : Nat} {v : Option Nat} (J : RI M n t D c T U p w mk) : RI (wr M x y v) n t D c T U p w mk := by
  obtain ⟨j1, j2, ⟨b1, b2, b3, b4, b5⟩, a2, a3, a4, a5, a6⟩ := J
  exact ⟨j1, j2, ⟨b1, b2, b3, b4, fun hl h => (b5 hl h).wrr⟩, a2, a3, a4, a5, a6⟩
theorem RI.tm (J : RI M n t D c T U p w mk) (h10 : cn c ≤ 10) (h6 : ch c ≤ 6) (d10 : dn D ≤ 10) (d6 : dh D ≤ 6) (Q : RTm M M2) : RI M2 0 t D c T U p w mk := by
  obtain ⟨j1, ⟨n1', n2', n3', n4'⟩, ⟨b1, b2, b3, b4, b5⟩, a2, a3, a4, a5, a6⟩ := J
  obtain ⟨q1, q2, q3, q4, F, q5, q6⟩ := Q
  refine ⟨⟨Nat.zero_le _, q5, fun k hk => absurd hk (Nat.not_lt_zero _)⟩, ⟨?_, ?_, fun k hk => ?_, fun k hk => ?_⟩, ⟨?_, ?_, fun k hk => ?_, fun k hk => ?_, fun hl hh => ?_⟩, ?_, ?_, ?_, ?_, fun i hi => ?_⟩
  · rw [q1 _ (by omega)]; exact n1'
  · rw [q1 _ (by omega)]; exact n2'
  · rw [(q2 _ (by omega)).1]; exact n3' k hk
  · rw [(q3 _ (by omega)).1]; exact n4' k hk
  · rw [q1 _ (by omega)]; exact b1
  · rw [q1 _ (by omega)]; exact b2
  · rw [(q2 k (by omega)).2.1, (q2 k (by omega)).2.2.1, (q2 k (by omega)).2.2.2]; exact b3 k hk
  · rw [(q3 k (by omega)).2.1]; exact b4 k hk
  · obtain ⟨b, rc, z1, z2, z3, z4, z5⟩ := b5 hl hh
    exact ⟨b, rc, by rw [(q3 hl (by omega)).2.2.1]; exact z1, by rw [(q3 hl (by omega)).2.2.2]; exact z2, z3, z4.pres (fun j h1 h2 => q4 j (by omega)), z5⟩
  · rw [F.i (by omega)]; exact a2
  · exact a3.fr F (q6 49 (by omega) (by omega) (by omega) (by omega) (by omega) (by omega) (by omega) (by omega) (by omega)) (by omega)
  · exact a4.fr F (fun b h1 h2 => by omega)
  · exact a5.fr F (fun b h1 h2 => by omega)
  · exact (a6 i hi).fr F (fun b hb => by omega)
theorem PlO.none {a : Nat} {q : PV} (h : PlIs M a (0, q.2)) : PlO M a D pEmp := ⟨_, h, rfl, fun i hi => absurd hi (Nat.not_lt_zero _)⟩
theorem LwIs_D (H : DrIs M la D) (O : DOk D) (hE : eD D ≤ 1000) {hl : Nat} (hh : hl < dh D) : LwIs M (la + 7) hl (lwF D hl) := by
  obtain ⟨h1, h2, h3, h4⟩ := H
  obtain ⟨o1, o2, o3, o4⟩ := O
  have ln := eNl_le (dlw D) (show hl + 1 ≤ dh D by omega)
  have er : eNl (dlw D) (hl + 1) = eNl (dlw D) hl + (rcc (dlw D hl)).length := rfl
  obtain ⟨q1, q2, q3, q4⟩ := h4 hl hh
  obtain ⟨n, t, f, p, ef, r0⟩ := (o4 hl hh).2.2
  have hE : eNl (dlw D) (dh D) ≤ 1000 := hE
  refine ⟨eNl (dlw D) hl, rcc (dlw D hl), ?_, ?_, by omega, q4, fun env => ?_⟩
  · by_cases z : hl = 0
    · rw [if_pos z, z]; rfl
    · rw [if_neg z]
      have := (h4 (hl - 1) (by omega)).2.2.1
      rw [show hl - 1 + 1 = hl by omega] at this
      exact this
  · rw [← er]; exact q3
  · show vRun env (rcc (dlw D hl)) [] = some [rfv (dlw D hl) env]
    rw [ef] at r0 ⊢
    exact ((pEx_goodC (fun p h => Nat.lt_trans (lexT_nu h) (by decide)) f 4 0 p prOut (by omega) r0).1 (by omega)).2 env [] (by decide)
end TD
section PT
variable {g : GG} {M : MM}
theorem p_see {i : Int32} {b : Bool} (I : Inv M) : Pr g YX11_see YX12_see 60 [.int i, .int (b2i b)] M := by
  obtain ⟨la, lb, pa, pb0, rl, n, t, D, c, T, U, p, w, mk, I, J, P⟩ := I
  obtain ⟨L, W, Tp, H, hm, K, V, Q, Sg, Ps, Mk⟩ := id I
  obtain ⟨O1, C1, O, TO, UO, PO, MO⟩ := id P
  refine RT.to (tX11_see (g := g) (d := 60) (i := i) (b := b) L K Sg (by omega)) (fun rv M1 q => ?_)
  obtain ⟨e, k1, F⟩ := q
  have I1 := I.seen F k1
  have J1 := J.fr F (fun b hb h => by omega)
  refine ⟨_, e, I1.1.s rfl (by decide), RT.to (tX12_see (g := g) (d := 60) (i := i) (b := b) I1.1 J1.2.2.1 O J1.2.2.2.2.2.2.1 (by omega)) (fun rv2 M2 q2 => ?_)⟩
  obtain ⟨e2, s1, s2, s3, s4, F2⟩ := q2
  obtain ⟨a1, a2, a3, a4, a5, a6⟩ := J1.2.2
  refine ⟨e2, la, lb, pa, pb0, rl, n, t, D, c, T, U, p, _, mk, I1.fr F2 (fun b hb h z => by omega), ⟨J1.1.fr F2 s2 (by omega), J1.2.1.fr F2 (by omega) (by omega) (by omega), a1.fr F2 (fun b hb => by omega), ?_, a3.fr F2 s3 (by omega), a4.fr F2 (fun b h1 h2 => by omega), s1, fun j hj => ?_⟩, P⟩
  · rw [F2.i (by omega)]; exact a2
  · obtain ⟨m1, m2⟩ := a6 j hj
    refine ⟨by rw [F2.i (by omega)]; exact m1, fun z => ?_⟩
    obtain ⟨r1, r2, r3, r4, r5, r6⟩ := m2 z
    refine ⟨by rw [F2.i (by omega)]; exact r1, r2.fr F2 (fun b h1 h2 => by omega), r3, r4, ?_, fun k hk => ?_⟩
    · rw [(s4 (1 + j) 0 (by omega) (by omega)).1]; exact r5
    · obtain ⟨z1, z2⟩ := (s4 (1 + j) k (by omega) (by omega)).2 (by omega)
      rw [z1, z2]; exact r6 k hk
theorem p_mark {x : Int32} {y : Bool} (I : Inv M) : Pr g YX11_mark YX12_mark 60 [.int x, .int (b2i y)] M := by
  obtain ⟨la, lb, pa, pb0, rl, n, t, D, c, T, U, p, w, mk, I, J, P⟩ := I
  obtain ⟨L, W, Tp, H, hm, K, V, Q, Sg, Ps, Mk⟩ := id I
  obtain ⟨O1, C1, O, TO, UO, PO, MO⟩ := id P
  have hla := L.la_lt
  have hpa := L.pa_lt
  cases hx : sIn x 4
  · exact Pr.q I J P (An (tX11_markNo L hx)) (fun M1 L1 J1 => tX12_markNo L1 hx (by omega))
  · obtain ⟨i, hi, rfl⟩ := sIn_of (i := x) (n := 4) (by decide) hx
    obtain ⟨qv, q1, q2, q3⟩ := Q
    obtain ⟨u, u1, u2, u3⟩ := Ps
    obtain ⟨m1, m2⟩ := Mk i hi
    have K2 : ∃ v2 q2 w2, MkIs M i (mk i).1 v2 q2 w2 ∧ ((mk i).1 = true → v2 = tvOf (dn D) (mk i).2.1 ∧ w2 = (mk i).2.2.2 ∧ q2.1 = (mk i).2.2.1.1 ∧ PlRel (dn D) (dh D) q2.2.1 q2.2.2.1 q2.2.2.2.1 q2.2.2.2.2 (mk i).2.2.1) := by
      cases hb : (mk i).1
      · rw [hb] at m1
        exact ⟨tvOf (dn D) T0, qv, w, ⟨m1, fun z => absurd z (by decide)⟩, fun z => absurd z (by decide)⟩
      · obtain ⟨z1, ⟨qq, y1, y2, y3⟩, z3⟩ := m2 hb
        rw [hb] at m1
        exact ⟨_, qq, _, ⟨m1, fun _ => ⟨z1, y1, z3⟩⟩, fun _ => ⟨rfl, rfl, y2, y3⟩⟩
    obtain ⟨v2, qq2, w2, K2, K3⟩ := K2
    refine RT.to (tX11_mark (g := g) (d := 60) (y := y) L hi V q1 Sg u1 K2 (by omega)) (fun rv M1 q => ?_)
    rcases q with ⟨hy, e, k1, F⟩ | ⟨hy, hb, e, rfl⟩ | ⟨hy, hb, e, k1, k2, k3, k4, F⟩
    · have I1 : CIv M1 la lb pa pb0 rl n t D c T U p w (fun j => if j = i then (true, T, p, w) else mk j) := by
        refine ⟨F.lay L, W.fr F (by omega), Tp.fr F (by omega) (by omega), H.fr F (fun k hk => by omega), by rw [F.i (by omega)]; exact hm, K.fr F (fun k hk => by omega), V.fr F (by omega) (by omega), PlO.fr ⟨qv, q1, q2, q3⟩ F (fun k hk => by omega), Sg.fr F (by omega) (by omega) (by omega), PsO.fr ⟨u, u1, u2, u3⟩ F (fun b h1 h2 => by omega), fun j hj => ?_⟩
        show MkO M1 D j (if j = i then (true, T, p, w) else mk j)
        by_cases z : j = i
        · subst z
          rw [if_pos rfl]
          obtain ⟨y1, y2, y3⟩ := k1.2 rfl
          rw [C1.1] at y1
          exact ⟨k1.1, fun _ => ⟨y1, ⟨qv, y2, q2, q3⟩, y3⟩⟩
        · rw [if_neg z]
          exact (Mk j hj).fr F (fun k hk => by omega)
      have J1 := J.fr F (fun b hb h => by omega)
      refine ⟨_, e, I1.1.s rfl (by decide), RT.to (tX12_mark (g := g) (d := 60) (y := y) I1.1 O J1.2.2 PO.1 hi (by omega)) (fun rv2 M2 z => ?_)⟩
      obtain ⟨z1, z2⟩ := z
      rcases z1 with ⟨-, e2, A⟩ | ⟨hy2, -⟩ | ⟨hy2, -⟩
      · refine ⟨e2, la, lb, pa, pb0, rl, n, t, D, c, T, U, p, w, _, I1.fr z2.1 (fun b hb h z => by omega), ⟨J1.1.fr z2.1 z2.2 (by omega), J1.2.1.fr z2.1 (by omega) (by omega) (by omega), A⟩, O1, C1, O, TO, UO, PO, fun j hj => ?_⟩
        show (if j = i then ((true, T, p, w) : KK) else mk j).1 = true → TOk c (if j = i then ((true, T, p, w) : KK) else mk j).2.1 ∧ POk D (if j = i then ((true, T, p, w) : KK) else mk j).2.2.1
        by_cases z : j = i
        · rw [if_pos z]; exact fun _ => ⟨TO, PO⟩
        · rw [if_neg z]; exact MO j hj
      · rw [hy] at hy2; exact absurd hy2 (by decide)
      · rw [hy] at hy2; exact absurd hy2 (by decide)
    · refine ⟨_, e, L.s rfl (by decide), RT.to (tX12_mark (g := g) (d := 60) (y := y) L O J.2.2 PO.1 hi (by omega)) (fun rv2 M2 z => ?_)⟩
      obtain ⟨z1, z2⟩ := z
      rcases z1 with ⟨hy2, -⟩ | ⟨-, -, e2, A⟩ | ⟨-, hb2, -⟩
      · rw [hy] at hy2; exact absurd hy2 (by decide)
      · exact ⟨e2, la, lb, pa, pb0, rl, n, t, D, c, T, U, p, w, mk, I.fr z2.1 (fun b hb h z => by omega), ⟨J.1.fr z2.1 z2.2 (by omega), J.2.1.fr z2.1 (by omega) (by omega) (by omega), A⟩, P⟩
      · rw [hb] at hb2; exact absurd hb2 (by decide)
    · obtain ⟨rfl, rfl, y3, y4⟩ := K3 hb
      have nS : ∀ b, (b < 39 ∧ b ≠ pa ∧ b ≠ pa + 1 ∧ b ≠ pa + 2 ∧ b ≠ pa + 3 ∧ b ≠ pa + 4) ∨ 80 ≤ b → ¬ (b = 43 ∨ inG 39 pa 77 b) := fun b hb z => by
        rcases z with z | (z | z) | (z | z | z | z | z) | (z | z | z) <;> omega
      rw [← C1.1] at k1
      have I1 : CIv M1 la lb pa pb0 rl n t D c (mk i).2.1 (0, U.2) (mk i).2.2.1 (mk i).2.2.2 mk :=
        ⟨F.lay L, W.fr F (nS _ (by omega)), Tp.fr F (nS _ (by omega)) (nS _ (by omega)), H.fr F (fun k hk => nS _ (by omega)), by rw [F.i (nS _ (by omega))]; exact hm, K.fr F (fun k hk => nS _ (by omega)), k1, ⟨qq2, k2, y3, y4⟩, k3, ⟨_, k4, rfl, fun i hi => absurd hi (Nat.not_lt_zero _)⟩, fun j hj => (Mk j hj).fr F (fun k hk => nS _ (by omega))⟩
      have J1 := J.fr F (fun b hb => nS _ (by omega))
      refine ⟨_, e, I1.1.s rfl (by decide), RT.to (tX12_mark (g := g) (d := 60) (y := y) I1.1 O J1.2.2 PO.1 hi (by omega)) (fun rv2 M2 z => ?_)⟩
      obtain ⟨z1, z2⟩ := z
      rcases z1 with ⟨hy2, -⟩ | ⟨-, hb2, -⟩ | ⟨-, -, e2, A⟩
      · rw [hy] at hy2; exact absurd hy2 (by decide)
      · rw [hb] at hb2; exact absurd hb2 (by decide)
      · exact ⟨e2, la, lb, pa, pb0, rl, n, t, D, c, _, _, _, _, mk, I1.fr z2.1 (fun b hb h z => by omega), ⟨J1.1.fr z2.1 z2.2 (by omega), J1.2.1.fr z2.1 (by omega) (by omega) (by omega), A⟩, O1, C1, O, (MO i hi hb).1, fun i hi => absurd hi (Nat.not_lt_zero _), (MO i hi hb).2, MO⟩
/-- the reference's round, behind the class's -/
theorem r_round {M1 : MM} {la lb pa pb0 rl n : Nat} {t : Nat → Nat} {D : DTs} {c : CD} {T : TT} {U : UU} {p : PP} {w : SV} {mk : Nat → KK} (L1 : Lay M1 la lb pa pb0 rl) (J1 : RI M1 n t D c T U p w mk) (O1 : DOk D) (hp : p.1 ≤ 40) : R0 g YX12_round 60 [.ref 130] M1 (fun rv M2 => rv = some (.int (rndT n t D).2.1) ∧ Fr inRl M1 M2 ∧ RI M2 0 t D c T U (if (rndT n t D).1 = 0 then (rndT n t D).2.2.2 else p) w mk) := by
  refine RT.to (tX12_round (g := g) (d := 60) L1 J1.1 J1.2.1 O1 (by omega)) (fun rv M2 q => ?_)
  obtain ⟨e, L2, x1, x0, F, xs, l1, l2⟩ := q
  obtain ⟨j1, j2, a1, a2, a3, a4, a5, a6⟩ := J1
  refine ⟨e, F, ⟨Nat.zero_le _, x1, fun k hk => absurd hk (Nat.not_lt_zero _)⟩, j2.fr F (by omega) (by omega) (by omega), a1.fr F (fun b hb => by omega), by rw [F.i (by omega)]; exact a2, a3.fr F (xs 49 (by omega) (by omega) (by omega) (by omega) (by omega) (by omega) (by omega) (by omega) (by omega)) (by omega), ?_, a5.fr F (fun b h1 h2 => by omega), fun i hi => ?_⟩
  · rcases rndT_gd (t := t) j1.1 O1 with ⟨z, -⟩ | ⟨z, -⟩
    · rw [if_neg (by omega)]
      exact l1 0 p (by omega) hp a4 (.inr z)
    · rw [if_pos z]; exact l2 z
  · obtain ⟨m1, m2⟩ := a6 i hi
    refine ⟨by rw [F.i (by omega)]; exact m1, fun z => ?_⟩
    obtain ⟨r1, r2, r3, r4⟩ := m2 z
    exact ⟨by rw [F.i (by omega)]; exact r1, l1 (1 + i) _ (by omega) r3 r2 (.inl (by omega)), r3, r4.fr F (fun b h1 h2 => by omega)⟩
theorem p_round (I : Inv M) : Pr g YX11_round YX12_round 60 [] M := by
  obtain ⟨la, lb, pa, pb0, rl, n, t, D, c, T, U, p, w, mk, I, J, P⟩ := I
  obtain ⟨L, W, Tp, H, hm, K, V, Q, Sg, Ps, Mk⟩ := id I
  obtain ⟨O1, C1, O, TO, UO, PO, MO⟩ := id P
  have hla := L.la_lt
  have hpa : (pa = 29 ∧ pb0 = 34) ∨ (pa = 34 ∧ pb0 = 29) := L.2.2.2.2.1
  refine R0.of (by decide +kernel) (Nat.le_of_ble_eq_true rfl) rfl (qX11_round_0 L (K0.set (d1 := 59) (by omega) (tX7_readPlan L W Tp H O1 hm (a := pb0) (by omega) (by omega)) ?_))
  rintro rv M2 ⟨rfl, e25, hP, F, L2⟩
  have nS : ∀ b, (b ≠ 25 ∧ b ≠ 28 ∧ b ≠ pb0 ∧ b ≠ pb0 + 1 ∧ b ≠ pb0 + 2 ∧ b ≠ pb0 + 3 ∧ b ≠ pb0 + 4) → ¬ inWq (inP pb0) b := fun b hb z => by
    rcases z with z | z | z | z | z | z | z <;> omega
  have J2 : RI M2 n t D c T U p w mk := J.wrr.fr F (fun b hb => nS b (by omega))
  have W0 : WdOk (wr M 28 1 (some la)) := W
  have K0' : CoIs (wr M 28 1 (some la)) la c := K
  have V0 : TrIs (wr M 28 1 (some la)) 39 (tvOf (cn c) T) := V
  have Q0 : PlO (wr M 28 1 (some la)) pa D p := Q
  have S0 : SgIs (wr M 28 1 (some la)) 77 w := Sg
  have P0 : PsO (wr M 28 1 (some la)) (cn c) U := Ps
  have M0 : ∀ i, i < 4 → MkO (wr M 28 1 (some la)) D i (mk i) := Mk
  have h0 : mi (wr M 28 1 (some la)) (la + 7) 1 = nI (eD D) := hm
  have T2 : TapeIs M2 0 t := ⟨Nat.zero_le _, e25, fun k hk => absurd hk (Nat.not_lt_zero _)⟩
  have D2 := (H.wrr (x := 28) (y := 1) (v := some la)).fr F (fun k hk => nS _ (by omega))
  have I2 : ∀ pa' p', PlO M2 pa' D p' → ∀ M3 pb', mi M3 = mi M2 → mj M3 = mj M2 → DrIs M3 la D → Lay M3 la lb pa' pb' la → CIv M3 la lb pa' pb' la 0 t D c T U p' w mk := fun pa' p' hq M3 pb' e1 e2 d3 l3 => by
    have W2 := W0.fr F (nS _ (by omega))
    have K2 := K0'.fr F (fun k hk => nS _ (by omega))
    have V2 := V0.fr F (nS _ (by omega)) (nS _ (by omega))
    have S2 := S0.fr F (nS _ (by omega)) (nS _ (by omega)) (nS _ (by omega))
    have P2 := P0.fr F (fun b h1 h2 => nS _ (by omega))
    have M2' := fun i (hi : i < 4) => (M0 i hi).fr F (fun k hk => nS _ (by omega))
    have h2 : mi M2 (la + 7) 1 = nI (eD D) := by rw [F.i (nS _ (by omega))]; exact h0
    refine ⟨l3, ?_, ?_, d3, ?_, ?_, ?_, ?_, ?_, ?_, fun i hi => ?_⟩
    · unfold WdOk at W2 ⊢; rw [e2]; exact W2
    · unfold TapeIs at T2 ⊢; rw [e1]; exact T2
    · rw [e1]; exact h2
    · unfold CoIs at K2 ⊢; rw [e1]; exact K2
    · unfold TrIs at V2 ⊢; rw [e1]; exact V2
    · unfold PlO PlIs at hq ⊢; rw [e1]; exact hq
    · unfold SgIs at S2 ⊢; rw [e1]; exact S2
    · unfold PsO PsIs TrIs at P2 ⊢; rw [e1]; exact P2
    · have z := M2' i hi
      unfold MkO PlO PlIs TrIs SgIs at z ⊢; rw [e1]; exact z
  refine qX11_round_15 L2 rfl rfl (fun z => ?_) (fun z => ?_)
  · rcases rndT_gd (t := t) Tp.1 O1 with ⟨y, -⟩ | ⟨-, y, -⟩
    · refine ⟨_, rfl, L2.s rfl (by decide), RT.to (r_round L2 J2 O1 PO.1) (fun rv2 M3 q => ?_)⟩
      obtain ⟨e2, F2, J3⟩ := q
      rw [if_neg (by omega)] at J3
      exact ⟨e2, la, lb, pa, pb0, la, 0, t, D, c, T, U, p, w, mk, (I2 pa p (Q0.fr F (fun k hk => nS _ (by omega))) M2 pb0 rfl rfl D2 L2).fr F2 (fun b hb h z => by omega), J3, P⟩
    · exact absurd y z
  · rcases rndT_gd (t := t) Tp.1 O1 with ⟨-, y⟩ | ⟨y, -, po⟩
    · exact absurd z (y.nz Tp.1)
    · have L3 := L2.sp
      refine ⟨_, rfl, L3.s rfl (by decide), RT.to (r_round L3 J2.wrr.wrr O1 PO.1) (fun rv2 M3 q => ?_)⟩
      obtain ⟨e2, F2, J3⟩ := q
      rw [if_pos y] at J3
      exact ⟨e2, la, lb, pb0, pa, la, 0, t, D, c, T, U, _, w, mk, (I2 pb0 _ (hP y) (wr (wr M2 0 4 (some pb0)) 0 5 (some pa)) pa rfl rfl D2.wrr.wrr L3).fr F2 (fun b hb h z => by omega), J3, O1, C1, O, TO, UO, po, MO⟩
end PT
