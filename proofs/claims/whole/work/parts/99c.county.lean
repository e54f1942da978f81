/-! ===== both: a county told ===== -/
section PCO
variable {g : GG} {M : MM}
theorem p_county (I : Inv M) : Pr g YX11_county YX12_county 60 [] M := by
  obtain ⟨la, lb, pa, pb0, rl, n, t, D, c, T, U, p, w, mk, I, J, P⟩ := I
  obtain ⟨L, W, Tp, H, hm, K, V, Q, Sg, Ps, Mk⟩ := id I
  obtain ⟨O1, C1, O, TO, UO, PO, MO⟩ := id P
  have hla : (la = 1 ∧ lb = 13) ∨ (la = 13 ∧ lb = 1) := L.2.2.2.1
  have hpa := L.pa_lt
  refine R0.of (by decide +kernel) (Nat.le_of_ble_eq_true rfl) rfl (qX11_county_0 L (K0.set (d1 := 59) (by omega) (tX7_readCounty L W Tp (a := lb) (by omega) (by omega)) ?_))
  rintro rv M2 ⟨rfl, e25, hD, F, L2⟩
  have nS : ∀ b, b ≠ 25 → b ≠ 28 → ¬ (lb ≤ b ∧ b ≤ lb + 9) → ¬ inW lb b := fun b h1 h2 h3 z => by
    rcases z with z | z | z
    · exact h1 z
    · exact h2 z
    · exact h3 z
  have J2 : RI M2 n t D c T U p w mk := J.wrr.fr F (fun b hb => nS b (by omega) (by omega) (by omega))
  have T2 : TapeIs M2 0 t := ⟨Nat.zero_le _, e25, fun k hk => absurd hk (Nat.not_lt_zero _)⟩
  have W0 : WdOk (wr M 28 1 (some lb)) := W
  have P0 : PsO (wr M 28 1 (some lb)) (cn c) U := Ps
  have W2 := W0.fr F (nS _ (by omega) (by omega) (by omega))
  have P2 := P0.fr F (fun b h1 h2 => nS _ (by omega) (by omega) (by omega))
  refine qX11_county_11 (b0_2_M2 := lb) L2 rfl rfl (Lay.sw L2).rla L2.clb.o (fun z => ?_) (fun z => ?_)
  · rcases ctyT_gd (t := t) Tp.1 with ⟨y, -⟩ | ⟨-, y, -⟩
    · have K0' : CoIs (wr M 28 1 (some lb)) la c := K
      have V0 : TrIs (wr M 28 1 (some lb)) 39 (tvOf (cn c) T) := V
      have Q0 : PlO (wr M 28 1 (some lb)) pa D p := Q
      have S0 : SgIs (wr M 28 1 (some lb)) 77 w := Sg
      have M0 : ∀ i, i < 4 → MkO (wr M 28 1 (some lb)) D i (mk i) := Mk
      have h0 : mi (wr M 28 1 (some lb)) (la + 7) 1 = nI (eD D) := hm
      have I2 : CIv M2 la lb pa pb0 lb 0 t D c T U p w mk := ⟨L2, W2, T2, H.wrr.fr F (fun k hk => nS _ (by omega) (by omega) (by omega)), by rw [F.i (nS _ (by omega) (by omega) (by omega))]; exact h0, K0'.fr F (fun k hk => nS _ (by omega) (by omega) (by omega)), V0.fr F (nS _ (by omega) (by omega) (by omega)) (nS _ (by omega) (by omega) (by omega)), Q0.fr F (fun k hk => nS _ (by omega) (by omega) (by omega)), S0.fr F (nS _ (by omega) (by omega) (by omega)) (nS _ (by omega) (by omega) (by omega)) (nS _ (by omega) (by omega) (by omega)), P2, fun i hi => (M0 i hi).fr F (fun k hk => nS _ (by omega) (by omega) (by omega))⟩
      refine qX11_county_45 ⟨_, rfl, L2.s rfl (by decide), RT.to (tX12_county (g := g) (d := 60) L2 J2.1 (by omega)) (fun rv2 M3 q => ?_)⟩
      obtain ⟨e2, L3, x1, x0, F3, q⟩ := q
      rcases q with ⟨-, R⟩ | ⟨y2, -⟩
      · exact ⟨e2, la, lb, pa, pb0, lb, 0, t, D, c, T, U, p, w, mk, I2.fr F3 (fun b hb h z => by omega), (J2.sc O.1 Sc.t0).tm O.1 O.2.1 O1.1 O1.2.1 R, P⟩
      · omega
    · exact absurd y z
  · rcases ctyT_gd (t := t) Tp.1 with ⟨-, y⟩ | ⟨y, ev, O2, hE⟩
    · exact absurd z (y.nz Tp.1)
    · obtain ⟨D2, hm2⟩ := hD y
      have L2s := Lay.sw L2
      have D2s := (D2.wrr (x := 0) (y := 2) (v := some lb)).wrr (x := 0) (y := 3) (v := some la)
      have J2s := (J2.wrr (x := 0) (y := 2) (v := some lb)).wrr (x := 0) (y := 3) (v := some la)
      have P2s : PsO (wr (wr M2 0 2 (some lb)) 0 3 (some la)) (cn c) U := P2
      have W2s : WdOk (wr (wr M2 0 2 (some lb)) 0 3 (some la)) := W2
      have T2s : TapeIs (wr (wr M2 0 2 (some lb)) 0 3 (some la)) 0 t := T2
      have m2s : mi (wr (wr M2 0 2 (some lb)) 0 3 (some la)) (lb + 7) 1 = nI (eD (ctyT n t).2.2.2) := hm2
      generalize hEE : (ctyT n t).2.2.2 = E at D2s O2 hE m2s
      generalize hMs : wr (wr M2 0 2 (some lb)) 0 3 (some la) = Ms at L2s D2s J2s P2s W2s T2s m2s ⊢
      refine K0.set (d1 := 59) (by omega) (tX0_judgeAll (a := lb) (n := dn E) (h := dh E) (F := lwF E) L2s.cla D2s.1 O2.1 D2s.2.1 O2.2.1 (fun hl hh => LwIs_D D2s O2 hE hh) (by omega)) ?_
      rintro rv M3 ⟨rfl, vd, F3⟩
      obtain ⟨o1, o2, o3, o4⟩ := id O2
      have L3 := F3.lay L2s
      have K3 : CoIs M3 lb ((dn E, dh E, mi Ms (lb + 2), mi Ms (lb + 3), mi Ms (lb + 4), mi Ms (lb + 6), mi M3 (lb + 11)) : CD) := ⟨by rw [F3.i (by omega)]; exact D2s.1, o1, by rw [F3.i (by omega)]; exact D2s.2.1, o2, F3.i (by omega), F3.i (by omega), F3.i (by omega), F3.i (by omega), rfl⟩
      have C3 : CofD ((dn E, dh E, mi Ms (lb + 2), mi Ms (lb + 3), mi Ms (lb + 4), mi Ms (lb + 6), mi M3 (lb + 11)) : CD) E := ⟨rfl, rfl, fun k hk => ⟨(D2s.2.2.1 k hk).2.1, (D2s.2.2.1 k hk).2.2.1, (D2s.2.2.1 k hk).2.2.2⟩, fun k hk => (D2s.2.2.2 k hk).2.1⟩
      have O3 : COk ((dn E, dh E, mi Ms (lb + 2), mi Ms (lb + 3), mi Ms (lb + 4), mi Ms (lb + 6), mi M3 (lb + 11)) : CD) (lwF E) := COk_D O2 C3 vd
      have D3 := D2s.fr F3 (fun k hk => by omega)
      generalize hc3 : ((dn E, dh E, mi Ms (lb + 2), mi Ms (lb + 3), mi Ms (lb + 4), mi Ms (lb + 6), mi M3 (lb + 11)) : CD) = c3 at K3 C3 O3
      obtain ⟨u, u1, u2, u3⟩ := P2s.fr F3 (fun b h1 h2 => by omega)
      obtain ⟨qv, q1, -, -⟩ := Q
      have J3 := J2s.fr F3 (fun b hb => by omega)
      have W3 := W2s.fr F3 (by omega)
      have T3 := T2s.fr F3 (by omega) (by omega)
      refine qX11_county_41 L3 (K0.set (d1 := 59) (by omega) (tX11_beginAnew (q := qv) (w := w) L3 K3 u1 (by omega)) ?_)
      rintro rv M4 ⟨rfl, V4, Q4, S4, U4, m4, F4⟩
      have nA : ∀ b, (b ≠ 39 ∧ b ≠ 40 ∧ b ≠ pa ∧ b ≠ pa + 1 ∧ b ≠ pa + 2 ∧ b ≠ pa + 3 ∧ b ≠ pa + 4 ∧ b ≠ 77 ∧ b ≠ 43 ∧ b ≠ 81 ∧ b ≠ 92 ∧ b ≠ 103 ∧ b ≠ 114) → ¬ inAn pa b := fun b hb z => by
        rcases z with z | z | (z | z | z | z | z) | z | z | z | z | z | z <;> omega
      have L4 := F4.lay L3
      have J4 := J3.fr F4 (fun b hb => nA b (by omega))
      have I4 : CIv M4 lb la pa pb0 lb 0 t E c3 T0 (0, fun _ => T0) pEmp (0, w.2) (fun _ => (false, T0, pEmp, w)) :=
        ⟨L4, W3.fr F4 (nA _ (by omega)), T3.fr F4 (nA _ (by omega)) (nA _ (by omega)), D3.fr F4 (fun k hk => nA _ (by omega)), by rw [F4.i (nA _ (by omega)), F3.i (by omega)]; exact m2s, K3.fr F4 (fun k hk => nA _ (by omega)), V4, PlO.none Q4, S4, ⟨_, U4, rfl, fun i hi => absurd hi (Nat.not_lt_zero _)⟩, fun i hi => ⟨m4 i hi, fun z => absurd (show false = true from z) (by decide)⟩⟩
      refine qX11_county_45 ⟨_, rfl, L4.s rfl (by decide), RT.to (tX12_county (g := g) (d := 60) L4 J4.1 (by omega)) (fun rv2 M5 q => ?_)⟩
      obtain ⟨e2, L5, x1, x0, F5, q⟩ := q
      rcases q with ⟨y2, -⟩ | ⟨-, R, S5, z1, z2, z3, z4⟩
      · omega
      · refine ⟨e2, lb, la, pa, pb0, lb, 0, t, E, c3, T0, (0, fun _ => T0), pEmp, (0, w.2), (fun _ => (false, T0, pEmp, w)), I4.fr F5 (fun b hb h z => by omega), ?_, O2, C3, O3, T0_ok c3, fun i hi => absurd hi (Nat.not_lt_zero _), pEmp_ok, fun i hi z => absurd (show false = true from z) (by decide)⟩
        rw [hEE] at R S5
        rw [← C3.1, ← C3.2.1] at S5
        exact ⟨⟨Nat.zero_le _, x1, fun k hk => absurd hk (Nat.not_lt_zero _)⟩, R.1, R.co C3, S5, ⟨Nat.zero_le _, z3, fun i hi => absurd hi (Nat.not_lt_zero _)⟩, ⟨z1, fun i hi => absurd hi (Nat.not_lt_zero _)⟩, ⟨Nat.zero_le _, z2, fun k hk => absurd hk (Nat.not_lt_zero _)⟩, fun i hi => ⟨z4 i hi, fun z => absurd (show false = true from z) (by decide)⟩⟩
end PCO
