/-! ===== the reference reads a law ===== -/
section RD2
variable {g : GG} {d : Nat} {B M : MM} {la lb pa pb0 rl n p b0 dp : Nat} {t : Nat → Nat} {out : List Int32} {P : Option Value → MM → Prop}
/-- where a part is wanted -/
theorem rd_wt (h : RX la lb pa pb0 rl n t b0 B M p p out) (h5 : dp ≤ 5) (hd : 2 ≤ d)
    (kNo : ¬ isPart (lexT n t p) → ∀ M2, FlX la lb pa pb0 rl b0 B M2 (fltC n t 1 p) → P (some (.int 0)) M2)
    (kDp : isPart (lexT n t p) → dp = 5 → ∀ M2, FlX la lb pa pb0 rl b0 B M2 (fltC n t 5 p) → P (some (.int 0)) M2)
    (kOp : dp < 5 → ∀ c x : Int32, (kIs (lexT n t p) 40 = true ∧ c = 28 ∧ x = 2) ∨ (kW (lexT n t p) 14 = true ∧ c = 30 ∧ x = 1) → ∀ M2, RX la lb pa pb0 rl n t b0 B M2 (nxT n t p) (nxT n t p) (out ++ [c]) → (∀ j, mi M2 142 j = (if j = dp + 1 then x else mi M 142 j) ∧ mi M2 143 j = if j = dp + 1 then 0 else mi M 143 j) → E0 g YX12_reads d 11 [(0, .ref 130), (1, .int (nI (dp + 1))), (2, .int 1)] [] M2 P)
    (kAt : dp < 5 → ∀ c : Int32, (kty (lexT n t p) = 2 ∧ c = nI (100 + knu (lexT n t p))) ∨ (¬ kty (lexT n t p) = 2 ∧ kfa (lexT n t p) ≠ 0 ∧ c = nI (kfa (lexT n t p))) → ∀ M2, RX la lb pa pb0 rl n t b0 B M2 (nxT n t p) (nxT n t p) (out ++ [c]) → SmR M M2 → E0 g YX12_reads d 11 [(0, .ref 130), (1, .int (nI (popD (mi M 142) dp))), (2, .int 0)] [] M2 P) :
    E0 g YX12_reads d 11 [(0, .ref 130), (1, .int (nI dp)), (2, .int 1)] [] M P := by
  have L := h.L
  have hf4 := kfa_le (K := lexT n t p)
  have t2 := h.H.ty lexT_ty 2 2 rfl (by omega)
  have f0 : nI (kfa (lexT n t p)) = 0 ↔ kfa (lexT n t p) = 0 := by rw [show (0 : Int32) = nI 0 from rfl]; exact nI_eq (by omega) (by decide)
  have fl : nI (kfa (lexT n t p)) ≤ 0 ↔ kfa (lexT n t p) = 0 := nI_le0 (by omega)
  have d5 : nI dp = 5 ↔ dp = 5 := by rw [show (5 : Int32) = nI 5 from rfl]; exact nI_eq (by omega) (by decide)
  have e1 : (nI dp + 1 : Int32).toNatClampNeg = dp + 1 := by rw [nI_1, nI_clamp (by omega)]
  have b0' : vp_nar .boolean 0 = 0 := by decide
  -- a part: at 65
  have part : isPart (lexT n t p) → E0 g YX12_reads d 65 [(0, .ref 130), (1, .int (nI dp)), (2, .int 1), (3, .int (nI (kfa (lexT n t p)))), (4, .int (b2i (kW (lexT n t p) 14))), (5, .int (b2i (kIs (lexT n t p) 40)))] [] M P := fun hp => by
    have hk : kty (lexT n t p) ≠ 0 := by
      rcases hp with z | z | z | z
      · omega
      · rw [kfa_ty z]; decide
      · exact kIs_nz z
      · exact kW_nz z
    have dn : ∀ a : ¬ nI dp = 5, dp < 5 := fun a => by have : ¬ dp = 5 := fun z => a (d5.mpr z); omega
    have opn : dp < 5 → ∀ (c x : Int32) (i4 : Int32), ((kIs (lexT n t p) 40 = true ∧ c = 28 ∧ x = 2) ∨ (kW (lexT n t p) 14 = true ∧ c = 30 ∧ x = 1)) → (i4 = 0 ↔ x = 2) → K0 g YX12_reads YX12_puts d 102 [.ref 130, .int c] [(0, .ref 130), (1, .int (nI dp)), (2, .int 1), (4, .int i4)] [] M P := fun hlt c x i4 hc hi => by
      have hv : vp_in (nI dp + 1) 7 := by rw [nI_1]; exact vi (by omega) (by decide)
      refine K0.pn h hk hd (fun M1 h1 s1 => ?_)
      have go : ∀ x', x = x' → K0 g YX12_reads YX12_nextToken d 176 [.ref 130] [(0, .ref 130), (1, .int (nI dp + 1)), (2, .int 1)] [] (wi (wi M1 142 (dp + 1) x') 143 (dp + 1) 0) P := fun x' hx => by
        subst hx
        refine K0.nt (h.w2 (h.w2 h1 (.inl rfl)) (.inr rfl)) hk hd (fun M2 h2 s2 => qX12_reads_176 ?_)
        rw [nI_1]
        refine kOp hlt c x hc M2 h2 (fun j => ⟨?_, ?_⟩)
        · rw [(s2 j).1, wi_at, if_neg (by omega), wi_at]
          by_cases e : j = dp + 1
          · rw [if_pos ⟨rfl, e⟩, if_pos e]
          · rw [if_neg (fun z => e z.2), if_neg e]; exact (s1 j).1
        · rw [(s2 j).2, wi_at]
          by_cases e : j = dp + 1
          · rw [if_pos ⟨rfl, e⟩, if_pos e]
          · rw [if_neg (fun z => e z.2), if_neg e, wi_at, if_neg (by omega)]; exact (s1 j).2
      have x12 : x = 1 ∨ x = 2 := by rcases hc with z | z; exact .inr z.2.2; exact .inl z.2.2
      refine qX12_reads_102 (M1 := wi M1 142 (dp + 1) 2) (M2 := wi (wi M1 142 (dp + 1) 2) 143 (dp + 1) 0) (M3 := wi M1 142 (dp + 1) 1) (M4 := wi (wi M1 142 (dp + 1) 1) 143 (dp + 1) 0) h1.L (by rw [e1]) (by rw [e1, b0']) (by rw [e1]) (by rw [e1, b0']) (fun _ => hv) (fun _ => hv) (fun _ => hv) (fun _ => hv) (fun z => go 2 (hi.mp z)) (fun z => go 1 ?_)
      rcases x12 with y | y
      · exact y
      · exact absurd (hi.mpr y) z
    have atm : dp < 5 → ∀ c : Int32, (kty (lexT n t p) = 2 ∧ c = nI (100 + knu (lexT n t p))) ∨ (¬ kty (lexT n t p) = 2 ∧ kfa (lexT n t p) ≠ 0 ∧ c = nI (kfa (lexT n t p))) → K0 g YX12_reads YX12_puts d 150 [.ref 130, .int c] [(0, .ref 130), (1, .int (nI dp))] [] M P := fun hlt c hc => by
      refine K0.pn h hk hd (fun M1 h1 s1 => qX12_reads_150 ?_)
      have key : ∀ k, k ≤ 5 → popD (mi M 142) k = popD (mi M 142) dp → E0 g YX12_reads d 152 [(0, .ref 130), (1, .int (nI k)), (2, .int 0)] [] M1 P := by
        intro k
        induction k with
        | zero =>
          intro _ hk0
          refine qX12_reads_152 h1.L (fun w => absurd (by decide) w) (fun _ => K0.nt h1 hk hd (fun M2 h2 s2 => qX12_reads_176 ?_)) (fun w => absurd (by decide) w) (fun w => absurd (by decide) w)
          have := kAt hlt c hc M2 h2 (s1.trans s2)
          rw [← hk0] at this
          exact this
        | succ k ih =>
          intro hk5 hk0
          have e2 : mi M1 142 (nI (k + 1)).toNatClampNeg = mi M 142 (k + 1) := by rw [nI_clamp (by omega)]; exact (s1 _).1
          have nl : ¬ nI (k + 1) ≤ 0 := by rw [nI_le0 (by omega)]; omega
          refine qX12_reads_152 h1.L (fun _ => vi (by omega) (by decide)) (fun w => absurd w nl) (fun _ w => K0.nt h1 hk hd (fun M2 h2 s2 => qX12_reads_176 ?_)) (fun _ w => ?_) <;> rw [e2] at w
          · have := kAt hlt c hc M2 h2 (s1.trans s2)
            rw [← hk0, popD, if_neg w] at this
            exact this
          · rw [popD, if_pos w] at hk0
            rw [nI_dec]
            exact ih (by omega) hk0
      exact key dp h5 rfl
    refine qX12_reads_65 L (fun a b e => absurd e b) (fun a b _ => opn (dn a) 30 1 _ (.inr ⟨b2i_n.mp b, rfl, rfl⟩) ⟨fun z => absurd z b, fun z => absurd z (by decide)⟩) (fun a b e f => ?_) (fun a b e f => ?_) (fun a b e f => opn (dn a) 28 2 _ (.inl ⟨b2i_n.mp e, rfl, rfl⟩) ⟨fun _ => rfl, fun _ => b⟩) (fun a b _ f => absurd b f) (fun a => K0.fl (k := 5) h (by omega) (fun M2 f2 => qX12_reads_75 (by decide) (kDp hp (d5.mp a) M2 f2)))
    · rw [b2i_z] at b e
      rw [fl] at f
      have h2 : kty (lexT n t p) = 2 := by
        rcases hp with z | z | z | z
        · exact z
        · exact absurd f z
        · rw [z] at e; exact absurd e (by decide)
        · rw [z] at b; exact absurd b (by decide)
      have en : (100 : Int32) + mi M 130 8 = nI (100 + knu (lexT n t p)) := by rw [h.H.2.2.2.2 h2]; exact nI_add 100 _
      rw [en]
      exact atm (dn a) _ (.inl ⟨h2, rfl⟩)
    · rw [fl] at f
      have : ¬ kty (lexT n t p) = 2 := by rw [kfa_ty f]; decide
      exact atm (dn a) _ (.inr ⟨this, f, rfl⟩)
  refine qX12_reads_11 L (fun z => absurd z (by decide)) (fun _ => K0.ans (d1 := d - 1) (by omega) (tX12_fact L h.H) (qX12_reads_19 L (K0.wd (i := 14) h (by omega) (by decide +kernel) (by omega) (qX12_reads_27 L (K0.sg (x := 40) h (by omega) (by omega) (qX12_reads_35 L (fun a => part ?_) (fun a b => part ?_) (fun a b e => part ?_) (fun a b e f => part ?_) (fun a b e f => ?_)))))))
  · exact .inr (.inl (fun z => a (f0.mpr z)))
  · exact .inr (.inr (.inr (b2i_n.mp b)))
  · exact .inr (.inr (.inl (b2i_n.mp e)))
  · exact .inl (t2.mp f)
  · rw [f0] at a
    rw [b2i_z] at b e
    refine K0.fl (k := 1) h (by omega) (fun M2 f2 => qX12_reads_64 (by decide) (kNo (fun z => ?_) M2 f2))
    rcases z with z | z | z | z
    · exact f (t2.mpr z)
    · exact z a
    · rw [z] at e; exact absurd e (by decide)
    · rw [z] at b; exact absurd b (by decide)
end RD2
/-! where reading ends -/
def NoP (K : TK) : Prop := ¬ kIs K 42 = true
def NoS (K : TK) : Prop := ¬ kIs K 42 = true ∧ ¬ kIs K 43 = true ∧ ¬ kIs K 45 = true
def NoE (K : TK) : Prop := NoS K ∧ ¬ kW K 15 = true ∧ ¬ kW K 16 = true
theorem pEx_end {n : Nat} {t : Nat → Nat} (f lvl dp p : Nat) (acc : PRs) (hl : lvl ≤ 7) (h : rst (pEx n t f lvl dp p acc) = 0) : (lvl = 1 ∨ lvl = 5 → NoP (lexT n t (rpo (pEx n t f lvl dp p acc)))) ∧ (lvl = 2 ∨ lvl = 3 → NoS (lexT n t (rpo (pEx n t f lvl dp p acc)))) ∧ (lvl = 4 → NoE (lexT n t (rpo (pEx n t f lvl dp p acc)))) ∧ (lvl = 6 → NoP (lexT n t p) → NoS (lexT n t (rpo (pEx n t f lvl dp p acc)))) ∧ (lvl = 7 → NoS (lexT n t p) → NoE (lexT n t (rpo (pEx n t f lvl dp p acc)))) := by
  refine pEx_ind (n := n) (t := t) (fun lvl dp p acc r => (lvl = 1 ∨ lvl = 5 → NoP (lexT n t (rpo r))) ∧ (lvl = 2 ∨ lvl = 3 → NoS (lexT n t (rpo r))) ∧ (lvl = 4 → NoE (lexT n t (rpo r))) ∧ (lvl = 6 → NoP (lexT n t p) → NoS (lexT n t (rpo r))) ∧ (lvl = 7 → NoS (lexT n t p) → NoE (lexT n t (rpo r)))) ?_ ?_ ?_ ?_ ?_ ?_ ?_ ?_ ?_ ?_ ?_ f lvl dp p acc hl h
  · intro dp p acc _ _; exact ⟨fun z => absurd z (by decide), fun z => absurd z (by decide), fun z => absurd z (by decide), fun z => absurd z (by decide), fun z => absurd z (by decide)⟩
  · intro dp p acc _ _; exact ⟨fun z => absurd z (by decide), fun z => absurd z (by decide), fun z => absurd z (by decide), fun z => absurd z (by decide), fun z => absurd z (by decide)⟩
  · intro dp p acc r _ _ _ _ _; exact ⟨fun z => absurd z (by decide), fun z => absurd z (by decide), fun z => absurd z (by decide), fun z => absurd z (by decide), fun z => absurd z (by decide)⟩
  · intro dp p acc r _ _ _ _; exact ⟨fun z => absurd z (by decide), fun z => absurd z (by decide), fun z => absurd z (by decide), fun z => absurd z (by decide), fun z => absurd z (by decide)⟩
  · intro dp p acc r r2 _ _ Q1 Q2
    exact ⟨fun _ => Q2.1 (.inr rfl), fun z => by omega, fun z => by omega, fun z => by omega, fun z => by omega⟩
  · intro dp p acc r r2 _ _ Q1 Q2
    exact ⟨fun z => by omega, fun _ => Q2.2.2.2.1 rfl (Q1.1 (.inl rfl)), fun z => by omega, fun z => by omega, fun z => by omega⟩
  · intro dp p acc r r2 _ _ Q1 Q2
    exact ⟨fun z => by omega, fun z => by omega, fun _ => Q2.2.2.2.2 rfl (Q1.2.1 (.inr rfl)), fun z => by omega, fun z => by omega⟩
  · intro dp p acc a _ Q1 _ _
    exact ⟨fun z => by omega, fun _ => Q1.2.1 (.inl rfl), fun z => by omega, fun z => by omega, fun z => by omega⟩
  · intro dp p acc a r c d hc _ _ Q1 Q2
    exact ⟨fun z => by omega, fun _ => Q2.2.1 (.inl rfl), fun z => by omega, fun z => by omega, fun z => by omega⟩
  · intro lvl dp p acc hc
    refine ⟨fun z => ?_, fun z => by omega, fun z => by omega, fun z q => ?_, fun z q => ?_⟩
    · rcases hc with ⟨_, b⟩ | ⟨a, _⟩ | ⟨a, _⟩
      · exact b
      · omega
      · omega
    · rcases hc with ⟨a, _⟩ | ⟨_, b⟩ | ⟨a, _⟩
      · omega
      · exact ⟨q, b.1, b.2⟩
      · omega
    · rcases hc with ⟨a, _⟩ | ⟨a, _⟩ | ⟨_, b⟩
      · omega
      · omega
      · exact ⟨q, b.1, b.2⟩
  · intro l1 l2 dp p acc r r2 c d hc _ _ Q1 Q2
    refine ⟨fun z => ?_, fun z => by omega, fun z => by omega, fun z _ => ?_, fun z _ => ?_⟩
    · exact Q2.1 (.inr (by omega))
    · exact Q2.2.2.2.1 z (Q1.1 (.inl (by omega)))
    · exact Q2.2.2.2.2 z (Q1.2.1 (.inr (by omega)))
