/-! ===== what a method changes: nothing but the cells of S ===== -/
def Fr (S : Nat → Prop) (M M1 : MM) : Prop := mn M1 = mn M ∧ mh M1 = mh M ∧ mr M1 = mr M ∧ ∀ b, ¬ S b → mi M1 b = mi M b ∧ mj M1 b = mj M b
theorem Fr.rf {S : Nat → Prop} {M : MM} : Fr S M M := ⟨rfl, rfl, rfl, fun _ _ => ⟨rfl, rfl⟩⟩
theorem Fr.trans {S : Nat → Prop} {M M1 M2 : MM} (h : Fr S M M1) (h2 : Fr S M1 M2) : Fr S M M2 := ⟨h2.1.trans h.1, h2.2.1.trans h.2.1, h2.2.2.1.trans h.2.2.1, fun b hb => ⟨(h2.2.2.2 b hb).1.trans (h.2.2.2 b hb).1, (h2.2.2.2 b hb).2.trans (h.2.2.2 b hb).2⟩⟩
theorem Fr.mono {S S2 : Nat → Prop} {M M1 : MM} (h : Fr S M M1) (hs : ∀ b, S b → S2 b) : Fr S2 M M1 := ⟨h.1, h.2.1, h.2.2.1, fun b hb => h.2.2.2 b (fun q => hb (hs b q))⟩
theorem Fr.i {S : Nat → Prop} {M M1 : MM} (h : Fr S M M1) {b : Nat} (hb : ¬ S b) : mi M1 b = mi M b := (h.2.2.2 b hb).1
theorem Fr.j {S : Nat → Prop} {M M1 : MM} (h : Fr S M M1) {b : Nat} (hb : ¬ S b) : mj M1 b = mj M b := (h.2.2.2 b hb).2
theorem Fr.wi {S : Nat → Prop} {M M1 : MM} (h : Fr S M M1) {a k : Nat} {v : Int32} (ha : S a) : Fr S M (wi M1 a k v) :=
  ⟨h.1, h.2.1, h.2.2.1, fun b hb => ⟨by rw [← (h.2.2.2 b hb).1]; funext j; exact mu_a _ k j v (fun e => hb (by rw [e]; exact ha)), (h.2.2.2 b hb).2⟩⟩
theorem Fr.wj {S : Nat → Prop} {M M1 : MM} (h : Fr S M M1) {a k : Nat} {v : Int64} (ha : S a) : Fr S M (wj M1 a k v) :=
  ⟨h.1, h.2.1, h.2.2.1, fun b hb => ⟨(h.2.2.2 b hb).1, by rw [← (h.2.2.2 b hb).2]; funext j; exact mu_a _ k j v (fun e => hb (by rw [e]; exact ha))⟩⟩
theorem wi_at (M : MM) (a k : Nat) (v : Int32) (b j : Nat) : mi (wi M a k v) b j = if b = a ∧ j = k then v else mi M b j := rfl
theorem wj_at (M : MM) (a k : Nat) (v : Int64) (b j : Nat) : mj (wj M a k v) b j = if b = a ∧ j = k then v else mj M b j := rfl
theorem wi_j (M : MM) (a k : Nat) (v : Int32) : mj (wi M a k v) = mj M := rfl
theorem wj_i (M : MM) (a k : Nat) (v : Int64) : mi (wj M a k v) = mi M := rfl
theorem Fr.lws {S : Nat → Prop} {M M1 : MM} (h : Fr S M M1) {a : Nat} (C : Lws M a) : Lws M1 a := by
  simp only [Lws, ob, ar, h.1, h.2.1, h.2.2.1] at C ⊢; exact C
theorem Fr.pln {S : Nat → Prop} {M M1 : MM} (h : Fr S M M1) {a : Nat} (C : Pln M a) : Pln M1 a := by
  simp only [Pln, ob, ar, h.1, h.2.1, h.2.2.1] at C ⊢; exact C
theorem Fr.trv {S : Nat → Prop} {M M1 : MM} (h : Fr S M M1) {a : Nat} (C : Trv M a) : Trv M1 a := by
  simp only [Trv, ob, ar, h.1, h.2.1, h.2.2.1] at C ⊢; exact C
theorem Fr.sgt {S : Nat → Prop} {M M1 : MM} (h : Fr S M M1) {a : Nat} (C : Sgt M a) : Sgt M1 a := by
  simp only [Sgt, ob, ar, h.1, h.2.1, h.2.2.1] at C ⊢; exact C
theorem Fr.cty {S : Nat → Prop} {M M1 : MM} (h : Fr S M M1) {a : Nat} (C : Cty M a) : Cty M1 a := by
  simp only [Cty, Lws, ob, ar, h.1, h.2.1, h.2.2.1] at C ⊢; exact C
theorem Fr.mrk {S : Nat → Prop} {M M1 : MM} (h : Fr S M M1) {a : Nat} (C : Mrk M a) : Mrk M1 a := by
  simp only [Mrk, Trv, Pln, Sgt, ob, ar, h.1, h.2.1, h.2.2.1] at C ⊢; exact C
theorem Fr.lay {S : Nat → Prop} {M M1 : MM} {la lb pa pb rl : Nat} (h : Fr S M M1) (L : Lay M la lb pa pb rl) : Lay M1 la lb pa pb rl := L.to h.1 h.2.1 h.2.2.1
theorem nb {b : Bool} : narrow .boolean (.int (b2i b)) = .int (b2i b) ∧ fits .boolean (.int (b2i b)) = true := by cases b <;> decide
theorem nar_b {b : Bool} : vp_nar .boolean (b2i b) = b2i b := by cases b <;> decide
/-- numbers against a literal -/
theorem gel {c : Int32} (n : Nat) (hc : c = nI n) {k : Nat} (hn : n < 2 ^ 31) (hk : k < 2 ^ 31) : c ≤ nI k ↔ n ≤ k := by rw [hc]; exact nI_leI hn hk
theorem ltl {c : Int32} (n : Nat) (hc : c = nI n) {k : Nat} (hn : n < 2 ^ 31) (hk : k < 2 ^ 31) : nI k < c ↔ k < n := by rw [hc]; exact nI_ltI hk hn
theorem ngl {c : Int32} (n : Nat) (hc : c = nI n) {k : Nat} (hn : n < 2 ^ 31) (hk : k < n) : ¬ c ≤ nI k := by rw [gel n hc hn (by omega)]; omega
