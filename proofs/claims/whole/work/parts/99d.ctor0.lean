/-! ===== what constructors make ===== -/
/-- an array, laid into field k of a; an object of class ci, made by f, laid into field k of a -/
def bd1 (t n a k : Nat) (M : MM) : MM := wr (mw M (t, n)) a k (some (mn M))
def bdo (ci a k : Nat) (f : Nat → MM → MM) (M : MM) : MM := wr (f (mn M) (mw M (0, ci))) a k (some (mn M))
/-- cells keep their shapes -/
def GrF (f : Nat → MM → MM) : Prop := ∀ (a : Nat) (M : MM) (x : Nat) (s : Nat × Nat), x < mn M ∧ mh M x = s → x < mn (f a M) ∧ mh (f a M) x = s
/-- only the object itself, and new cells, get references -/
def RkF (f : Nat → MM → MM) : Prop := ∀ (a : Nat) (M : MM) (x j : Nat), x < mn M → x ≠ a → mr (f a M) x j = mr M x j
def Zi (M : MM) : Prop := ∀ b j, mi M b j = 0
def ZiF (f : Nat → MM → MM) : Prop := ∀ (a : Nat) (M : MM), Zi M → Zi (f a M)
section CT0
variable {g : GG} {Y : YY} {d mc ms ce sl pc : Nat} {lv : List (Nat × Value)} {st : List Value} {M : MM} {P : Option Value → MM → Prop} {f : Nat → MM → MM}
theorem obw {x : Nat} {s sh : Nat × Nat} (h : x < mn M ∧ mh M x = s) : x < mn (mw M sh) ∧ mh (mw M sh) x = s := ⟨Nat.lt_succ_of_lt h.1, (if_neg (Nat.ne_of_lt h.1)).trans h.2⟩
theorem obn {sh : Nat × Nat} : mn M < mn (mw M sh) ∧ mh (mw M sh) (mn M) = sh := ⟨Nat.lt_succ_self _, if_pos rfl⟩
theorem obd {x t n a k : Nat} {s : Nat × Nat} (h : x < mn M ∧ mh M x = s) : x < mn (bd1 t n a k M) ∧ mh (bd1 t n a k M) x = s := obw h
theorem obo {x ci a k : Nat} {s : Nat × Nat} (hf : GrF f) (h : x < mn M ∧ mh M x = s) : x < mn (bdo ci a k f M) ∧ mh (bdo ci a k f M) x = s := hf _ _ _ _ (obw h)
theorem bd1_lt {x t n a k : Nat} (h : x < mn M) : x < mn (bd1 t n a k M) := Nat.lt_succ_of_lt h
theorem bdo_lt {x ci a k : Nat} (hf : GrF f) (h : x < mn M) : x < mn (bdo ci a k f M) := (obo (s := mh M x) hf ⟨h, rfl⟩).1
theorem bd1_r {x j t n a k : Nat} (h : x < mn M) (hn : ¬ (x = a ∧ j = k)) : mr (bd1 t n a k M) x j = mr M x j := by
  show (if x = a ∧ j = k then _ else (if x = mn M then none else mr M x j)) = _
  rw [if_neg hn, if_neg (Nat.ne_of_lt h)]
theorem bd1_s {t n a k : Nat} : mr (bd1 t n a k M) a k = some (mn M) := if_pos ⟨rfl, rfl⟩
theorem bdo_r {x j ci a k : Nat} (hf : GrF f) (hk : RkF f) (h : x < mn M) (hn : ¬ (x = a ∧ j = k)) : mr (bdo ci a k f M) x j = mr M x j := by
  show (if x = a ∧ j = k then _ else mr (f (mn M) (mw M (0, ci))) x j) = _
  rw [if_neg hn, hk _ _ _ _ (Nat.lt_succ_of_lt h) (Nat.ne_of_lt h)]
  exact if_neg (Nat.ne_of_lt h)
theorem bdo_s {ci a k : Nat} : mr (bdo ci a k f M) a k = some (mn M) := if_pos ⟨rfl, rfl⟩
theorem mw_z {sh : Nat × Nat} (h : Zi M) : Zi (mw M sh) := fun b j => by
  show (if b = mn M then 0 else mi M b j) = 0
  rw [h b j, ite_self]
theorem bd1_z {t n a k : Nat} (h : Zi M) : Zi (bd1 t n a k M) := mw_z (sh := (t, n)) h
theorem bdo_z {ci a k : Nat} (hf : ZiF f) (h : Zi M) : Zi (bdo ci a k f M) := hf _ _ (mw_z (sh := (0, ci)) h)
theorem x_putA {idx ci k a t n : Nat} {ty : FieldType} {fin : Bool} (F : FD (yN Y).cls idx ci k ty fin) (hk : mkd ty = 2) (hf : fin = false ∨ (vwCl[ci]?.map (fun r => r.1) = some (yN Y).cls ∧ (yN Y).name = "<init>")) (hd : decode (yC Y) pc = .ok (.putfield idx, 3)) (h : ob M a ci) (k1 : EX g Y d mc ms ce sl (pc + 3) lv st (bd1 t n a k M) P) : EX g Y d mc ms ce sl pc lv (.ref (mn M) :: .ref a :: st) (mw M (t, n)) P :=
  x_putR F hk hf hd (obw h).1 (obw h).2 k1
theorem x_putO {idx ci k a c2 : Nat} {ty : FieldType} {fin : Bool} (hg : GrF f) (F : FD (yN Y).cls idx ci k ty fin) (hk : mkd ty = 2) (hf : fin = false ∨ (vwCl[ci]?.map (fun r => r.1) = some (yN Y).cls ∧ (yN Y).name = "<init>")) (hd : decode (yC Y) pc = .ok (.putfield idx, 3)) (h : ob M a ci) (k1 : EX g Y d mc ms ce sl (pc + 3) lv st (bdo c2 a k f M) P) : EX g Y d mc ms ce sl pc lv (.ref (mn M) :: .ref a :: st) (f (mn M) (mw M (0, c2))) P :=
  x_putR F hk hf hd (hg _ _ _ _ (obw h)).1 (hg _ _ _ _ (obw h)).2 k1
end CT0
