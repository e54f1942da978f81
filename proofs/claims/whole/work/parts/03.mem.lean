/-! ===== the memory that the law's run makes, and worlds out of it =====
A memory: how many cells there are (all at B + 0, B + 1 ..), the shape of each (0, c): an object of class c of vwCl; (1, n) int[n]; (2, n) long[n]; (3, n) boolean[n]; (4, n) char[n]; (5, n) Mark[n]; (6, n) Travel[n]; then the ints, the longs and the references that they hold, by cell and place. -/
abbrev MM : Type := Nat × (Nat → Nat × Nat) × (Nat → Nat → Int32) × (Nat → Nat → Int64) × (Nat → Nat → Option Nat)
abbrev mn (M : MM) : Nat := M.1
abbrev mh (M : MM) : Nat → Nat × Nat := M.2.1
abbrev mi (M : MM) : Nat → Nat → Int32 := M.2.2.1
abbrev mj (M : MM) : Nat → Nat → Int64 := M.2.2.2.1
abbrev mr (M : MM) : Nat → Nat → Option Nat := M.2.2.2.2
def mu {α : Type} (f : Nat → Nat → α) (a k : Nat) (v : α) : Nat → Nat → α := fun b j => if b = a ∧ j = k then v else f b j
theorem mu_s {α : Type} (f : Nat → Nat → α) (a k : Nat) (v : α) : mu f a k v a k = v := if_pos ⟨rfl, rfl⟩
theorem mu_a {α : Type} (f : Nat → Nat → α) {a b : Nat} (k j : Nat) (v : α) (h : b ≠ a) : mu f a k v b j = f b j := if_neg fun q => h q.1
theorem mu_k {α : Type} (f : Nat → Nat → α) (a : Nat) {b k j : Nat} (v : α) (h : j ≠ k) : mu f a k v b j = f b j := if_neg fun q => h q.2
abbrev wi (M : MM) (a k : Nat) (v : Int32) : MM := (M.1, M.2.1, mu M.2.2.1 a k v, M.2.2.2.1, M.2.2.2.2)
abbrev wj (M : MM) (a k : Nat) (v : Int64) : MM := (M.1, M.2.1, M.2.2.1, mu M.2.2.2.1 a k v, M.2.2.2.2)
abbrev wr (M : MM) (a k : Nat) (v : Option Nat) : MM := (M.1, M.2.1, M.2.2.1, M.2.2.2.1, mu M.2.2.2.2 a k v)
/-- one cell more -/
def mw (M : MM) (sh : Nat × Nat) : MM := (M.1 + 1, fun a => if a = M.1 then sh else M.2.1 a, fun a k => if a = M.1 then 0 else M.2.2.1 a k, fun a k => if a = M.1 then 0 else M.2.2.2.1 a k, fun a k => if a = M.1 then none else M.2.2.2.2 a k)
/-- of which kind the fields of the classes are: 0 ints, 1 longs, 2 references -/
def mkd : FieldType → Nat
  | .int => 0
  | .boolean => 0
  | .char => 0
  | .long => 1
  | .object _ => 2
  | .array _ => 2
  | _ => 9
def mty (ci : Nat) : Nat → FieldType := match ci with
  | 0 => tyX0
  | 1 => tyX1
  | 2 => tyX2
  | 3 => tyX3
  | 4 => tyX4
  | 5 => tyX5
  | 6 => tyX6
  | 7 => tyX7
  | 8 => tyX8
  | 9 => tyX9
  | 10 => tyX10
  | 11 => tyX11
  | _ => tyX12
def mN (ci : Nat) : Nat := match ci with
  | 0 => 10
  | 1 => 1
  | 2 => 4
  | 3 => 4
  | 4 => 3
  | 5 => 5
  | 6 => 3
  | 7 => 3
  | 8 => 3
  | 9 => 10
  | 10 => 5
  | 11 => 14
  | _ => 58
abbrev mk (ci k : Nat) : Nat := mkd (mty ci k)
def mo (B : Nat) (r : Option Nat) : Option Nat := r.map (fun a => B + a)
def mfv (B : Nat) (M : MM) (a k kd : Nat) : Value := if kd = 0 then .int (mi M a k) else if kd = 1 then .long (mj M a k) else va_rf (mo B (mr M a k))
def mF (B : Nat) (M : MM) (ci a : Nat) : List Value := (List.range (mN ci)).map fun k => mfv B M a k (mk ci k)
def mE (B : Nat) (dA : Nat → ClassId) (M : MM) (a : Nat) : va_E :=
  if (mh M a).1 = 0 then .inr ((mh M a).2, mF B M (mh M a).2 a)
  else if (mh M a).1 = 2 then .inl (dA 2, (mh M a).2, .inr (.inl (mj M a)))
  else if 5 ≤ (mh M a).1 then .inl (dA (mh M a).1, (mh M a).2, .inr (.inr (.inr (.inr (fun k => mo B (mr M a k))))))
  else .inl (dA (mh M a).1, (mh M a).2, .inl (mi M a))
/-- the context: the launch, where the run's cells begin, the classes' numbers and slots, the array classes -/
abbrev GG : Type := Launch × Nat × va_G × (Nat → ClassId)
abbrev gB (g : GG) : Nat := g.2.1
def mW (g : GG) (M : MM) : va_W := (List.range (mn M)).map fun a => (gB g + a, mE (gB g) g.2.2.2 M a)
theorem mW_at (g : GG) (M : MM) {a : Nat} (h : a < mn M) : (mW g M)[a]? = some (gB g + a, mE (gB g) g.2.2.2 M a) := by
  simp [mW, h]
theorem mW_len (g : GG) (M : MM) : (mW g M).length = mn M := by simp [mW]
theorem mW_of {g : GG} {M : MM} {k : Nat} {q : Nat × va_E} (h : (mW g M)[k]? = some q) : k < mn M ∧ q = (gB g + k, mE (gB g) g.2.2.2 M k) := by
  have hk : k < mn M := by
    have := (List.getElem?_eq_some_iff.mp h).1
    rwa [mW_len] at this
  rw [mW_at g M hk] at h
  exact ⟨hk, (Option.some.inj h).symm⟩
theorem mD (g : GG) (M : MM) : va_D (fun q => gB g ≤ q) (mW g M) := by
  refine ⟨fun i j p q hi hj h => ?_, fun k q hk => ?_⟩
  · obtain ⟨-, rfl⟩ := mW_of hi
    obtain ⟨-, rfl⟩ := mW_of hj
    have h : gB g + i = gB g + j := h
    omega
  · obtain ⟨-, rfl⟩ := mW_of hk
    exact Nat.le_add_right _ _
theorem mW_set {g : GG} {M M' : MM} {a : Nat} {e : va_E} (h : a < mn M) (hn : mn M' = mn M) (he : mE (gB g) g.2.2.2 M' a = e) (ho : ∀ b, b ≠ a → mE (gB g) g.2.2.2 M' b = mE (gB g) g.2.2.2 M b) : (mW g M).set a (gB g + a, e) = mW g M' := by
  apply List.ext_getElem?
  intro k
  rw [List.getElem?_set]
  by_cases hk : k < mn M
  · rw [mW_at g M' (by rw [hn]; exact hk)]
    by_cases e2 : a = k
    · subst e2
      rw [if_pos rfl, if_pos (by rw [mW_len]; exact h), he]
    · rw [if_neg e2, mW_at g M hk, ho k (fun q => e2 q.symm)]
  · have h1 : (mW g M)[k]? = none := by rw [List.getElem?_eq_none]; rw [mW_len]; omega
    have h2 : (mW g M')[k]? = none := by rw [List.getElem?_eq_none]; rw [mW_len, hn]; omega
    rw [h2]
    by_cases e2 : a = k
    · omega
    · rw [if_neg e2, h1]
theorem mE_ob {B : Nat} {dA : Nat → ClassId} {M : MM} {a ci : Nat} (h : mh M a = (0, ci)) : mE B dA M a = .inr (ci, mF B M ci a) := by simp [mE, h]
theorem mE_i {B : Nat} {dA : Nat → ClassId} {M : MM} {a n : Nat} (h : mh M a = (1, n)) : mE B dA M a = .inl (dA 1, n, .inl (mi M a)) := by simp [mE, h]
theorem mE_j {B : Nat} {dA : Nat → ClassId} {M : MM} {a n : Nat} (h : mh M a = (2, n)) : mE B dA M a = .inl (dA 2, n, .inr (.inl (mj M a))) := by simp [mE, h]
theorem mE_z {B : Nat} {dA : Nat → ClassId} {M : MM} {a n : Nat} (h : mh M a = (3, n)) : mE B dA M a = .inl (dA 3, n, .inl (mi M a)) := by simp [mE, h]
theorem mE_c {B : Nat} {dA : Nat → ClassId} {M : MM} {a n : Nat} (h : mh M a = (4, n)) : mE B dA M a = .inl (dA 4, n, .inl (mi M a)) := by simp [mE, h]
theorem mE_q {B : Nat} {dA : Nat → ClassId} {M : MM} {a t n : Nat} (h : mh M a = (t, n)) (ht : 5 ≤ t) : mE B dA M a = .inl (dA t, n, .inr (.inr (.inr (.inr (fun k => mo B (mr M a k)))))) := by
  have h0 : ¬ t = 0 := by omega
  have h2 : ¬ t = 2 := by omega
  simp [mE, h, h0, h2, ht]
theorem mF_at {B : Nat} {M : MM} {ci a k : Nat} (h : k < mN ci) : (mF B M ci a)[k]? = some (mfv B M a k (mk ci k)) := by simp [mF, h]
theorem mF_len {B : Nat} {M : MM} {ci a : Nat} : (mF B M ci a).length = mN ci := by simp [mF]
theorem mF_set {B : Nat} {M M' : MM} {ci a k : Nat} {v : Value} (h : k < mN ci) (hv : mfv B M' a k (mk ci k) = v) (ho : ∀ j kd, j ≠ k → mfv B M' a j kd = mfv B M a j kd) : (mF B M ci a).set k v = mF B M' ci a := by
  apply List.ext_getElem?
  intro j
  rw [List.getElem?_set]
  by_cases hj : j < mN ci
  · rw [mF_at (M := M') hj]
    by_cases e2 : k = j
    · subst e2
      rw [if_pos rfl, if_pos (by rw [mF_len]; exact h), hv]
    · rw [if_neg e2, mF_at (M := M) hj, ho j _ (fun q => e2 q.symm)]
  · have h1 : (mF B M ci a)[j]? = none := by rw [List.getElem?_eq_none]; rw [mF_len]; omega
    have h2 : (mF B M' ci a)[j]? = none := by rw [List.getElem?_eq_none]; rw [mF_len]; omega
    rw [h2]
    by_cases e2 : k = j
    · omega
    · rw [if_neg e2, h1]
/-- what is at a cell depends on its shape and what it holds alone -/
theorem mE_same {B : Nat} {dA : Nat → ClassId} {M M' : MM} {a : Nat} (h : mh M' a = mh M a) (h1 : ∀ k, mi M' a k = mi M a k) (h2 : ∀ k, mj M' a k = mj M a k) (h3 : ∀ k, mr M' a k = mr M a k) : mE B dA M' a = mE B dA M a := by
  have e1 : mi M' a = mi M a := funext h1
  have e2 : mj M' a = mj M a := funext h2
  have e3 : mr M' a = mr M a := funext h3
  unfold mE mF mfv
  rw [h, e1, e2, e3]
theorem mE_wi {B : Nat} {dA : Nat → ClassId} {M : MM} {a b k : Nat} {v : Int32} (h : b ≠ a) : mE B dA (wi M a k v) b = mE B dA M b := mE_same rfl (fun j => mu_a _ k j v h) (fun _ => rfl) (fun _ => rfl)
theorem mE_wj {B : Nat} {dA : Nat → ClassId} {M : MM} {a b k : Nat} {v : Int64} (h : b ≠ a) : mE B dA (wj M a k v) b = mE B dA M b := mE_same rfl (fun _ => rfl) (fun j => mu_a _ k j v h) (fun _ => rfl)
theorem mE_wr {B : Nat} {dA : Nat → ClassId} {M : MM} {a b k : Nat} {v : Option Nat} (h : b ≠ a) : mE B dA (wr M a k v) b = mE B dA M b := mE_same rfl (fun _ => rfl) (fun _ => rfl) (fun j => mu_a _ k j v h)
theorem mu_upd (f : Nat → Nat → Int32) (a k : Nat) (v : Int32) : mu f a k v a = upd (f a) k v := by
  funext j
  by_cases h : j = k
  · simp [mu, upd, h]
  · simp [mu, upd, h]
theorem mu_updL (f : Nat → Nat → Int64) (a k : Nat) (v : Int64) : mu f a k v a = vp_updL (f a) k v := by
  funext j
  by_cases h : j = k
  · simp [mu, vp_updL, h]
  · simp [mu, vp_updL, h]
theorem mu_upq (B : Nat) (f : Nat → Nat → Option Nat) (a k : Nat) (v : Option Nat) : (fun j => mo B (mu f a k v a j)) = va_up (fun j => mo B (f a j)) k (mo B v) := by
  funext j
  by_cases h : j = k
  · simp [mu, va_up, h]
  · simp [mu, va_up, h]
/-- values: a reference is a number of a cell -/
def xv (B : Nat) : Value → Value
  | .ref a => .ref (B + a)
  | v => v
theorem xv_cat (B : Nat) (v : Value) : (xv B v).category = v.category := by cases v <;> rfl
theorem xv_rf (B : Nat) (r : Option Nat) : va_rf (mo B r) = xv B (va_rf r) := by cases r <;> rfl
abbrev xst (g : GG) (st : List Value) : List Value := st.map (xv (gB g))
abbrev xlv (g : GG) (lv : List (Nat × Value)) : List (Nat × Value) := lv.map fun q => (q.1, xv (gB g) q.2)
theorem xlv_at {g : GG} {lv : List (Nat × Value)} {q i : Nat} {v : Value} (h : lv[q]? = some (i, v)) : (xlv g lv)[q]? = some (i, xv (gB g) v) := by simp [xlv, h]
theorem xlv_f (g : GG) (F : Nat → Nat → Bool) (lv : List (Nat × Value)) : (xlv g lv).filter (fun q => F q.1 q.2.category) = xlv g (lv.filter (fun q => F q.1 q.2.category)) := by
  induction lv with
  | nil => rfl
  | cons a l ih =>
    simp only [xlv, List.map_cons, List.filter_cons, xv_cat] at ih ⊢
    rw [ih]
    split <;> rfl
def xs1 (lv : List (Nat × Value)) (i : Nat) (v : Value) : List (Nat × Value) := (i, v) :: lv.filter (fun q => !(q.1 == i) && !(q.1 + 1 == i && q.2.category == 2))
def xs2 (lv : List (Nat × Value)) (i : Nat) (v : Value) : List (Nat × Value) := (i, v) :: lv.filter (fun q => !(q.1 == i) && (!(q.1 == i + 1) && !(q.1 + 1 == i && q.2.category == 2)))
theorem xs1_m (g : GG) (lv : List (Nat × Value)) (i : Nat) (v : Value) : (i, xv (gB g) v) :: (xlv g lv).filter (fun q => !(q.1 == i) && !(q.1 + 1 == i && q.2.category == 2)) = xlv g (xs1 lv i v) := by
  have h := xlv_f g (fun a b => !(a == i) && !(a + 1 == i && b == 2)) lv
  unfold xs1
  rw [h]
  rfl
theorem xs2_m (g : GG) (lv : List (Nat × Value)) (i : Nat) (v : Value) : (i, xv (gB g) v) :: (xlv g lv).filter (fun q => !(q.1 == i) && (!(q.1 == i + 1) && !(q.1 + 1 == i && q.2.category == 2))) = xlv g (xs2 lv i v) := by
  have h := xlv_f g (fun a b => !(a == i) && (!(a == i + 1) && !(a + 1 == i && b == 2))) lv
  unfold xs2
  rw [h]
  rfl
/-! ===== the words that every method rests on ===== -/
def gw : List Cond := lw_tbl.filter goodWord
theorem gw_good {w : Cond} (h : w ∈ gw) : (w.onTables && w.keeps) = true ∨ ∃ ty, w = .arrayClass ty := good_of_word (List.mem_filter.mp h).2
theorem gw_in {w : Cond} (h : w ∈ gw) : w ∈ lw_tbl := (List.mem_filter.mp h).1
theorem gw_of {w : Cond} (i : Nat) (h : tables_1[i]? = some w) (hg : goodWord w = true) : w ∈ gw := List.mem_filter.mpr ⟨List.mem_append_right _ (List.mem_of_getElem? h), hg⟩
theorem gw_sel {q : MethodName × Nat} (i : Nat) (h : lw_privs[i]? = some q) (hg : goodWord (Cond.selects q.1.cls q.1 q.1) = true) : Cond.selects q.1.cls q.1 q.1 ∈ gw := List.mem_filter.mpr ⟨List.mem_append_left _ (List.mem_map.mpr ⟨q, List.mem_of_getElem? h, rfl⟩), hg⟩
theorem gw_GoodIn {w : Cond} (h : w ∈ gw) : GoodIn gw (w :: gw) := fun v hv => by
  rcases List.mem_cons.mp hv with rfl | q
  · exact ⟨h, gw_good h⟩
  · exact ⟨q, gw_good q⟩
