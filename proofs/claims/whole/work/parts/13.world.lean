/-! 13 a world by its state: every cell is an object of a class, or an array that is a field of an object; references never change (all of them are final), numbers and the contents of arrays do -/
/-- the fields of a class, in their order: is it a reference? -/
def ftg : Nat → List Bool
  | 0 => [true, true, true, true, true, true, true, false, false]
  | 1 => [true, false]
  | 2 => [true, true, true, false]
  | 3 => [true, false]
  | 4 => [true, true, true, true, false, false, false, false, false]
  | 5 => [true, false]
  | 6 => [true, true, true, true]
  | 7 => [true, true, true, true, true]
  | 8 => [true, true, true, true, false]
  | 9 => [true, true, false]
  | 10 => [true, true, true, true, false, false, false, false]
  | 11 => [false, true, false, true, false, true, true, true, true, true, false, true, true, true, true, true, true, true, true, true, true, true, true, false, true, true, true, true, true, false, false, true, true, true, false, true, true, true, true, true, true, true, true, false, false, false, false, true]
  | _ => []
/-- the layout: what an address is (tag, class, field, owner): tag 1 an object, 2 an array of numbers, 3 an array of references; the references; the lengths; the types of arrays -/
abbrev yL : Type := (Nat → Nat × Nat × Nat × Nat) × (Nat → Nat → Nat → Nat) × (Nat → Nat) × (Nat → Nat)
/-- the state: the numbers in the fields, in the arrays, the references in the arrays -/
abbrev yS : Type := (Nat → Nat → Nat → Int32) × (Nat → Nat → Nat → Nat → Int32) × (Nat → Nat → Nat → Nat → Option Nat)
abbrev yI (S : yS) : Nat → Nat → Nat → Int32 := S.1
abbrev yA (S : yS) : Nat → Nat → Nat → Nat → Int32 := S.2.1
abbrev yR (S : yS) : Nat → Nat → Nat → Nat → Option Nat := S.2.2
def yfs (Λ : yL) (S : yS) (ci a : Nat) : List Value := (ftg ci).mapIdx (fun j b => if b then .ref (Λ.2.1 ci j a) else .int (yI S ci j a))
def yH (Λ : yL) (f0 : xH) (S : yS) : xH := fun a => match Λ.1 a with
  | (1, ci, _, _) => some (xO ci (yfs Λ S ci a))
  | (2, ci, j, o) => some (xI (Λ.2.2.2 a) (Λ.2.2.1 a) (yA S ci j o))
  | (3, ci, j, o) => some (xR (Λ.2.2.2 a) (Λ.2.2.1 a) (yR S ci j o))
  | _ => f0 a
/-- an object of a class -/
def yo (Λ : yL) (a ci : Nat) : Prop := ∃ x y, Λ.1 a = (1, ci, x, y)
/-- the array of numbers that is field j of the object o: its type, its length -/
def yn (Λ : yL) (r ci j o t n : Nat) : Prop := Λ.1 r = (2, ci, j, o) ∧ Λ.2.2.2 r = t ∧ Λ.2.2.1 r = n
def yr (Λ : yL) (r ci j o t n : Nat) : Prop := Λ.1 r = (3, ci, j, o) ∧ Λ.2.2.2 r = t ∧ Λ.2.2.1 r = n
-- changes
def ywI (S : yS) (ci j a : Nat) (v : Int32) : yS := (fun c k b => if c = ci ∧ k = j ∧ b = a then v else yI S c k b, S.2)
def ywA (S : yS) (ci j o : Nat) (g : Nat → Int32) : yS := (S.1, fun c k b => if c = ci ∧ k = j ∧ b = o then g else yA S c k b, S.2.2)
def ywR (S : yS) (ci j o : Nat) (g : Nat → Option Nat) : yS := (S.1, S.2.1, fun c k b => if c = ci ∧ k = j ∧ b = o then g else yR S c k b)
section
variable {Λ : yL} {f0 : xH} {S : yS}
theorem yH_o {a ci : Nat} (h : yo Λ a ci) : yH Λ f0 S a = some (xO ci (yfs Λ S ci a)) := by
  obtain ⟨x, y, h⟩ := h
  unfold yH
  rw [h]
  rfl
theorem yH_n {r ci j o t n : Nat} (h : yn Λ r ci j o t n) : yH Λ f0 S r = some (xI t n (yA S ci j o)) := by
  unfold yH
  rw [h.1, h.2.1, h.2.2]
  rfl
theorem yH_r {r ci j o t n : Nat} (h : yr Λ r ci j o t n) : yH Λ f0 S r = some (xR t n (yR S ci j o)) := by
  unfold yH
  rw [h.1, h.2.1, h.2.2]
  rfl
theorem yex {a ci : Nat} (h : yo Λ a ci) : ∃ fs, yH Λ f0 S a = some (xO ci fs) := ⟨_, yH_o h⟩
theorem yfs_i {ci j a : Nat} (h : (ftg ci)[j]? = some false) : (yfs Λ S ci a)[j]? = some (.int (yI S ci j a)) := by
  simp [yfs, h]
theorem yfs_r {ci j a : Nat} (h : (ftg ci)[j]? = some true) : (yfs Λ S ci a)[j]? = some (.ref (Λ.2.1 ci j a)) := by
  simp [yfs, h]
theorem ygi {a ci j : Nat} {K : Int32 → Prop} (h : yo Λ a ci) (hj : (ftg ci)[j]? = some false) (q : K (yI S ci j a)) : xgi (yH Λ f0 S) a ci j K := by
  unfold xgi
  rw [yH_o h]
  dsimp only
  rw [yfs_i hj]
  exact ⟨rfl, q⟩
theorem ygr {a ci j : Nat} {K : Nat → Prop} (h : yo Λ a ci) (hj : (ftg ci)[j]? = some true) (q : K (Λ.2.1 ci j a)) : xgr (yH Λ f0 S) a ci j K := by
  unfold xgr
  rw [yH_o h]
  dsimp only
  rw [yfs_r hj]
  exact ⟨rfl, q⟩
theorem yH_wI {a ci j : Nat} {v : Int32} (h : yo Λ a ci) (hj : (ftg ci)[j]? = some false) : xup (yH Λ f0 S) a (xO ci ((yfs Λ S ci a).set j (.int v))) = yH Λ f0 (ywI S ci j a v) := by
  funext b
  by_cases hb : b = a
  · subst hb
    rw [xup_s, yH_o h]
    refine congrArg some (congrArg (xO ci) ?_)
    apply List.ext_getElem?
    intro i
    rw [List.getElem?_set]
    have hl : j < (yfs Λ S ci b).length := by
      have := yfs_i (Λ := Λ) (S := S) (a := b) hj
      exact (List.getElem?_eq_some_iff.mp this).1
    by_cases hi : j = i
    · subst hi
      rw [if_pos rfl, if_pos hl, yfs_i hj]
      simp [ywI, yI]
    · rw [if_neg hi]
      simp only [yfs, List.getElem?_mapIdx]
      cases (ftg ci)[i]? with
      | none => rfl
      | some w =>
        cases w
        · simp [ywI, yI, show ¬ i = j from fun q => hi q.symm]
        · rfl
  · rw [xup_n _ _ hb]
    unfold yH
    split
    · next c x y hc =>
      refine congrArg some (congrArg (xO c) ?_)
      unfold yfs
      apply List.ext_getElem?
      intro i
      simp only [List.getElem?_mapIdx]
      cases (ftg c)[i]? with
      | none => rfl
      | some w =>
        cases w
        · simp [ywI, yI, hb]
        · rfl
    · rfl
    · rfl
    · rfl
theorem ypf {a ci j : Nat} {v : Int32} {K : xH → Prop} (h : yo Λ a ci) (hj : (ftg ci)[j]? = some false) (q : K (yH Λ f0 (ywI S ci j a v))) : xpf (yH Λ f0 S) a ci j (.int v) K := by
  unfold xpf
  rw [yH_o h]
  dsimp only
  refine ⟨rfl, ?_, ?_⟩
  · have := yfs_i (Λ := Λ) (S := S) (a := a) hj
    exact (List.getElem?_eq_some_iff.mp this).1
  · rw [yH_wI h hj]; exact q
theorem yal {r ci j o t n : Nat} {i : Int32} {K : Int32 → Prop} (h : yn Λ r ci j o t n) (hi : vp_in i n) (q : K (yA S ci j o i.toNatClampNeg)) : xal (yH Λ f0 S) r t i K := by
  unfold xal
  rw [yH_n h]
  exact ⟨rfl, hi, q⟩
theorem yH_wA {r ci j o t n : Nat} {g : Nat → Int32} (h : yn Λ r ci j o t n) (hu : ∀ r', Λ.1 r' = Λ.1 r → r' = r) : xup (yH Λ f0 S) r (xI t n g) = yH Λ f0 (ywA S ci j o g) := by
  funext b
  by_cases hb : b = r
  · subst hb
    rw [xup_s, yH_n h]
    simp [ywA, yA]
  · rw [xup_n _ _ hb]
    unfold yH
    split
    · rfl
    · next c k p hc =>
      have hne : ¬ (c = ci ∧ k = j ∧ p = o) := by
        rintro ⟨rfl, rfl, rfl⟩
        exact hb (hu b (by rw [hc, h.1]))
      simp [ywA, yA, hne]
    · rfl
    · rfl
theorem yas {r ci j o t n : Nat} {i x : Int32} {K : xH → Prop} (h : yn Λ r ci j o t n) (hu : ∀ r', Λ.1 r' = Λ.1 r → r' = r) (hi : vp_in i n) (q : K (yH Λ f0 (ywA S ci j o (upd (yA S ci j o) i.toNatClampNeg x)))) : xas (yH Λ f0 S) r t i x K := by
  unfold xas
  rw [yH_n h]
  dsimp only
  refine ⟨rfl, hi, ?_⟩
  rw [yH_wA h hu]; exact q
theorem yrl {r ci j o t n : Nat} {i : Int32} {K : Nat → Prop} (q0 : Nat) (h : yr Λ r ci j o t n) (hi : vp_in i n) (hq : yR S ci j o i.toNatClampNeg = some q0) (q : K q0) : xrl (yH Λ f0 S) r t i K := by
  unfold xrl
  rw [yH_r h]
  dsimp only
  rw [hq]
  exact ⟨rfl, hi, q⟩
theorem yH_wR {r ci j o t n : Nat} {g : Nat → Option Nat} (h : yr Λ r ci j o t n) (hu : ∀ r', Λ.1 r' = Λ.1 r → r' = r) : xup (yH Λ f0 S) r (xR t n g) = yH Λ f0 (ywR S ci j o g) := by
  funext b
  by_cases hb : b = r
  · subst hb
    rw [xup_s, yH_r h]
    simp [ywR, yR]
  · rw [xup_n _ _ hb]
    unfold yH
    split
    · rfl
    · rfl
    · next c k p hc =>
      have hne : ¬ (c = ci ∧ k = j ∧ p = o) := by
        rintro ⟨rfl, rfl, rfl⟩
        exact hb (hu b (by rw [hc, h.1]))
      simp [ywR, yR, hne]
    · rfl
theorem yrs {r ci j o t n cv v : Nat} {i : Int32} {K : xH → Prop} (h : yr Λ r ci j o t n) (hu : ∀ r', Λ.1 r' = Λ.1 r → r' = r) (hi : vp_in i n) (hv : yo Λ v cv) (q : K (yH Λ f0 (ywR S ci j o (va_up (yR S ci j o) i.toNatClampNeg (some v))))) : xrs (yH Λ f0 S) r t cv i v K := by
  unfold xrs
  rw [yH_r h]
  dsimp only
  refine ⟨rfl, hi, yex hv, ?_⟩
  rw [yH_wR h hu]; exact q
theorem yle {r ci j o t n : Nat} {K : Int32 → Prop} (h : yn Λ r ci j o t n) (q : K (Int32.ofNat n)) : xle (yH Λ f0 S) r t K := by
  unfold xle
  rw [yH_n h]
  exact ⟨rfl, q⟩
end
