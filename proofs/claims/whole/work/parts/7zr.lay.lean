/-! 7zr a layout grows: cells that are made -/
def wfL (Λ : yL) (f0 : xH) : Prop := yW Λ ∧ (∀ b, (Λ.1 b).1 ≤ 3) ∧ ∀ b, 2 ≤ (Λ.1 b).1 → (Λ.1 (Λ.1 b).2.2.2).1 ≠ 0 ∨ f0 (Λ.1 b).2.2.2 ≠ none
def Ey (Λ : yL) (S : yS) (Λ' : yL) (S' : yS) : Prop := ∀ a, (Λ.1 a).1 ≠ 0 → (Λ'.1 a = Λ.1 a ∧ Λ'.2.2.1 a = Λ.2.2.1 a ∧ Λ'.2.2.2 a = Λ.2.2.2 a) ∧ ∀ c j, Λ'.2.1 c j a = Λ.2.1 c j a ∧ yI S' c j a = yI S c j a ∧ yA S' c j a = yA S c j a ∧ yR S' c j a = yR S c j a
def Er (Λ : yL) (f0 : xH) (S : yS) (q : Nat) (Λ' : yL) (f0' : xH) (S' : yS) : Prop := ∀ a, a ≠ q → (Λ.1 a).1 = 0 → f0 a ≠ none → ((Λ'.1 a).1 = 0 ∧ f0' a = f0 a) ∧ (∀ c j, yA S' c j a = yA S c j a ∧ yR S' c j a = yR S c j a) ∧ ∀ b, 2 ≤ (Λ'.1 b).1 → (Λ'.1 b).2.2.2 = a → Λ'.1 b = Λ.1 b
def Dm (Λ : yL) (f0 : xH) (Λ' : yL) (f0' : xH) : Prop := ∀ a, ((Λ.1 a).1 ≠ 0 ∨ f0 a ≠ none) → ((Λ'.1 a).1 ≠ 0 ∨ f0' a ≠ none)
/-- from one layout to the next, while q is made -/
def Cq (Λ : yL) (f0 : xH) (S : yS) (q : Nat) (Λ' : yL) (f0' : xH) (S' : yS) : Prop := wfL Λ' f0' ∧ Ey Λ S Λ' S' ∧ Er Λ f0 S q Λ' f0' S' ∧ Dm Λ f0 Λ' f0'
def usq (Λ : yL) (q : Nat) (U : Nat → Prop) : Prop := ∀ b, 2 ≤ (Λ.1 b).1 → (Λ.1 b).2.2.2 = q → U (Λ.1 b).2.2.1
/-- q is being made: so far its fields are fs -/
def Rq (Λ : yL) (f0 : xH) (q c : Nat) (fs : List Value) (U : Nat → Prop) : Prop := wfL Λ f0 ∧ (Λ.1 q).1 = 0 ∧ f0 q = some (xO c fs) ∧ usq Λ q U
def lyN (Λ : yL) (r g c j q t n : Nat) : yL := (fun a => if a = r then (g, c, j, q) else Λ.1 a, Λ.2.1, fun a => if a = r then n else Λ.2.2.1 a, fun a => if a = r then t else Λ.2.2.2 a)
def rfD (fs : List Value) (j : Nat) : Nat := match fs[j]? with
  | some (.ref r) => r
  | _ => 0
def itD (fs : List Value) (j : Nat) : Int32 := match fs[j]? with
  | some (.int x) => x
  | _ => 0
def lyP (Λ : yL) (q c o : Nat) (fs : List Value) : yL := (fun a => if a = q then (1, c, 0, o) else Λ.1 a, fun c' j a => if a = q then rfD fs j else Λ.2.1 c' j a, Λ.2.2.1, Λ.2.2.2)
def lyS (S : yS) (q : Nat) (fs : List Value) : yS := (fun c j a => if a = q then itD fs j else yI S c j a, S.2)
section
variable {Λ Λ' Λ1 : yL} {f0 f0' f1 : xH} {S S' S1 : yS} {q r a b c j o t n d : Nat} {fs : List Value} {U U' : Nat → Prop} {K : xH → Prop} {e : xC}
theorem yH_0 (h : (Λ.1 a).1 = 0) : yH Λ f0 S a = f0 a := by
  unfold yH
  split
  · next h1 => rw [h1] at h; exact absurd h (by show ¬ (1 : Nat) = 0; decide)
  · next h1 => rw [h1] at h; exact absurd h (by show ¬ (2 : Nat) = 0; decide)
  · next h1 => rw [h1] at h; exact absurd h (by show ¬ (3 : Nat) = 0; decide)
  · rfl
theorem yH_none (hw : wfL Λ f0) (h : yH Λ f0 S a = none) : (Λ.1 a).1 = 0 ∧ f0 a = none := by
  have h3 := hw.2.1 a
  unfold yH at h
  split at h
  · cases h
  · cases h
  · cases h
  · next n1 n2 n3 =>
    refine ⟨?_, h⟩
    rcases hl : Λ.1 a with ⟨g, ci, x, y⟩
    rw [hl] at h3
    have h3 : g ≤ 3 := h3
    show g = 0
    by_cases e1 : g = 1
    · subst e1; exact absurd hl (n1 ci x y)
    · by_cases e2 : g = 2
      · subst e2; exact absurd hl (n2 ci x y)
      · by_cases e3 : g = 3
        · subst e3; exact absurd hl (n3 ci x y)
        · omega
theorem yH_U (h : (Λ.1 q).1 = 0) : xup (yH Λ f0 S) q e = yH Λ (xup f0 q e) S := by
  funext a
  by_cases c : a = q
  · rw [c, xup_s, yH_0 h, xup_s]
  · rw [xup_n _ _ c]
    unfold yH
    rw [xup_n _ _ c]
theorem yH_N {g : Nat → Int32} (hr : (Λ.1 r).1 = 0) (hk : ∀ b, ¬ Λ.1 b = (2, c, j, q)) : xup (yH Λ f0 S) r (xI t n g) = yH (lyN Λ r 2 c j q t n) f0 (ywA S c j q g) := by
  funext a
  by_cases w : a = r
  · rw [w, xup_s]
    have h1 : yn (lyN Λ r 2 c j q t n) r c j q t n := ⟨if_pos rfl, if_pos rfl, if_pos rfl⟩
    rw [yH_n h1]
    simp [ywA, yA]
  · rw [xup_n _ _ w]
    have e1 : (lyN Λ r 2 c j q t n).1 a = Λ.1 a := if_neg w
    have e2 : (lyN Λ r 2 c j q t n).2.2.1 a = Λ.2.2.1 a := if_neg w
    have e3 : (lyN Λ r 2 c j q t n).2.2.2 a = Λ.2.2.2 a := if_neg w
    unfold yH
    rw [e1, e2, e3]
    split
    · rfl
    · next c' k p hc =>
      have hne : ¬ (c' = c ∧ k = j ∧ p = q) := fun z => hk a (by rw [hc, z.1, z.2.1, z.2.2])
      simp [ywA, yA, hne]
    · rfl
    · rfl
theorem yH_NR {g : Nat → Option Nat} (hr : (Λ.1 r).1 = 0) (hk : ∀ b, ¬ Λ.1 b = (3, c, j, q)) : xup (yH Λ f0 S) r (xR t n g) = yH (lyN Λ r 3 c j q t n) f0 (ywR S c j q g) := by
  funext a
  by_cases w : a = r
  · rw [w, xup_s]
    have h1 : yr (lyN Λ r 3 c j q t n) r c j q t n := ⟨if_pos rfl, if_pos rfl, if_pos rfl⟩
    rw [yH_r h1]
    simp [ywR, yR]
  · rw [xup_n _ _ w]
    have e1 : (lyN Λ r 3 c j q t n).1 a = Λ.1 a := if_neg w
    have e2 : (lyN Λ r 3 c j q t n).2.2.1 a = Λ.2.2.1 a := if_neg w
    have e3 : (lyN Λ r 3 c j q t n).2.2.2 a = Λ.2.2.2 a := if_neg w
    unfold yH
    rw [e1, e2, e3]
    split
    · rfl
    · rfl
    · next c' k p hc =>
      have hne : ¬ (c' = c ∧ k = j ∧ p = q) := fun z => hk a (by rw [hc, z.1, z.2.1, z.2.2])
      simp [ywR, yR, hne]
    · rfl
theorem yH_P (hq : (Λ.1 q).1 = 0) (hf : f0 q = some (xO c fs)) (hs : fs = (ftg c).mapIdx (fun j b => if b then .ref (rfD fs j) else .int (itD fs j))) : yH Λ f0 S = yH (lyP Λ q c o fs) f0 (lyS S q fs) := by
  funext a
  by_cases w : a = q
  · subst w
    have h1 : yo (lyP Λ a c o fs) a c := ⟨0, o, if_pos rfl⟩
    rw [yH_0 hq, hf, yH_o h1]
    refine congrArg some (congrArg (xO c) ?_)
    refine hs.trans ?_
    unfold yfs
    congr 1
    funext j b
    show _ = if b = true then Value.ref (if a = a then rfD fs j else _) else Value.int (if a = a then itD fs j else _)
    rw [if_pos rfl, if_pos rfl]
  · have e1 : (lyP Λ q c o fs).1 a = Λ.1 a := if_neg w
    unfold yH
    rw [e1]
    split
    · next ci x y hc =>
      refine congrArg some (congrArg (xO ci) ?_)
      unfold yfs
      congr 1
      funext j b
      show _ = if b = true then Value.ref (if a = q then rfD fs j else _) else Value.int (if a = q then itD fs j else _)
      rw [if_neg w, if_neg w]
    · rfl
    · rfl
    · rfl
theorem Cq_rf (hw : wfL Λ f0) : Cq Λ f0 S q Λ f0 S := ⟨hw, fun _ _ => ⟨⟨rfl, rfl, rfl⟩, fun _ _ => ⟨rfl, rfl, rfl, rfl⟩⟩, fun _ _ h _ => ⟨⟨h, rfl⟩, fun _ _ => ⟨rfl, rfl⟩, fun _ _ _ => rfl⟩, fun _ h => h⟩
theorem Ey_tr (h1 : Ey Λ S Λ1 S1) (h2 : Ey Λ1 S1 Λ' S') : Ey Λ S Λ' S' := fun a ha => by
  have e1 := h1 a ha
  have e2 := h2 a (by rw [e1.1.1]; exact ha)
  exact ⟨⟨e2.1.1.trans e1.1.1, e2.1.2.1.trans e1.1.2.1, e2.1.2.2.trans e1.1.2.2⟩, fun c j => ⟨(e2.2 c j).1.trans (e1.2 c j).1, (e2.2 c j).2.1.trans (e1.2 c j).2.1, (e2.2 c j).2.2.1.trans (e1.2 c j).2.2.1, (e2.2 c j).2.2.2.trans (e1.2 c j).2.2.2⟩⟩
theorem Cq_tr (h1 : Cq Λ f0 S q Λ1 f1 S1) (h2 : Cq Λ1 f1 S1 q Λ' f0' S') : Cq Λ f0 S q Λ' f0' S' := by
  refine ⟨h2.1, Ey_tr h1.2.1 h2.2.1, fun a ha hr hf => ?_, fun a h => h2.2.2.2 a (h1.2.2.2 a h)⟩
  have e1 := h1.2.2.1 a ha hr hf
  have e2 := h2.2.2.1 a ha e1.1.1 (by rw [e1.1.2]; exact hf)
  refine ⟨⟨e2.1.1, e2.1.2.trans e1.1.2⟩, fun c j => ⟨(e2.2.1 c j).1.trans (e1.2.1 c j).1, (e2.2.1 c j).2.trans (e1.2.1 c j).2⟩, fun b hb ho => ?_⟩
  have e3 := e2.2.2 b hb ho
  rw [e3] at hb ho
  exact e3.trans (e1.2.2 b hb ho)
/-- a child is made -/
theorem Rq_ch (R : Rq Λ f0 q c fs U) (hb : (Λ.1 b).1 = 0) (hn : f0 b = none) (h : Cq Λ (xup f0 b e) S b Λ' f0' S') : Rq Λ' f0' q c fs U ∧ Cq Λ f0 S q Λ' f0' S' ∧ ∀ c j, yA S' c j q = yA S c j q ∧ yR S' c j q = yR S c j q := by
  have hqb : q ≠ b := fun z => by rw [← z, R.2.2.1] at hn; cases hn
  have hu : ∀ a, f0 a ≠ none → a ≠ b ∧ xup f0 b e a = f0 a := fun a ha => by
    have : a ≠ b := fun z => ha (by rw [z]; exact hn)
    exact ⟨this, xup_n _ _ this⟩
  have hq := hu q (by rw [R.2.2.1]; exact fun z => by cases z)
  have eq := h.2.2.1 q hqb R.2.1 (by rw [hq.2, R.2.2.1]; exact fun z => by cases z)
  refine ⟨⟨h.1, eq.1.1, by rw [eq.1.2, hq.2]; exact R.2.2.1, fun x hx ho => ?_⟩, ⟨h.1, h.2.1, fun a ha hr hf => ?_, fun a ha => h.2.2.2 a ?_⟩, eq.2.1⟩
  · have e3 := eq.2.2 x hx ho
    rw [e3] at hx ho ⊢
    exact R.2.2.2 x hx ho
  · have := hu a hf
    have e3 := h.2.2.1 a this.1 hr (by rw [this.2]; exact hf)
    rw [this.2] at e3
    exact e3
  · rcases ha with ha | ha
    · exact Or.inl ha
    · exact Or.inr (by rw [(hu a ha).2]; exact ha)
theorem Cq_U (R : Rq Λ f0 q c fs U) {fs' : List Value} : Rq Λ (xup f0 q (xO c fs')) q c fs' U ∧ Cq Λ f0 S q Λ (xup f0 q (xO c fs')) S := by
  have hw : wfL Λ (xup f0 q (xO c fs')) := by
    refine ⟨R.1.1, R.1.2.1, fun b hb => ?_⟩
    rcases R.1.2.2 b hb with h | h
    · exact Or.inl h
    · refine Or.inr ?_
      by_cases w : (Λ.1 b).2.2.2 = q
      · rw [w, xup_s]; exact fun z => by cases z
      · rw [xup_n _ _ w]; exact h
  refine ⟨⟨hw, R.2.1, xup_s _ _ _, R.2.2.2⟩, hw, fun _ _ => ⟨⟨rfl, rfl, rfl⟩, fun _ _ => ⟨rfl, rfl, rfl, rfl⟩⟩, fun a ha h _ => ⟨⟨h, xup_n _ _ ha⟩, fun _ _ => ⟨rfl, rfl⟩, fun _ _ _ => rfl⟩, fun a h => ?_⟩
  rcases h with h | h
  · exact Or.inl h
  · refine Or.inr ?_
    by_cases w : a = q
    · rw [w, xup_s]; exact fun z => by cases z
    · rw [xup_n _ _ w]; exact h
theorem xupO {fs' : List Value} {f : xH} (h : f q = some (xO c fs)) (hj : j < fs.length) {v : Value} (q1 : K (xup f q (xO c (fs.set j v)))) : xpf f q c j v K := by
  unfold xpf
  rw [h]
  exact ⟨rfl, hj, q1⟩
/-- a field is set -/
theorem rF {v : Value} (R : Rq Λ f0 q c fs U) (hj : j < fs.length) (h : ∀ f0', Rq Λ f0' q c (fs.set j v) U → Cq Λ f0 S q Λ f0' S → K (yH Λ f0' S)) : xpf (yH Λ f0 S) q c j v K := by
  refine xupO (fs' := fs) (by rw [yH_0 R.2.1]; exact R.2.2.1) hj ?_
  rw [yH_U R.2.1]
  exact h _ (Cq_U (S := S) R).1 (Cq_U R).2
theorem rG {P : Nat → Prop} (R : Rq Λ f0 q c fs U) (x : Nat) (hj : fs[j]? = some (.ref x)) (h : P x) : xgr (yH Λ f0 S) q c j P := by
  unfold xgr
  rw [yH_0 R.2.1, R.2.2.1]
  dsimp only
  rw [hj]
  exact ⟨rfl, h⟩
theorem lyN_n (ha : a ≠ r) {g : Nat} : (lyN Λ r g c j q t n).1 a = Λ.1 a := if_neg ha
theorem wf_N (hw : wfL Λ f0) (hr : (Λ.1 r).1 = 0) {g : Nat} (hg : g = 2 ∨ g = 3) (hq : (Λ.1 q).1 = 0 ∧ f0 q ≠ none) (hk : ∀ b, ¬ Λ.1 b = (g, c, j, q)) (hrq : q ≠ r) : wfL (lyN Λ r g c j q t n) f0 := by
  refine ⟨fun a b ha e => ?_, fun b => ?_, fun b hb => ?_⟩
  · by_cases wa : a = r
    · subst wa
      by_cases wb : b = a
      · exact wb
      · rw [lyN_n wb] at e
        exact absurd (e.trans (if_pos rfl)) (hk b)
    · rw [lyN_n wa] at ha e
      by_cases wb : b = r
      · subst wb
        exact absurd ((if_pos rfl : (lyN Λ b g c j q t n).1 b = (g, c, j, q)).symm.trans e).symm (hk a)
      · rw [lyN_n wb] at e
        exact hw.1 a b ha e
  · by_cases wb : b = r
    · rw [wb, show (lyN Λ r g c j q t n).1 r = (g, c, j, q) from if_pos rfl]
      show g ≤ 3
      omega
    · rw [lyN_n wb]; exact hw.2.1 b
  · by_cases wb : b = r
    · subst wb
      rw [show (lyN Λ b g c j q t n).1 b = (g, c, j, q) from if_pos rfl]
      exact Or.inr hq.2
    · rw [lyN_n wb] at hb ⊢
      rcases hw.2.2 b hb with h | h
      · by_cases w : (Λ.1 b).2.2.2 = r
        · rw [w] at h; exact absurd hr h
        · rw [lyN_n w]; exact Or.inl h
      · exact Or.inr h
theorem fresh_k (R : Rq Λ f0 q c fs U) (hu : ¬ U j) {g : Nat} (hg : g = 2 ∨ g = 3) : ∀ b, ¬ Λ.1 b = (g, c, j, q) := fun b z => by
  have := R.2.2.2 b (by rw [z]; show 2 ≤ g; omega) (by rw [z])
  rw [z] at this
  exact hu this
theorem Cq_N (R : Rq Λ f0 q c fs U) (hu : ¬ U j) (hr : (Λ.1 r).1 = 0) (hn : f0 r = none) {g : Nat} (hg : g = 2 ∨ g = 3) {S' : yS} (hI : S'.1 = S.1) (hA : ∀ c' j' a, a ≠ q → yA S' c' j' a = yA S c' j' a) (hR : ∀ c' j' a, a ≠ q → yR S' c' j' a = yR S c' j' a) : r ≠ q ∧ Rq (lyN Λ r g c j q t n) f0 q c fs (fun i => U i ∨ i = j) ∧ Cq Λ f0 S q (lyN Λ r g c j q t n) f0 S' := by
  have hrq : r ≠ q := fun z => by rw [z, R.2.2.1] at hn; cases hn
  have hw := wf_N (t := t) (n := n) R.1 hr hg ⟨R.2.1, by rw [R.2.2.1]; exact fun z => by cases z⟩ (fresh_k R hu hg) (fun z => hrq z.symm)
  refine ⟨hrq, ⟨hw, by rw [lyN_n (fun z => hrq z.symm)]; exact R.2.1, R.2.2.1, fun b hb ho => ?_⟩, hw, fun a ha => ?_, fun a ha h hf => ?_, fun a h => ?_⟩
  · by_cases wb : b = r
    · subst wb
      rw [show (lyN Λ b g c j q t n).1 b = (g, c, j, q) from if_pos rfl]
      exact Or.inr rfl
    · rw [lyN_n wb] at hb ho ⊢
      exact Or.inl (R.2.2.2 b hb ho)
  · have har : a ≠ r := fun z => ha (by rw [z]; exact hr)
    have haq : a ≠ q := fun z => ha (by rw [z]; exact R.2.1)
    exact ⟨⟨lyN_n har, if_neg har, if_neg har⟩, fun c' j' => ⟨rfl, by show S'.1 c' j' a = S.1 c' j' a; rw [hI], hA c' j' a haq, hR c' j' a haq⟩⟩
  · have har : a ≠ r := fun z => hf (by rw [z]; exact hn)
    refine ⟨⟨by rw [lyN_n har]; exact h, rfl⟩, fun c' j' => ⟨hA c' j' a ha, hR c' j' a ha⟩, fun b hb ho => ?_⟩
    by_cases wb : b = r
    · subst wb
      rw [show (lyN Λ b g c j q t n).1 b = (g, c, j, q) from if_pos rfl] at ho
      exact absurd ho.symm ha
    · exact lyN_n wb
  · rcases h with h | h
    · have har : a ≠ r := fun z => h (by rw [z]; exact hr)
      exact Or.inl (by rw [lyN_n har]; exact h)
    · exact Or.inr h
def fqA (S S' : yS) (q c j : Nat) : Prop := (∀ c' j', ¬ (c' = c ∧ j' = j) → yA S' c' j' q = yA S c' j' q) ∧ ∀ c' j', yR S' c' j' q = yR S c' j' q
def fqR (S S' : yS) (q c j : Nat) : Prop := (∀ c' j', ¬ (c' = c ∧ j' = j) → yR S' c' j' q = yR S c' j' q) ∧ ∀ c' j', yA S' c' j' q = yA S c' j' q
/-- an array of numbers is made and set -/
theorem rA (R : Rq Λ f0 q c fs U) (hj : j < fs.length) (hu : ¬ U j) (h : ∀ r Λ' f0' S', Cq Λ f0 S q Λ' f0' S' → Rq Λ' f0' q c (fs.set j (.ref r)) (fun i => U i ∨ i = j) → yn Λ' r c j q t n → yA S' c j q = (fun _ => 0) → fqA S S' q c j → K (yH Λ' f0' S')) : xnw (yH Λ f0 S) (xI t n (fun _ => 0)) (fun r f1 => xpf f1 q c j (.ref r) K) := by
  intro r hr
  obtain ⟨hr, hn⟩ := yH_none R.1 hr
  obtain ⟨hrq, R', C'⟩ := Cq_N (S := S) (S' := ywA S c j q (fun _ => 0)) (t := t) (n := n) R hu hr hn (Or.inl rfl) rfl (fun c' j' a ha => yA_n _ _ (fun z => ha z.2.2)) (fun _ _ _ _ => rfl)
  rw [yH_N hr (fresh_k R hu (Or.inl rfl))]
  refine rF R' hj (fun f0' R2 C2 => h r _ f0' _ (Cq_tr C' C2) R2 ⟨if_pos rfl, if_pos rfl, if_pos rfl⟩ (yA_s _ _ _ _ _) ⟨fun c' j' hne => yA_n _ _ (fun z => hne ⟨z.1, z.2.1⟩), fun _ _ => rfl⟩)
/-- an array of references -/
theorem rR (R : Rq Λ f0 q c fs U) (hj : j < fs.length) (hu : ¬ U j) (h : ∀ r Λ' f0' S', Cq Λ f0 S q Λ' f0' S' → Rq Λ' f0' q c (fs.set j (.ref r)) (fun i => U i ∨ i = j) → yr Λ' r c j q t n → yR S' c j q = (fun _ => none) → fqR S S' q c j → K (yH Λ' f0' S')) : xnw (yH Λ f0 S) (xR t n (fun _ => none)) (fun r f1 => xpf f1 q c j (.ref r) K) := by
  intro r hr
  obtain ⟨hr, hn⟩ := yH_none R.1 hr
  obtain ⟨hrq, R', C'⟩ := Cq_N (S := S) (S' := ywR S c j q (fun _ => none)) (t := t) (n := n) R hu hr hn (Or.inr rfl) rfl (fun _ _ _ _ => rfl) (fun c' j' a ha => ywR_ne _ _ (fun z => ha z.2.2))
  rw [yH_NR hr (fresh_k R hu (Or.inr rfl))]
  refine rF R' hj (fun f0' R2 C2 => h r _ f0' _ (Cq_tr C' C2) R2 ⟨if_pos rfl, if_pos rfl, if_pos rfl⟩ (ywR_s _ _ _ _ _) ⟨fun c' j' hne => ywR_ne _ _ (fun z => hne ⟨z.1, z.2.1⟩), fun _ _ => rfl⟩)
/-- a new object, before it is made -/
theorem rN {P : Nat → xH → Prop} (hw : wfL Λ f0) (h : ∀ b, (Λ.1 b).1 = 0 → f0 b = none → Rq Λ (xup f0 b (xO c fs)) b c fs (fun _ => False) → P b (yH Λ (xup f0 b (xO c fs)) S)) : xnw (yH Λ f0 S) (xO c fs) P := by
  intro b hb
  obtain ⟨hr, hn⟩ := yH_none hw hb
  rw [yH_U hr]
  refine h b hr hn ⟨⟨hw.1, hw.2.1, fun x hx => ?_⟩, hr, xup_s _ _ _, fun x hx ho => ?_⟩
  · rcases hw.2.2 x hx with z | z
    · exact Or.inl z
    · refine Or.inr ?_
      by_cases w : (Λ.1 x).2.2.2 = b
      · rw [w, xup_s]; exact fun z => by cases z
      · rw [xup_n _ _ w]; exact z
  · rcases hw.2.2 x hx with z | z
    · rw [ho] at z; exact z hr
    · rw [ho] at z; exact z hn
/-- it is made -/
theorem rP (R : Rq Λ f0 q c fs U) (o : Nat) (hs : fs = (ftg c).mapIdx (fun j b => if b then .ref (rfD fs j) else .int (itD fs j))) (h : ∀ Λ' S', Cq Λ f0 S q Λ' f0 S' → yo Λ' q c → own Λ' q = o → (∀ c j, Λ'.2.1 c j q = rfD fs j) → (∀ c j, yI S' c j q = itD fs j) → (∀ c j a, yA S' c j a = yA S c j a ∧ yR S' c j a = yR S c j a) → K (yH Λ' f0 S')) : K (yH Λ f0 S) := by
  rw [yH_P (o := o) R.2.1 R.2.2.1 hs]
  have e1 : ∀ a, a ≠ q → (lyP Λ q c o fs).1 a = Λ.1 a := fun a ha => if_neg ha
  have e2 : (lyP Λ q c o fs).1 q = (1, c, 0, o) := if_pos rfl
  refine h _ _ ⟨⟨fun a b ha e => ?_, fun b => ?_, fun b hb => ?_⟩, fun a ha => ?_, fun a ha hr hf => ?_, fun a h => ?_⟩ ⟨0, o, e2⟩ (by unfold own; rw [e2]) (fun c' j' => if_pos rfl) (fun c' j' => if_pos rfl) (fun _ _ _ => ⟨rfl, rfl⟩)
  · have haq : a ≠ q := fun z => by rw [z, e2] at ha; rcases ha with ha | ha <;> exact absurd ha (by show ¬ (1 : Nat) = _; decide)
    rw [e1 a haq] at ha e
    by_cases w : b = q
    · rw [w, e2] at e
      rw [← e] at ha
      rcases ha with ha | ha <;> exact absurd ha (by show ¬ (1 : Nat) = _; decide)
    · rw [e1 b w] at e
      exact R.1.1 a b ha e
  · by_cases w : b = q
    · rw [w, e2]; show 1 ≤ 3; omega
    · rw [e1 b w]; exact R.1.2.1 b
  · have hbq : b ≠ q := fun z => by rw [z, e2] at hb; exact absurd hb (by show ¬ 2 ≤ 1; omega)
    rw [e1 b hbq] at hb ⊢
    by_cases w : (Λ.1 b).2.2.2 = q
    · rw [w, e2]; exact Or.inl (by show ¬ (1 : Nat) = 0; decide)
    · rw [e1 _ w]; exact R.1.2.2 b hb
  · have haq : a ≠ q := fun z => ha (by rw [z]; exact R.2.1)
    exact ⟨⟨e1 a haq, rfl, rfl⟩, fun c' j' => ⟨if_neg haq, if_neg haq, rfl, rfl⟩⟩
  · refine ⟨⟨by rw [e1 a ha]; exact hr, rfl⟩, fun _ _ => ⟨rfl, rfl⟩, fun b hb ho => ?_⟩
    have hbq : b ≠ q := fun z => by rw [z, e2] at hb; exact absurd hb (by show ¬ 2 ≤ 1; omega)
    exact e1 b hbq
  · by_cases w : a = q
    · rw [w, e2]; exact Or.inl (by show ¬ (1 : Nat) = 0; decide)
    · rw [e1 a w]; exact h
/-- an element is set -/
theorem rS {cv v i : Nat} {x : Int32} {g : Nat → Option Nat} (R : Rq Λ f0 q c fs U) (hr : yr Λ r c j q t n) (hi : i < n) (hn : n < 2 ^ 31) (hx : x = nI i) (hv : yo Λ v cv) (hg : yR S c j q = g) (h : ∀ S', Cq Λ f0 S q Λ f0 S' → yR S' c j q = va_up g i (some v) → fqR S S' q c j → K (yH Λ f0 S')) : xrs (yH Λ f0 S) r t cv x v K := by
  rw [hx]
  refine yrs hr (yW_r R.1.1 hr) (vp_in_nI hi (by omega)) hv ?_
  rw [nI_clamp (by omega), hg]
  refine h _ ⟨R.1, fun a ha => ?_, fun a ha hr hf => ⟨⟨hr, rfl⟩, fun c' j' => ⟨rfl, ywR_ne _ _ (fun z => ha z.2.2)⟩, fun _ _ _ => rfl⟩, fun _ h => h⟩ (ywR_s _ _ _ _ _) ⟨fun c' j' hne => ywR_ne _ _ (fun z => hne ⟨z.1, z.2.1⟩), fun _ _ => rfl⟩
  have haq : a ≠ q := fun z => ha (by rw [z]; exact R.2.1)
  exact ⟨⟨rfl, rfl, rfl⟩, fun c' j' => ⟨rfl, rfl, rfl, ywR_ne _ _ (fun z => haq z.2.2)⟩⟩
theorem Rq_w (R : Rq Λ f0 q c fs U) (h : ∀ i, U i → U' i) : Rq Λ f0 q c fs U' := ⟨R.1, R.2.1, R.2.2.1, fun b hb ho => h _ (R.2.2.2 b hb ho)⟩
end
