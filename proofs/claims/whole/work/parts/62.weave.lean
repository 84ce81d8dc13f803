/-! 62 the DELTA of least COST, as lists have it; frames by class -/
section
theorem brle {a b : Nat} {A B : Prop} (ha : a < 2 ^ 31) (hb : b < 2 ^ 31) (f : a ≤ b → A) (g : b < a → B) : xbr (nI a ≤ nI b) A B :=
  ⟨fun c => f ((leI ha hb).mp c), fun c => g (Nat.lt_of_not_le fun q => c ((leI ha hb).mpr q))⟩
theorem brlt {a b : Nat} {A B : Prop} (ha : a < 2 ^ 31) (hb : b < 2 ^ 31) (f : a < b → A) (g : b ≤ a → B) : xbr (nI a < nI b) A B :=
  ⟨fun c => f ((ltI ha hb).mp c), fun c => g (Nat.le_of_not_lt fun q => c ((ltI ha hb).mpr q))⟩
theorem breq {a b : Nat} {A B : Prop} (ha : a < 2 ^ 31) (hb : b < 2 ^ 31) (f : a = b → A) (g : a ≠ b → B) : xbr (nI a = nI b) A B :=
  ⟨fun c => f ((nI_eq ha hb).mp c), fun c => g (fun q => c (by rw [q]))⟩
theorem brne {a b : Nat} {A B : Prop} (ha : a < 2 ^ 31) (hb : b < 2 ^ 31) (f : a ≠ b → A) (g : a = b → B) : xbr (¬ nI a = nI b) A B :=
  ⟨fun c => f (fun q => c (by rw [q])), fun c => g ((nI_eq ha hb).mp (Classical.not_not.mp c))⟩
theorem loopUp {P : Nat → Prop} {N : Nat} (he : P N) (hs : ∀ k, k < N → P (k + 1) → P k) : ∀ k, k ≤ N → P k := by
  intro k hk
  have : ∀ n k, N - k = n → k ≤ N → P k := by
    intro n
    induction n with
    | zero =>
      intro k h1 h2
      have : k = N := by omega
      rw [this]
      exact he
    | succ n ih =>
      intro k h1 h2
      exact hs k (by omega) (ih (k + 1) (by omega) (by omega))
  exact this _ k rfl hk
end
/-- the keys A alone may change -/
def yFr (A : Nat → Nat → Prop) (S S' : yS) : Prop := ∀ c j a, ¬ A c a → yI S' c j a = yI S c j a ∧ yA S' c j a = yA S c j a ∧ yR S' c j a = yR S c j a
theorem yFr_rf {A : Nat → Nat → Prop} {S : yS} : yFr A S S := fun _ _ _ _ => ⟨rfl, rfl, rfl⟩
theorem yFr_tr {A : Nat → Nat → Prop} {S S1 S2 : yS} (h1 : yFr A S S1) (h2 : yFr A S1 S2) : yFr A S S2 := fun c j a q => by
  obtain ⟨a1, a2, a3⟩ := h1 c j a q
  obtain ⟨b1, b2, b3⟩ := h2 c j a q
  exact ⟨b1.trans a1, b2.trans a2, b3.trans a3⟩
theorem yFr_mo {A B : Nat → Nat → Prop} {S S' : yS} (h : yFr A S S') (hm : ∀ c a, A c a → B c a) : yFr B S S' := fun c j a q => h c j a (fun z => q (hm c a z))
theorem yFr_wA {A : Nat → Nat → Prop} {S : yS} {c j a : Nat} {g : Nat → Int32} (h : A c a) : yFr A S (ywA S c j a g) := fun c' j' b q => ⟨rfl, if_neg (fun z => q (by rw [z.1, z.2.2]; exact h)), rfl⟩
theorem yFr_wI {A : Nat → Nat → Prop} {S : yS} {c j a : Nat} {g : Int32} (h : A c a) : yFr A S (ywI S c j a g) := fun c' j' b q => ⟨if_neg (fun z => q (by rw [z.1, z.2.2]; exact h)), rfl, rfl⟩
theorem yFr_wR {A : Nat → Nat → Prop} {S : yS} {c j a : Nat} {g : Nat → Option Nat} (h : A c a) : yFr A S (ywR S c j a g) := fun c' j' b q => ⟨rfl, rfl, if_neg (fun z => q (by rw [z.1, z.2.2]; exact h))⟩
theorem yFr_Dw {A : Nat → Nat → Prop} {S : yS} {a : Nat} {g : Nat → Int32} {v : Int32} (h : A 3 a) : yFr A S (yDw S a g v) := yFr_tr (yFr_wA h) (yFr_wI h)
theorem yFr_Bw {A : Nat → Nat → Prop} {S : yS} {a : Nat} {g : Nat → Int32} {v : Int32} (h : A 1 a) : yFr A S (yBw S a g v) := yFr_tr (yFr_wA h) (yFr_wI h)
theorem yFr_Bv {A : Nat → Nat → Prop} {S S' : yS} {b cap : Nat} {bs : List Nat} (h : yFr A S S') (hb : ¬ A 1 b) (hv : yBv S b cap bs) : yBv S' b cap bs :=
  ⟨hv.1, by rw [(h 1 1 b hb).1]; exact hv.2.1, fun k hk => by rw [(h 1 0 b hb).2.1]; exact hv.2.2 k hk⟩
theorem yFr_Dv {A : Nat → Nat → Prop} {S S' : yS} {b : Nat} {zs : List Int32} (h : yFr A S S') (hb : ¬ A 3 b) (hv : yDv S b zs) : yDv S' b zs :=
  ⟨hv.1, by rw [(h 3 1 b hb).1]; exact hv.2.1, fun k hk => by rw [(h 3 0 b hb).2.1]; exact hv.2.2 k hk⟩
theorem yA_s (S : yS) (c j o : Nat) (g : Nat → Int32) : yA (ywA S c j o g) c j o = g := if_pos ⟨rfl, rfl, rfl⟩
theorem yA_n (S : yS) {c j o c' j' b : Nat} (g : Nat → Int32) (h : ¬ (c' = c ∧ j' = j ∧ b = o)) : yA (ywA S c j o g) c' j' b = yA S c' j' b := if_neg h
/-- how far two rows go together -/
def cpl : List Nat → List Nat → Nat
  | x :: xs, y :: ys => if x = y then cpl xs ys + 1 else 0
  | _, _ => 0
theorem cpl_nl (ys : List Nat) : cpl [] ys = 0 := by cases ys <;> rfl
theorem cpl_nr (xs : List Nat) : cpl xs [] = 0 := by cases xs <;> rfl
theorem cpl_c (x y : Nat) (xs ys : List Nat) : cpl (x :: xs) (y :: ys) = if x = y then cpl xs ys + 1 else 0 := rfl
theorem cpl_l : ∀ (xs ys : List Nat), cpl xs ys ≤ xs.length
  | [], ys => by rw [cpl_nl]; exact Nat.zero_le _
  | x :: xs, [] => Nat.zero_le _
  | x :: xs, y :: ys => by
    rw [cpl_c]
    split
    · have := cpl_l xs ys; simp; omega
    · exact Nat.zero_le _
theorem cpl_r : ∀ (xs ys : List Nat), cpl xs ys ≤ ys.length
  | [], ys => by rw [cpl_nl]; exact Nat.zero_le _
  | x :: xs, [] => Nat.zero_le _
  | x :: xs, y :: ys => by
    rw [cpl_c]
    split
    · have := cpl_r xs ys; simp; omega
    · exact Nat.zero_le _
theorem cpl_d {xs suf : List Nat} {i b : Nat} (h : i < xs.length) : cpl (xs.drop i) (b :: suf) = if xs.getD i 0 = b then cpl (xs.drop (i + 1)) suf + 1 else 0 := by
  rw [dropG h]; rfl
theorem cpl_o {xs suf : List Nat} {i : Nat} (h : xs.length ≤ i) : cpl (xs.drop i) suf = 0 := by
  rw [List.drop_of_length_le h]; exact cpl_nl _
/-- the longest run that begins at a place before n -/
def lngG (xs suf : List Nat) : Nat → Nat
  | 0 => 0
  | n + 1 => max (lngG xs suf n) (cpl (xs.drop n) suf)
theorem lngG_s (xs suf : List Nat) (n : Nat) : lngG xs suf (n + 1) = max (lngG xs suf n) (cpl (xs.drop n) suf) := rfl
theorem lngG_r (xs suf : List Nat) : ∀ n, lngG xs suf n ≤ suf.length
  | 0 => Nat.zero_le _
  | n + 1 => Nat.max_le.mpr ⟨lngG_r xs suf n, cpl_r _ _⟩
def lng (xs suf : List Nat) : Nat := lngG xs suf xs.length
theorem lng_r (xs suf : List Nat) : lng xs suf ≤ suf.length := lngG_r _ _ _
theorem lngG_iff (xs suf : List Nat) {m : Nat} (hm : 0 < m) : ∀ n, m ≤ lngG xs suf n ↔ ∃ i, i < n ∧ m ≤ cpl (xs.drop i) suf
  | 0 => ⟨fun h => absurd h (by show ¬ m ≤ 0; omega), fun ⟨i, h, _⟩ => absurd h (Nat.not_lt_zero _)⟩
  | n + 1 => by
    rw [lngG_s]
    constructor
    · intro h
      rcases Nat.le_total (lngG xs suf n) (cpl (xs.drop n) suf) with q | q
      · rw [Nat.max_eq_right q] at h; exact ⟨n, Nat.lt_succ_self _, h⟩
      · rw [Nat.max_eq_left q] at h
        obtain ⟨i, h1, h2⟩ := (lngG_iff xs suf hm n).mp h
        exact ⟨i, by omega, h2⟩
    · rintro ⟨i, h1, h2⟩
      by_cases q : i = n
      · subst q; exact Nat.le_trans h2 (Nat.le_max_right _ _)
      · exact Nat.le_trans ((lngG_iff xs suf hm n).mpr ⟨i, by omega, h2⟩) (Nat.le_max_left _ _)
theorem lng_iff (xs suf : List Nat) {m : Nat} (hm : 0 < m) : m ≤ lng xs suf ↔ ∃ i, i < xs.length ∧ m ≤ cpl (xs.drop i) suf := lngG_iff xs suf hm _
/-- the least place before n of which p holds, or n -/
def fstI (p : Nat → Bool) : Nat → Nat
  | 0 => 0
  | n + 1 => if fstI p n < n then fstI p n else if p n = true then n else n + 1
theorem fstI_s (p : Nat → Bool) (n : Nat) : fstI p (n + 1) = if fstI p n < n then fstI p n else if p n = true then n else n + 1 := rfl
theorem fstI_eq {p : Nat → Bool} : ∀ {n q : Nat}, q ≤ n → (∀ i, i < q → p i = false) → (q = n ∨ p q = true) → fstI p n = q
  | 0, q, h1, _, _ => by have : q = 0 := by omega
                         rw [this]; rfl
  | n + 1, q, h1, h2, h3 => by
    rw [fstI_s]
    by_cases hq : q ≤ n
    · have hp : q = n ∨ p q = true := by
        by_cases z : q = n
        · exact Or.inl z
        · exact Or.inr (h3.resolve_left (by omega))
      have ih := fstI_eq hq h2 hp
      rw [ih]
      by_cases z : q < n
      · rw [if_pos z]
      · rw [if_neg z]
        have e : q = n := by omega
        rw [if_pos (by rw [← e]; exact h3.resolve_left (by omega)), e]
    · have e : q = n + 1 := by omega
      have ih := fstI_eq (p := p) (n := n) (q := n) (Nat.le_refl _) (fun i hi => h2 i (by omega)) (Or.inl rfl)
      rw [ih, if_neg (Nat.lt_irrefl _), if_neg (by rw [h2 n (by omega)]; decide), e]
/-- the cheapest: its COST, how much is copied (0: the byte is told) -/
def pick (c : List Nat) : Nat → Nat × Nat
  | 0 => (2 + c.getD 0 0, 0)
  | n + 1 => if 5 + c.getD n 0 ≤ (pick c n).1 then (5 + c.getD n 0, n + 1) else pick c n
theorem pick_s (c : List Nat) (n : Nat) : pick c (n + 1) = if 5 + c.getD n 0 ≤ (pick c n).1 then (5 + c.getD n 0, n + 1) else pick c n := rfl
theorem pick_le (c : List Nat) : ∀ n, (pick c n).1 ≤ 2 + c.getD 0 0 ∧ (pick c n).2 ≤ n
  | 0 => ⟨Nat.le_refl _, Nat.le_refl _⟩
  | n + 1 => by
    have ih := pick_le c n
    rw [pick_s]
    split
    · next h => exact ⟨Nat.le_trans h ih.1, Nat.le_refl _⟩
    · exact ⟨ih.1, Nat.le_succ_of_le ih.2⟩
/-- the COSTS of all that is left, of all but one byte of it .. -/
def cw (xs : List Nat) : List Nat → List Nat
  | [] => [0]
  | y :: r => (pick (cw xs r) (lng xs (y :: r))).1 :: cw xs r
theorem cw_c (xs : List Nat) (y : Nat) (r : List Nat) : cw xs (y :: r) = (pick (cw xs r) (lng xs (y :: r))).1 :: cw xs r := rfl
theorem cw_b (xs : List Nat) : ∀ ys k, (cw xs ys).getD k 0 ≤ 2 * ys.length
  | [], 0 => Nat.le_refl _
  | [], k + 1 => Nat.le_refl _
  | y :: r, 0 => by
    have h1 := (pick_le (cw xs r) (lng xs (y :: r))).1
    have h2 := cw_b xs r 0
    show (pick (cw xs r) (lng xs (y :: r))).1 ≤ _
    simp only [List.length_cons]
    omega
  | y :: r, k + 1 => by
    have h2 := cw_b xs r k
    show (cw xs r).getD k 0 ≤ _
    simp only [List.length_cons]
    omega
def cl (xs : List Nat) : List Nat → Nat
  | [] => 0
  | y :: r => (pick (cw xs r) (lng xs (y :: r))).2
theorem cl_c (xs : List Nat) (y : Nat) (r : List Nat) : cl xs (y :: r) = (pick (cw xs r) (lng xs (y :: r))).2 := rfl
theorem cl_lng (xs suf : List Nat) : cl xs suf ≤ lng xs suf := by
  cases suf with
  | nil => exact Nat.zero_le _
  | cons y r => exact (pick_le _ _).2
theorem cl_b (xs suf : List Nat) : cl xs suf ≤ suf.length := Nat.le_trans (cl_lng xs suf) (lng_r xs suf)
/-- the least place of it -/
def cp (xs suf : List Nat) : Nat := if cl xs suf = 0 then 0 else fstI (fun i => decide (cl xs suf ≤ cpl (xs.drop i) suf)) 48
/-- the row of origins: c bytes are still copied, from p on -/
def wvG (xs : List Nat) : Nat → Nat → List Nat → List Int32
  | _, _, [] => []
  | 0, _, y :: r => if cl xs (y :: r) = 0 then (nI y ^^^ (-1)) :: wvG xs 0 (cp xs (y :: r)) r else nI (cp xs (y :: r)) :: wvG xs (cl xs (y :: r) - 1) (cp xs (y :: r) + 1) r
  | c + 1, p, _ :: r => nI p :: wvG xs c (p + 1) r
def wv (xs ys : List Nat) : List Int32 := wvG xs 0 0 ys
theorem wvG_l (xs : List Nat) : ∀ (ys : List Nat) (c p : Nat), (wvG xs c p ys).length = ys.length
  | [], c, p => by cases c <;> rfl
  | y :: r, 0, p => by
    unfold wvG
    split
    · simp [wvG_l xs r]
    · simp [wvG_l xs r]
  | y :: r, c + 1, p => by
    show (nI p :: wvG xs c (p + 1) r).length = _
    simp [wvG_l xs r]
theorem wv_l (xs ys : List Nat) : (wv xs ys).length = ys.length := wvG_l xs ys 0 0
