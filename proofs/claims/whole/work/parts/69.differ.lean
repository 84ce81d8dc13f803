/-! 69 Differ: the rounds, in words of lists -/
def bI (b : Bool) : Int32 := if b = true then 1 else 0
theorem brB {b : Bool} {A B : Prop} (f : b = false → A) (g : b = true → B) : xbr (bI b = 0) A B := by
  cases b
  · exact ⟨fun _ => f rfl, fun c => absurd rfl c⟩
  · exact ⟨fun c => absurd c (by decide), fun _ => g rfl⟩
/-- which FILE has this PATH; as many as there are: none -/
def fnd (fs : List Fl) (bs : List Nat) : Nat := fstI (fun i => decide ((fs.getD i fl0).1 = bs)) fs.length
/-- a place, or -1 -/
def ixI (i n : Nat) : Int32 := if i < n then nI i else -1
theorem brix {i n : Nat} {A B : Prop} (hn : n < 2 ^ 31) (f : ¬ i < n → A) (g : i < n → ixI i n = nI i → B) : xbr (ixI i n = (-1)) A B := by
  by_cases h : i < n
  · have e : ixI i n = nI i := if_pos h
    rw [e]
    exact ⟨fun c => absurd c (fun z => nI_pos (n := i) (by omega) (by rw [z]; decide)), fun _ => g h e⟩
  · have e : ixI i n = -1 := if_neg h
    rw [e]
    exact ⟨fun _ => f h, fun c => absurd rfl c⟩
theorem brixn {i n : Nat} {A B : Prop} (hn : n < 2 ^ 31) (f : i < n → ixI i n = nI i → A) (g : ¬ i < n → B) : xbr (¬ ixI i n = (-1)) A B := by
  have := brix (i := i) (n := n) hn g f
  exact ⟨fun c => this.2 c, fun c => this.1 (Classical.not_not.mp c)⟩
def setB (G : Nat → Bool) (i : Nat) : Nat → Bool := fun k => if k = i then false else G k
def cntB (G : Nat → Bool) : Nat → Nat
  | 0 => 0
  | n + 1 => cntB G n + (if G n = true then 1 else 0)
theorem cntB_s (G : Nat → Bool) (n : Nat) : cntB G (n + 1) = cntB G n + (if G n = true then 1 else 0) := rfl
theorem cntB_le (G : Nat → Bool) : ∀ n, cntB G n ≤ n
  | 0 => Nat.le_refl _
  | n + 1 => by
    have := cntB_le G n
    rw [cntB_s]
    split <;> omega
theorem cntB_o (G : Nat → Bool) {i : Nat} : ∀ n, n ≤ i → cntB (setB G i) n = cntB G n
  | 0, _ => rfl
  | n + 1, h => by
    have e : setB G i n = G n := if_neg (by omega)
    rw [cntB_s, cntB_s, cntB_o G n (by omega), e]
theorem cntB_t {G : Nat → Bool} {i : Nat} (hi : G i = true) : ∀ n, i < n → cntB (setB G i) n + 1 = cntB G n
  | 0, h => absurd h (Nat.not_lt_zero _)
  | n + 1, h => by
    rw [cntB_s, cntB_s]
    by_cases e : n = i
    · subst e
      rw [cntB_o G n (Nat.le_refl _), if_pos hi]
      unfold setB
      rw [if_pos rfl, if_neg (by decide)]
    · have := cntB_t hi n (by omega)
      have e2 : setB G i n = G n := if_neg e
      rw [e2]
      omega
abbrev DS : Type := (Nat → Bool) × (Nat → Bool) × List Sv
def stV (st : List Sv) : List Sv := st.foldl addV []
theorem stV_l (st : List Sv) : (stV st).length = st.length := by
  have := foldl_addV_len (fun v : Sv => v) st []
  unfold stV
  rw [this]
  simp
theorem stV_a (st : List Sv) (v : Sv) : stV (st ++ [v]) = addV (stV st) v := by
  unfold stV
  rw [List.foldl_append]
  rfl
/-- CHANGES -/
def chS (fs gs : List Fl) (st : List Sv) (i : Nat) : List Sv := if fnd gs (fs.getD i fl0).1 < gs.length ∧ ¬ (fs.getD i fl0).2 = (gs.getD (fnd gs (fs.getD i fl0).1) fl0).2 then st ++ [mkS 2 (fs.getD i fl0) (gs.getD (fnd gs (fs.getD i fl0).1) fl0)] else st
def chL (fs gs : List Fl) (n : Nat) : List Sv := (List.range n).foldl (chS fs gs) []
def gone0 (fs gs : List Fl) (i : Nat) : Bool := decide (¬ fnd gs (fs.getD i fl0).1 < gs.length)
/-- MOVES -/
def mvI (fs gs : List Fl) (D : DS) (j : Nat) : Nat := fstI (fun i => D.1 i && decide ((fs.getD i fl0).2 = (gs.getD j fl0).2)) fs.length
def mvS (fs gs : List Fl) (D : DS) (j : Nat) : DS := if D.2.1 j = true ∧ 0 < (gs.getD j fl0).2.length ∧ mvI fs gs D j < fs.length then (setB D.1 (mvI fs gs D j), setB D.2.1 j, D.2.2 ++ [mkS 3 (fs.getD (mvI fs gs D j) fl0) (gs.getD j fl0)]) else D
def mvL (fs gs : List Fl) (D : DS) (n : Nat) : DS := (List.range n).foldl (mvS fs gs) D
/-- the best pair that is left -/
abbrev BS : Type := Nat × Option (Nat × Nat)
def lkF (fs gs : List Fl) (j i : Nat) : Nat := lkV (fs.getD i fl0).2 (gs.getD j fl0).2
def bsS (fs gs : List Fl) (D : DS) (j : Nat) (B : BS) (i : Nat) : BS := if D.2.1 j = true ∧ D.1 i = true ∧ B.1 < lkF fs gs j i then (lkF fs gs j i, some (i, j)) else B
def bsR (fs gs : List Fl) (D : DS) (n : Nat) (B : BS) (j : Nat) : BS := (List.range n).foldl (bsS fs gs D j) B
def bsA (fs gs : List Fl) (D : DS) (m : Nat) : BS := (List.range m).foldl (bsR fs gs D fs.length) (599, none)
def rnS (fs gs : List Fl) (D : DS) : Option DS := (bsA fs gs D gs.length).2.map (fun q => (setB D.1 q.1, setB D.2.1 q.2, D.2.2 ++ [mkS 4 (fs.getD q.1 fl0) (gs.getD q.2 fl0)]))
def rnL (fs gs : List Fl) : Nat → DS → DS
  | 0, D => D
  | n + 1, D => match rnS fs gs D with
    | none => D
    | some D' => rnL fs gs n D'
/-- the others -/
def otG (fs : List Fl) (G : Nat → Bool) (st : List Sv) (n : Nat) : List Sv := (List.range n).foldl (fun st i => if G i = true then st ++ [mkS 1 (fs.getD i fl0) ((fs.getD i fl0).1, [])] else st) st
def otN (gs : List Fl) (N : Nat → Bool) (st : List Sv) (n : Nat) : List Sv := (List.range n).foldl (fun st j => if N j = true then st ++ [mkS 0 ((gs.getD j fl0).1, []) (gs.getD j fl0)] else st) st
def difD (fs gs : List Fl) : DS := rnL fs gs 10 (mvL fs gs (gone0 fs gs, gone0 gs fs, chL fs gs fs.length) gs.length)
def difX (fs gs : List Fl) : List Sv := otN gs (difD fs gs).2.1 (otG fs (difD fs gs).1 (difD fs gs).2.2 fs.length) gs.length
theorem rgF {α : Type} (f : α → Nat → α) (a : α) (n : Nat) : (List.range (n + 1)).foldl f a = f ((List.range n).foldl f a) n := by
  rw [List.range_succ, List.foldl_append]
  rfl
/-- how many STEPS there are at most -/
def okD (fs : List Fl) (D : DS) : Prop := D.2.2.length + cntB D.1 fs.length ≤ fs.length
theorem okD_ch (fs gs : List Fl) : ∀ n, (chL fs gs n).length + cntB (gone0 fs gs) n ≤ n
  | 0 => Nat.le_refl _
  | n + 1 => by
    have ih := okD_ch fs gs n
    unfold chL at ih ⊢
    rw [rgF, cntB_s]
    generalize (List.range n).foldl (chS fs gs) [] = X at ih ⊢
    by_cases h : fnd gs (fs.getD n fl0).1 < gs.length
    · have e : gone0 fs gs n = false := decide_eq_false (fun z => z h)
      have e2 : (if gone0 fs gs n = true then 1 else 0) = 0 := by rw [e]; rfl
      rw [e2]
      unfold chS
      split
      · rw [List.length_append]
        simp only [List.length_cons, List.length_nil]
        omega
      · omega
    · have e : chS fs gs X n = X := if_neg (fun z => h z.1)
      rw [e]
      split <;> omega
theorem fstI_le (p : Nat → Bool) : ∀ n, fstI p n ≤ n
  | 0 => Nat.le_refl _
  | n + 1 => by
    rw [fstI_s]
    have := fstI_le p n
    split
    · omega
    · split <;> omega
theorem fstI_t {p : Nat → Bool} : ∀ {n}, fstI p n < n → p (fstI p n) = true
  | 0, h => absurd h (Nat.not_lt_zero _)
  | n + 1, h => by
    rw [fstI_s] at h ⊢
    by_cases h1 : fstI p n < n
    · rw [if_pos h1]; exact fstI_t h1
    · rw [if_neg h1] at h ⊢
      by_cases h2 : p n = true
      · rw [if_pos h2]; exact h2
      · rw [if_neg h2] at h; omega
theorem fstI_f {p : Nat → Bool} : ∀ {n i : Nat}, i < fstI p n → p i = false
  | 0, i, h => absurd h (Nat.not_lt_zero _)
  | n + 1, i, h => by
    rw [fstI_s] at h
    by_cases h1 : fstI p n < n
    · rw [if_pos h1] at h; exact fstI_f h
    · have hn : fstI p n = n := by have := fstI_le p n; omega
      rw [if_neg h1] at h
      by_cases h2 : p n = true
      · rw [if_pos h2] at h; exact fstI_f (n := n) (by omega)
      · rw [if_neg h2] at h
        by_cases e : i = n
        · rw [e]; exact Bool.eq_false_iff.mpr h2
        · exact fstI_f (n := n) (by omega)
theorem okD_mv {fs gs : List Fl} {D : DS} (h : okD fs D) (j : Nat) : okD fs (mvS fs gs D j) := by
  unfold mvS
  split
  · next hc =>
    have ht := fstI_t (p := fun i => D.1 i && decide ((fs.getD i fl0).2 = (gs.getD j fl0).2)) hc.2.2
    have ht2 : D.1 (mvI fs gs D j) = true := (Bool.and_eq_true_iff.mp ht).1
    have := cntB_t ht2 _ hc.2.2
    unfold okD at h ⊢
    rw [List.length_append]
    simp only [List.length_cons, List.length_nil]
    omega
  · exact h
theorem okD_mvL {fs gs : List Fl} {D : DS} (h : okD fs D) : ∀ n, okD fs (mvL fs gs D n)
  | 0 => h
  | n + 1 => by
    unfold mvL
    rw [rgF]
    exact okD_mv (okD_mvL h n) n
/-- a pair that is found is left on both sides -/
theorem bsA_ok {fs gs : List Fl} {D : DS} : ∀ m, ∀ i j, (bsA fs gs D m).2 = some (i, j) → i < fs.length ∧ j < m ∧ D.1 i = true ∧ D.2.1 j = true := by
  have h1 : ∀ (j : Nat) (B : BS) n, ∀ i' j', (bsR fs gs D n B j).2 = some (i', j') → B.2 = some (i', j') ∨ (i' < n ∧ j' = j ∧ D.1 i' = true ∧ D.2.1 j' = true) := by
    intro j B n
    induction n with
    | zero => intro i' j' h; exact Or.inl h
    | succ n ih =>
      intro i' j' h
      unfold bsR at h ih
      rw [rgF] at h
      unfold bsS at h
      split at h
      · next hc =>
        have e := Option.some.inj h
        have e1 : n = i' := congrArg Prod.fst e
        have e2 : j = j' := congrArg Prod.snd e
        subst e1; subst e2
        exact Or.inr ⟨Nat.lt_succ_self _, rfl, hc.2.1, hc.1⟩
      · rcases ih i' j' h with q | ⟨q1, q2⟩
        · exact Or.inl q
        · exact Or.inr ⟨by omega, q2⟩
  intro m
  induction m with
  | zero => intro i j h; exact absurd h (by simp [bsA])
  | succ m ih =>
    intro i j h
    unfold bsA at h ih
    rw [rgF] at h
    rcases h1 _ _ _ i j h with q | ⟨q1, q2, q3, q4⟩
    · obtain ⟨a1, a2, a3, a4⟩ := ih i j q
      exact ⟨a1, by omega, a3, a4⟩
    · exact ⟨q1, by omega, q3, q4⟩
theorem rnS_ok {fs gs : List Fl} {D D' : DS} (h : okD fs D) (hr : rnS fs gs D = some D') : okD fs D' := by
  unfold rnS at hr
  obtain ⟨⟨i, j⟩, hq, rfl⟩ := Option.map_eq_some_iff.mp hr
  obtain ⟨a1, a2, a3, a4⟩ := bsA_ok _ i j hq
  have := cntB_t a3 _ a1
  unfold okD at h ⊢
  rw [List.length_append]
  simp only [List.length_cons, List.length_nil]
  omega
theorem rnL_ok {fs gs : List Fl} : ∀ n D, okD fs D → okD fs (rnL fs gs n D)
  | 0, _, h => h
  | n + 1, D, h => by
    unfold rnL
    split
    · exact h
    · next D' hr => exact rnL_ok n D' (rnS_ok h hr)
theorem otG_len (fs : List Fl) (G : Nat → Bool) (st : List Sv) : ∀ n, (otG fs G st n).length = st.length + cntB G n
  | 0 => rfl
  | n + 1 => by
    have ih := otG_len fs G st n
    unfold otG at ih ⊢
    rw [rgF, cntB_s]
    split
    · rw [List.length_append, ih]; rfl
    · rw [ih]; rfl
theorem otN_len (gs : List Fl) (N : Nat → Bool) (st : List Sv) : ∀ n, (otN gs N st n).length = st.length + cntB N n
  | 0 => rfl
  | n + 1 => by
    have ih := otN_len gs N st n
    unfold otN at ih ⊢
    rw [rgF, cntB_s]
    split
    · rw [List.length_append, ih]; rfl
    · rw [ih]; rfl
