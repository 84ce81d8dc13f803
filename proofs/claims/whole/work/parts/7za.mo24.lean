/-! 7za a TREE is built, by both in their ways -/
def insF (gs : List Fl) (f : Fl) : List Fl := insL gs (insP f.1 gs gs.length) f
def foldI (l : List Fl) : List Fl := l.foldl insF []
def foldT (l : List Fl) : Option (List Fl) := l.foldl (fun o f => o.bind (fun gs => tkT gs f)) (some [])
def dis (l : List Fl) : Prop := ∀ i j, i < l.length → j < l.length → (l.getD i fl0).1 = (l.getD j fl0).1 → i = j
def noB (l : List Fl) : Prop := ∀ i j, i < l.length → j < l.length → abvB (l.getD i fl0).1 (l.getD j fl0).1 = false
theorem foldI_a (l : List Fl) (f : Fl) : foldI (l ++ [f]) = insF (foldI l) f := by unfold foldI; rw [List.foldl_append]; rfl
theorem foldT_a (l : List Fl) (f : Fl) : foldT (l ++ [f]) = (foldT l).bind (fun gs => tkT gs f) := by unfold foldT; rw [List.foldl_append]; rfl
theorem flT {l : List Fl} {n : Nat} (h : n < l.length) : l.take (n + 1) = l.take n ++ [l.getD n fl0] := by
  rw [List.take_succ, List.getD_eq_getElem?_getD, List.getElem?_eq_getElem h]; rfl
theorem insF_l (gs : List Fl) (f : Fl) : (insF gs f).length = gs.length + 1 := insL_len (insP_le _ _ _)
theorem foldI_ok (l : List Fl) : ∀ n, n ≤ l.length → (foldI (l.take n)).length = n ∧ (∀ i, i < n → ∃ k, k < n ∧ (foldI (l.take n)).getD i fl0 = l.getD k fl0) ∧ (∀ k, k < n → ∃ i, i < n ∧ (foldI (l.take n)).getD i fl0 = l.getD k fl0)
  | 0, _ => ⟨rfl, fun i hi => absurd hi (Nat.not_lt_zero _), fun i hi => absurd hi (Nat.not_lt_zero _)⟩
  | n + 1, hn => by
    obtain ⟨h1, h2, h3⟩ := foldI_ok l n (by omega)
    rw [flT (by omega), foldI_a]
    have hle := insP_le (l.getD n fl0).1 (foldI (l.take n)) (foldI (l.take n)).length
    refine ⟨by rw [insF_l, h1], fun i hi => ?_, fun k hk => ?_⟩
    · unfold insF
      rcases insL_mem hle (j := i) (f := l.getD n fl0) (by omega) with z | ⟨k, hk, z⟩
      · exact ⟨n, by omega, z⟩
      · obtain ⟨k', hk', e'⟩ := h2 k (by omega)
        exact ⟨k', by omega, z.trans e'⟩
    · unfold insF
      by_cases w : k = n
      · refine ⟨insP (l.getD n fl0).1 (foldI (l.take n)) (foldI (l.take n)).length, by omega, ?_⟩
        rw [insL_at hle, if_neg (by omega), if_pos rfl, w]
      · obtain ⟨i, hi, e⟩ := h3 k (by omega)
        by_cases c : i < insP (l.getD n fl0).1 (foldI (l.take n)) (foldI (l.take n)).length
        · exact ⟨i, by omega, by rw [insL_at hle, if_pos c]; exact e⟩
        · refine ⟨i + 1, by omega, ?_⟩
          rw [insL_at hle, if_neg (by omega), if_neg (by omega), Nat.add_sub_cancel]
          exact e
theorem foldT_1 {l : List Fl} (h10 : l.length ≤ 10) (hb : noB l) (hd : dis l) : ∀ n, n ≤ l.length → foldT (l.take n) = some (foldI (l.take n))
  | 0, _ => rfl
  | n + 1, hn => by
    obtain ⟨h1, h2, h3⟩ := foldI_ok l n (by omega)
    rw [flT (by omega), foldT_a, foldT_1 h10 hb hd n (by omega), foldI_a]
    show tkT _ _ = _
    refine tkT_ins (fun i hi => ?_) (fun i hi => ?_) (by omega)
    · obtain ⟨k, hk, e⟩ := h2 i (by omega)
      rw [e]
      intro z
      have := hd k n (by omega) (by omega) z
      omega
    · obtain ⟨k, hk, e⟩ := h2 i (by omega)
      rw [e]
      exact ⟨hb k n (by omega) (by omega), hb n k (by omega) (by omega)⟩
theorem abv_self (xs : List Nat) : abvB xs xs = false := decide_eq_false (fun h => absurd h.1 (Nat.lt_irrefl _))
theorem foldT_2 {l : List Fl} (hd : dis l) : ∀ n, n ≤ l.length → ∀ gs, foldT (l.take n) = some gs → gs = foldI (l.take n) ∧ n ≤ 10 ∧ ∀ i j, i < n → j < n → abvB (l.getD i fl0).1 (l.getD j fl0).1 = false
  | 0, _, gs, h => ⟨(Option.some.inj h).symm, by omega, fun i j hi => absurd hi (Nat.not_lt_zero _)⟩
  | n + 1, hn, gs, h => by
    obtain ⟨h1, h2, h3⟩ := foldI_ok l n (by omega)
    rw [flT (by omega), foldT_a] at h
    cases h0 : foldT (l.take n) with
    | none => rw [h0] at h; cases h
    | some g0 =>
      rw [h0] at h
      have h : tkT g0 (l.getD n fl0) = some gs := h
      obtain ⟨q1, q2, q3⟩ := foldT_2 hd n (by omega) g0 h0
      subst q1
      have hf : ¬ fnd (foldI (l.take n)) (l.getD n fl0).1 < (foldI (l.take n)).length := fun w => by
        have ht := of_decide_eq_true (fstI_t (p := fun i => decide (((foldI (l.take n)).getD i fl0).1 = (l.getD n fl0).1)) w)
        obtain ⟨k, hk, e⟩ := h2 _ (by rw [← h1]; exact w)
        have ht : ((foldI (l.take n)).getD (fnd (foldI (l.take n)) (l.getD n fl0).1) fl0).1 = (l.getD n fl0).1 := ht
        rw [e] at ht
        have := hd k n (by omega) (by omega) ht
        omega
      unfold tkT at h
      rw [if_neg hf] at h
      cases hb : barT (foldI (l.take n)) (l.getD n fl0).1 with
      | true => rw [hb, if_pos rfl] at h; cases h
      | false =>
        rw [hb, if_neg (by decide)] at h
        by_cases c : (foldI (l.take n)).length = 10
        · rw [if_pos c] at h; cases h
        · rw [if_neg c] at h
          have hpair : ∀ k, k < n → abvB (l.getD k fl0).1 (l.getD n fl0).1 = false ∧ abvB (l.getD n fl0).1 (l.getD k fl0).1 = false := fun k hk => by
            obtain ⟨i, hi, e⟩ := h3 k hk
            have := barT_g hb (i := i) (by omega)
            rw [e] at this
            exact this
          refine ⟨?_, by omega, fun i j hi hj => ?_⟩
          · rw [flT (by omega), foldI_a]
            exact (Option.some.inj h).symm
          · by_cases ci : i = n
            · by_cases cj : j = n
              · rw [ci, cj]; exact abv_self _
              · rw [ci]; exact (hpair j (by omega)).2
            · by_cases cj : j = n
              · rw [cj]; exact (hpair i (by omega)).1
              · exact q3 i j (by omega) (by omega)
/-- what is kept, what is made -/
def kpL (fs : List Fl) (vs : List Sv) (G : Nat → Bool) (n : Nat) : List Fl := (List.range n).foldl (fun l i => if takA vs G (fs.getD i fl0).1 = true then l else l ++ [fs.getD i fl0]) []
def adF (fs : List Fl) (v : Sv) : Fl := (v.2.1, makeD v.2.2.2.2.2.2.2.1 (cntA fs v))
def adL (fs : List Fl) (vs : List Sv) (G : Nat → Bool) (l : List Fl) (n : Nat) : List Fl := (List.range n).foldl (fun l i => if G i = true ∧ ¬ (vs.getD i sv0).1 = 1 then l ++ [adF fs (vs.getD i sv0)] else l) l
def alL (fs : List Fl) (vs : List Sv) (G : Nat → Bool) : List Fl := adL fs vs G (kpL fs vs G fs.length) vs.length
theorem kpL_s (fs : List Fl) (vs : List Sv) (G : Nat → Bool) (n : Nat) : kpL fs vs G (n + 1) = if takA vs G (fs.getD n fl0).1 = true then kpL fs vs G n else kpL fs vs G n ++ [fs.getD n fl0] := by unfold kpL; rw [rgF]
theorem adL_s (fs : List Fl) (vs : List Sv) (G : Nat → Bool) (l : List Fl) (n : Nat) : adL fs vs G l (n + 1) = if G n = true ∧ ¬ (vs.getD n sv0).1 = 1 then adL fs vs G l n ++ [adF fs (vs.getD n sv0)] else adL fs vs G l n := by unfold adL; rw [rgF]
theorem kpL_l (fs : List Fl) (vs : List Sv) (G : Nat → Bool) : ∀ n, (kpL fs vs G n).length ≤ n
  | 0 => Nat.le_refl _
  | n + 1 => by
    have := kpL_l fs vs G n
    rw [kpL_s]
    split
    · omega
    · rw [List.length_append]; simp only [List.length_cons, List.length_nil]; omega
theorem bd1_K {fs : List Fl} {vs : List Sv} {G : Nat → Bool} (hT : okT fs) (h10 : fs.length ≤ 10) : ∀ n, n ≤ fs.length → foldT (kpL fs vs G n) = some (bd1 fs vs G n) ∧ bd1 fs vs G n = foldI (kpL fs vs G n) ∧ (bd1 fs vs G n).length ≤ n ∧ ∀ i, i < (bd1 fs vs G n).length → ∃ k, k < n ∧ (bd1 fs vs G n).getD i fl0 = fs.getD k fl0
  | 0, _ => ⟨rfl, rfl, Nat.le_refl _, fun i hi => absurd hi (Nat.not_lt_zero _)⟩
  | n + 1, hn => by
    obtain ⟨h1, h2, h3, h4⟩ := bd1_K (vs := vs) (G := G) hT h10 n (by omega)
    have es : bd1 fs vs G (n + 1) = bd1S fs vs G (bd1 fs vs G n) n := by unfold bd1; rw [rgF]
    rw [es, kpL_s]
    unfold bd1S
    by_cases c : takA vs G (fs.getD n fl0).1 = true
    · rw [if_pos c, if_pos c]
      refine ⟨h1, h2, by omega, fun i hi => ?_⟩
      obtain ⟨k, hk, e⟩ := h4 i hi
      exact ⟨k, by omega, e⟩
    · rw [if_neg c, if_neg c]
      have hins : tkT (bd1 fs vs G n) (fs.getD n fl0) = some (insF (bd1 fs vs G n) (fs.getD n fl0)) := by
        refine tkT_ins (fun i hi => ?_) (fun i hi => ?_) (by omega)
        · obtain ⟨k, hk, e⟩ := h4 i hi
          rw [e]
          intro z
          have := hT.2.2 k n (by omega) (by omega) z
          omega
        · obtain ⟨k, hk, e⟩ := h4 i hi
          rw [e]
          exact barT_g (hT.2.1 n (by omega)) (by omega)
      rw [foldT_a, h1, hins]
      refine ⟨hins, by rw [foldI_a, ← h2]; rfl, by show (insF _ _).length ≤ _; rw [insF_l]; omega, fun i hi => ?_⟩
      have hi : i < (insF (bd1 fs vs G n) (fs.getD n fl0)).length := hi
      rw [insF_l] at hi
      rcases insL_mem (insP_le _ _ _) (j := i) (gs := bd1 fs vs G n) (f := fs.getD n fl0) hi with z | ⟨k, hk, z⟩
      · exact ⟨n, by omega, z⟩
      · obtain ⟨k', hk', e'⟩ := h4 k hk
        exact ⟨k', by omega, z.trans e'⟩
theorem bd2_A {fs : List Fl} {vs : List Sv} {G : Nat → Bool} (hT : okT fs) (h10 : fs.length ≤ 10) : ∀ n, bd2 fs vs G n = foldT (adL fs vs G (kpL fs vs G fs.length) n)
  | 0 => (bd1_K hT h10 fs.length (Nat.le_refl _)).1.symm
  | n + 1 => by
    have es : bd2 fs vs G (n + 1) = bd2S fs vs G (bd2 fs vs G n) n := by unfold bd2; rw [rgF]
    rw [es, bd2_A hT h10 n, adL_s]
    by_cases c : G n = true ∧ ¬ (vs.getD n sv0).1 = 1
    · rw [if_pos c, foldT_a]
      cases foldT (adL fs vs G (kpL fs vs G fs.length) n) with
      | none => rfl
      | some g0 => show (if _ then _ else _) = _; rw [if_pos c]; rfl
    · rw [if_neg c]
      cases foldT (adL fs vs G (kpL fs vs G fs.length) n) with
      | none => rfl
      | some g0 => show (if _ then _ else _) = _; rw [if_neg c]
/-- what comes of the building -/
theorem bd2_end {fs : List Fl} {vs : List Sv} {G : Nat → Bool} (hT : okT fs) (h10 : fs.length ≤ 10) (hd : dis (alL fs vs G)) : ((alL fs vs G).length ≤ 10 ∧ noB (alL fs vs G) ∧ bd2 fs vs G vs.length = some (foldI (alL fs vs G))) ∨ (¬ ((alL fs vs G).length ≤ 10 ∧ noB (alL fs vs G)) ∧ bd2 fs vs G vs.length = none) := by
  have e : bd2 fs vs G vs.length = foldT (alL fs vs G) := bd2_A hT h10 vs.length
  rw [e]
  by_cases c : (alL fs vs G).length ≤ 10 ∧ noB (alL fs vs G)
  · have := foldT_1 c.1 c.2 hd (alL fs vs G).length (Nat.le_refl _)
    rw [List.take_length] at this
    exact Or.inl ⟨c.1, c.2, this⟩
  · refine Or.inr ⟨c, ?_⟩
    cases h : foldT (alL fs vs G) with
    | none => rfl
    | some gs =>
      have := foldT_2 hd (alL fs vs G).length (Nat.le_refl _) gs (by rw [List.take_length]; exact h)
      exact absurd ⟨this.2.1, this.2.2⟩ c
def allN (p : Nat → Bool) : Nat → Bool
  | 0 => true
  | n + 1 => allN p n && p n
theorem allN_s (p : Nat → Bool) (n : Nat) : allN p (n + 1) = (allN p n && p n) := rfl
theorem allN_i {p : Nat → Bool} : ∀ {n : Nat}, allN p n = true ↔ ∀ i, i < n → p i = true
  | 0 => ⟨fun _ i hi => absurd hi (Nat.not_lt_zero _), fun _ => rfl⟩
  | n + 1 => by
    rw [allN_s, Bool.and_eq_true_iff, allN_i (n := n)]
    refine ⟨fun h i hi => ?_, fun h => ⟨fun i hi => h i (by omega), h n (by omega)⟩⟩
    by_cases w : i = n
    · rw [w]; exact h.2
    · exact h.1 i (by omega)
theorem noB_i (l : List Fl) : allN (fun i => !barT (foldI l) ((foldI l).getD i fl0).1) (foldI l).length = true ↔ noB l := by
  obtain ⟨h1, h2, h3⟩ := foldI_ok l l.length (Nat.le_refl _)
  rw [List.take_length] at h1 h2 h3
  rw [allN_i]
  refine ⟨fun h i j hi hj => ?_, fun h i hi => ?_⟩
  · obtain ⟨i', hi', e'⟩ := h3 i hi
    obtain ⟨j', hj', f'⟩ := h3 j hj
    have hb := h j' (by omega)
    have hb : barT (foldI l) ((foldI l).getD j' fl0).1 = false := by
      cases hz : barT (foldI l) ((foldI l).getD j' fl0).1
      · rfl
      · rw [hz] at hb; exact absurd hb (by decide)
    have := (barT_g hb (i := i') (by omega)).1
    rw [e', f'] at this
    exact this
  · obtain ⟨k, hk, e⟩ := h2 i (by omega)
    have : barT (foldI l) ((foldI l).getD i fl0).1 = false := by
      rw [e]
      refine barT_f (fun j hj => ?_)
      obtain ⟨k', hk', e'⟩ := h2 j (by omega)
      rw [e']
      exact ⟨h k' k hk' hk, h k k' hk hk'⟩
    rw [this]; rfl
