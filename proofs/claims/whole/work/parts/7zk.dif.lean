/-! 7zk what stays right: STEPS; two differences are one -/
theorem cp_b {xs suf : List Nat} (hx : xs.length ≤ 48) (h : ¬ cl xs suf = 0) : cp xs suf + cl xs suf ≤ xs.length := by
  have h1 := cl_lng xs suf
  obtain ⟨i, hi, hc⟩ := (lng_iff xs suf (m := cl xs suf) (by omega)).mp h1
  have e : cp xs suf = fstI (fun i => decide (cl xs suf ≤ cpl (xs.drop i) suf)) 48 := if_neg h
  have hlt : fstI (fun i => decide (cl xs suf ≤ cpl (xs.drop i) suf)) 48 < 48 := by
    have hle := fstI_le (fun i => decide (cl xs suf ≤ cpl (xs.drop i) suf)) 48
    by_cases w : fstI (fun i => decide (cl xs suf ≤ cpl (xs.drop i) suf)) 48 < 48
    · exact w
    · have := fstI_f (p := fun i => decide (cl xs suf ≤ cpl (xs.drop i) suf)) (n := 48) (i := i) (by omega)
      exact absurd hc (of_decide_eq_false this)
  have ht := of_decide_eq_true (fstI_t (p := fun i => decide (cl xs suf ≤ cpl (xs.drop i) suf)) hlt)
  rw [← e] at ht
  have hl := cpl_l (xs.drop (cp xs suf)) suf
  rw [List.length_drop] at hl
  omega
theorem wvG_ok {xs : List Nat} (hx : xs.length ≤ 48) : ∀ (ys : List Nat) (c p : Nat), (∀ b, b ∈ ys → b < 256) → (c = 0 ∨ p + c ≤ xs.length) → ∀ z, z ∈ wvG xs c p ys → told z ∨ ∃ i, i < xs.length ∧ z = nI i
  | [], c, p, _, _, z, hz => by cases c <;> exact absurd hz (by simp [wvG])
  | y :: r, 0, p, hb, _, z, hz => by
    have hbr : ∀ b, b ∈ r → b < 256 := fun b h => hb b (List.mem_cons_of_mem _ h)
    unfold wvG at hz
    by_cases h : cl xs (y :: r) = 0
    · rw [if_pos h] at hz
      rcases List.mem_cons.mp hz with e | hz
      · exact Or.inl ⟨y, hb y (List.mem_cons_self ..), e⟩
      · exact wvG_ok hx r 0 _ hbr (Or.inl rfl) z hz
    · rw [if_neg h] at hz
      have hc := cp_b hx h
      rcases List.mem_cons.mp hz with e | hz
      · exact Or.inr ⟨_, by omega, e⟩
      · exact wvG_ok hx r _ _ hbr (Or.inr (by omega)) z hz
  | y :: r, c + 1, p, hb, hc, z, hz => by
    have hbr : ∀ b, b ∈ r → b < 256 := fun b h => hb b (List.mem_cons_of_mem _ h)
    have hz : z ∈ nI p :: wvG xs c (p + 1) r := hz
    rcases List.mem_cons.mp hz with e | hz
    · exact Or.inr ⟨p, by omega, e⟩
    · exact wvG_ok hx r c (p + 1) hbr (by omega) z hz
theorem okO_m {zs : List Int32} {n : Nat} (h : ∀ z, z ∈ zs → told z ∨ ∃ i, i < n ∧ z = nI i) : okO zs n := fun k hk => by
  have : zs.getD k 0 ∈ zs := by
    rw [List.getD_eq_getElem?_getD, List.getElem?_eq_getElem hk]
    exact List.getElem_mem hk
  exact h _ this
theorem wv_ok {xs ys : List Nat} (hx : xs.length ≤ 48) (hy : ∀ k, k < ys.length → ys.getD k 0 < 256) : okO (wv xs ys) xs.length := okO_m (fun z hz => wvG_ok hx ys 0 0 (fun b hb => by
  obtain ⟨k, hk, e⟩ := List.getElem_of_mem hb
  have := hy k hk
  rw [List.getD_eq_getElem?_getD, List.getElem?_eq_getElem hk] at this
  rw [← e]; exact this) (Or.inl rfl) z hz)
theorem whoD_o (n : Nat) : okO (whoD n) n := fun k hk => by
  rw [whoD_l] at hk
  exact Or.inr ⟨k, hk, whoD_g hk⟩
def okFl (f : Fl) : Prop := okP f.1 ∧ f.1.length ≤ 17 ∧ f.2.length ≤ 48 ∧ ∀ k, k < f.2.length → f.2.getD k 0 < 256
theorem okV_mk {k : Int32} {f g : Fl} (hf : okFl f) (hg : okFl g) (hk : k = 0 ∨ k = 1 ∨ k = 2 ∨ k = 3 ∨ k = 4) (h0 : k = 0 → f.2 = [] ∧ f.1 = g.1) (h1 : k = 1 → g.2 = [] ∧ f.1 = g.1) (h2 : k = 2 → f.1 = g.1) (h3 : k = 3 → f.2 = g.2) : okV (mkS k f g) := by
  have ed : (mkS k f g).2.2.2.2.2.2.2.1.length = g.2.length := by
    show (if k = 3 then whoD f.2.length else wv f.2 g.2).length = _
    by_cases c : k = 3
    · rw [if_pos c, whoD_l, h3 c]
    · rw [if_neg c, wv_l]
  have eb : (mkS k f g).2.2.2.2.2.2.2.2.length = f.2.length := by
    show (if k = 3 then whoD g.2.length else wv g.2 f.2).length = _
    by_cases c : k = 3
    · rw [if_pos c, whoD_l, h3 c]
    · rw [if_neg c, wv_l]
  refine ⟨hk, ⟨hg.1, hf.1, hg.2.1, hf.2.1⟩, ⟨fun c => ?_, fun c => ?_⟩, ⟨fun c => ?_, fun c => ?_⟩, ⟨by rw [ed]; exact hg.2.2.1, by rw [eb]; exact hf.2.2.1⟩, ?_, ?_, fun c => ?_⟩
  · have c : k = 1 := c
    refine ⟨if_pos c, if_pos c, List.length_eq_zero_iff.mp ?_⟩
    rw [ed, (h1 c).1]; rfl
  · have c : ¬ k = 1 := c
    rw [ed]; exact if_neg c
  · have c : k = 0 := c
    refine ⟨if_pos c, if_pos c, List.length_eq_zero_iff.mp ?_⟩
    rw [eb, (h0 c).1]; rfl
  · have c : ¬ k = 0 := c
    rw [eb]; exact if_neg c
  · rw [eb]
    show okO (if k = 3 then whoD f.2.length else wv f.2 g.2) f.2.length
    by_cases c : k = 3
    · rw [if_pos c]; exact whoD_o _
    · rw [if_neg c]; exact wv_ok hf.2.2.1 hg.2.2.2
  · rw [ed]
    show okO (if k = 3 then whoD g.2.length else wv g.2 f.2) g.2.length
    by_cases c : k = 3
    · rw [if_pos c]; exact whoD_o _
    · rw [if_neg c]; exact wv_ok hg.2.2.1 hf.2.2.2
  · show g.1 = f.1
    rcases c with c | c | c
    · exact (h0 c).2.symm
    · exact (h1 c).2.symm
    · exact (h2 c).symm
/-- the inverse -/
theorem invV_0 (w : Sv) : ((invV w).1 = 0 ↔ w.1 = 1) ∧ ((invV w).1 = 1 ↔ w.1 = 0) := by
  show ((if w.1 = 0 then (1 : Int32) else if w.1 = 1 then 0 else w.1) = 0 ↔ _) ∧ ((if w.1 = 0 then (1 : Int32) else if w.1 = 1 then 0 else w.1) = 1 ↔ _)
  by_cases c : w.1 = 0
  · rw [if_pos c, c]; decide
  · rw [if_neg c]
    by_cases c1 : w.1 = 1
    · rw [if_pos c1, c1]; decide
    · rw [if_neg c1]
      exact ⟨⟨fun z => absurd z c, fun z => absurd z c1⟩, ⟨fun z => absurd z c1, fun z => absurd z c⟩⟩
theorem okV_inv {w : Sv} (h : okV w) : okV (invV w) := by
  obtain ⟨h1, ⟨p1, p2, p3, p4⟩, ⟨a1, a2⟩, ⟨b1, b2⟩, ⟨l1, l2⟩, d1, d2, e⟩ := h
  have i0 := invV_0 w
  refine ⟨?_, ⟨p2, p1, p4, p3⟩, ⟨fun c => ?_, fun c => ?_⟩, ⟨fun c => ?_, fun c => ?_⟩, ⟨l2, l1⟩, d2, d1, fun c => ?_⟩
  · show (if w.1 = 0 then (1 : Int32) else if w.1 = 1 then 0 else w.1) = 0 ∨ (if w.1 = 0 then (1 : Int32) else if w.1 = 1 then 0 else w.1) = 1 ∨ (if w.1 = 0 then (1 : Int32) else if w.1 = 1 then 0 else w.1) = 2 ∨ (if w.1 = 0 then (1 : Int32) else if w.1 = 1 then 0 else w.1) = 3 ∨ (if w.1 = 0 then (1 : Int32) else if w.1 = 1 then 0 else w.1) = 4
    by_cases c : w.1 = 0
    · rw [if_pos c]; decide
    · rw [if_neg c]
      by_cases c1 : w.1 = 1
      · rw [if_pos c1]; decide
      · rw [if_neg c1]; exact h1
  · exact b1 (i0.2.mp c)
  · exact b2 (fun z => c (i0.2.mpr z))
  · exact a1 (i0.1.mp c)
  · exact a2 (fun z => c (i0.1.mpr z))
  · show w.2.2.1 = w.2.1
    refine (e ?_).symm
    rcases c with c | c | c
    · exact Or.inr (Or.inl (i0.1.mp c))
    · exact Or.inl (i0.2.mp c)
    · have c : (if w.1 = 0 then (1 : Int32) else if w.1 = 1 then 0 else w.1) = 2 := c
      by_cases c0 : w.1 = 0
      · exact Or.inl c0
      · rw [if_neg c0] at c
        by_cases c1 : w.1 = 1
        · exact Or.inr (Or.inl c1)
        · rw [if_neg c1] at c; exact Or.inr (Or.inr c)
theorem okVs_inv {l : List Sv} (h : okVs l) : okVs (l.map invV) := by
  refine ⟨fun v hv => ?_, List.Pairwise.map invV (fun a b hr => ?_) h.2⟩
  · obtain ⟨w, hw, e⟩ := List.mem_map.mp hv
    rw [← e]; exact okV_inv (h.1 w hw)
  · have ia := invV_0 a
    have ib := invV_0 b
    exact ⟨fun x y z => hr.2 (fun q => x (ia.1.mpr q)) (fun q => y (ib.1.mpr q)) z, fun x y z => hr.1 (fun q => x (ia.2.mpr q)) (fun q => y (ib.2.mpr q)) z⟩
/-- differences -/
theorem okVs_a {l : List Sv} {v : Sv} (h : okVs l) (hv : okV v) (hd : ∀ a, a ∈ l → dsR a v) : okVs (l ++ [v]) := by
  refine ⟨fun a ha => ?_, List.pairwise_append.mpr ⟨h.2, List.pairwise_cons.mpr ⟨fun a ha => absurd ha (List.not_mem_nil), List.Pairwise.nil⟩, fun a ha b hb => ?_⟩⟩
  · rcases List.mem_append.mp ha with ha | ha
    · exact h.1 a ha
    · rw [List.mem_singleton.mp ha]; exact hv
  · rw [List.mem_singleton.mp hb]; exact hd a ha
def inD (fs gs : List Fl) (D : DS) : Prop := okVs D.2.2 ∧ ∀ v, v ∈ D.2.2 → (¬ v.1 = 0 ∧ ¬ v.1 = 1) ∧ (∃ i, i < fs.length ∧ D.1 i = false ∧ v.2.2.1 = (fs.getD i fl0).1) ∧ ∃ j, j < gs.length ∧ D.2.1 j = false ∧ v.2.1 = (gs.getD j fl0).1
theorem setB_f {G : Nat → Bool} {i k : Nat} (h : G k = false) : setB G i k = false := by
  unfold setB
  by_cases c : k = i
  · rw [if_pos c]
  · rw [if_neg c]; exact h
theorem setB_s (G : Nat → Bool) (i : Nat) : setB G i i = false := if_pos rfl
theorem inD_s {fs gs : List Fl} (hF : okT fs) (hG : okT gs) {D : DS} (h : inD fs gs D) {i j : Nat} (hi : i < fs.length) (hj : j < gs.length) (h1 : D.1 i = true) (h2 : D.2.1 j = true) {k : Int32} (hk : ¬ k = 0 ∧ ¬ k = 1) (hv : okV (mkS k (fs.getD i fl0) (gs.getD j fl0))) : inD fs gs (setB D.1 i, setB D.2.1 j, D.2.2 ++ [mkS k (fs.getD i fl0) (gs.getD j fl0)]) := by
  refine ⟨okVs_a h.1 hv (fun a ha => ?_), fun v hv' => ?_⟩
  · obtain ⟨-, ⟨i', hi', gi, ei⟩, j', hj', gj, ej⟩ := h.2 a ha
    refine ⟨fun _ _ z => ?_, fun _ _ z => ?_⟩
    · rw [ei] at z
      have := hF.2.2 i' i hi' hi z
      rw [this, h1] at gi; cases gi
    · rw [ej] at z
      have := hG.2.2 j' j hj' hj z
      rw [this, h2] at gj; cases gj
  · rcases List.mem_append.mp hv' with hv' | hv'
    · obtain ⟨q, ⟨i', hi', gi, ei⟩, j', hj', gj, ej⟩ := h.2 v hv'
      exact ⟨q, ⟨i', hi', setB_f gi, ei⟩, j', hj', setB_f gj, ej⟩
    · rw [List.mem_singleton.mp hv']
      exact ⟨hk, ⟨i, hi, setB_s _ _, rfl⟩, j, hj, setB_s _ _, rfl⟩
def okFs (fs : List Fl) : Prop := ∀ i, i < fs.length → okFl (fs.getD i fl0)
theorem inD_mv {fs gs : List Fl} (hF : okT fs) (hG : okT gs) (oF : okFs fs) (oG : okFs gs) {D : DS} (h : inD fs gs D) : ∀ n, n ≤ gs.length → inD fs gs (mvL fs gs D n)
  | 0, _ => h
  | n + 1, hn => by
    have ih := inD_mv hF hG oF oG h n (by omega)
    have e : mvL fs gs D (n + 1) = mvS fs gs (mvL fs gs D n) n := by unfold mvL; rw [rgF]
    rw [e]
    unfold mvS
    split
    · rename_i c
      have ht := fstI_t (p := fun i => (mvL fs gs D n).1 i && decide ((fs.getD i fl0).2 = (gs.getD n fl0).2)) c.2.2
      have ht := Bool.and_eq_true_iff.mp ht
      exact inD_s hF hG ih c.2.2 (by omega) ht.1 c.1 (by decide) (okV_mk (oF _ c.2.2) (oG _ (by omega)) (by decide) (fun z => absurd z (by decide)) (fun z => absurd z (by decide)) (fun z => absurd z (by decide)) (fun _ => of_decide_eq_true ht.2))
    · exact ih
theorem inD_rn {fs gs : List Fl} (hF : okT fs) (hG : okT gs) (oF : okFs fs) (oG : okFs gs) : ∀ n D, inD fs gs D → inD fs gs (rnL fs gs n D)
  | 0, _, h => h
  | n + 1, D, h => by
    unfold rnL
    split
    · exact h
    · next D' hr =>
      refine inD_rn hF hG oF oG n D' ?_
      unfold rnS at hr
      obtain ⟨⟨i, j⟩, hq, rfl⟩ := Option.map_eq_some_iff.mp hr
      obtain ⟨a1, a2, a3, a4⟩ := bsA_ok _ i j hq
      exact inD_s hF hG h a1 a2 a3 a4 (by decide) (okV_mk (oF _ a1) (oG _ a2) (by decide) (fun z => absurd z (by decide)) (fun z => absurd z (by decide)) (fun z => absurd z (by decide)) (fun z => absurd z (by decide)))
theorem fnd_t {fs : List Fl} {bs : List Nat} (h : fnd fs bs < fs.length) : (fs.getD (fnd fs bs) fl0).1 = bs := of_decide_eq_true (fstI_t (p := fun i => decide ((fs.getD i fl0).1 = bs)) h)
theorem fnd_at {fs : List Fl} (h : okT fs) {i : Nat} (hi : i < fs.length) : fnd fs (fs.getD i fl0).1 = i := h.2.2 _ _ (fnd_lt hi rfl) hi (fnd_t (fnd_lt hi rfl))
theorem chL_m (fs gs : List Fl) (v : Sv) : ∀ n, v ∈ chL fs gs n ↔ ∃ i, i < n ∧ (fnd gs (fs.getD i fl0).1 < gs.length ∧ ¬ (fs.getD i fl0).2 = (gs.getD (fnd gs (fs.getD i fl0).1) fl0).2) ∧ v = mkS 2 (fs.getD i fl0) (gs.getD (fnd gs (fs.getD i fl0).1) fl0)
  | 0 => ⟨fun h => absurd h (by simp [chL]), fun ⟨i, hi, _⟩ => absurd hi (Nat.not_lt_zero _)⟩
  | n + 1 => by
    have e : chL fs gs (n + 1) = chS fs gs (chL fs gs n) n := by unfold chL; rw [rgF]
    rw [e]
    unfold chS
    split
    · rename_i c
      rw [List.mem_append, chL_m fs gs v n, List.mem_singleton]
      refine ⟨fun h => ?_, fun ⟨i, hi, hc, ev⟩ => ?_⟩
      · rcases h with ⟨i, hi, hc, ev⟩ | h
        · exact ⟨i, by omega, hc, ev⟩
        · exact ⟨n, by omega, c, h⟩
      · by_cases w : i = n
        · rw [w] at ev; exact Or.inr ev
        · exact Or.inl ⟨i, by omega, hc, ev⟩
    · rename_i c
      rw [chL_m fs gs v n]
      refine ⟨fun ⟨i, hi, hc, ev⟩ => ⟨i, by omega, hc, ev⟩, fun ⟨i, hi, hc, ev⟩ => ?_⟩
      by_cases w : i = n
      · rw [w] at hc; exact absurd hc c
      · exact ⟨i, by omega, hc, ev⟩
theorem chM_m (fs gs : List Fl) (v : Sv) : ∀ n, v ∈ chM fs gs n ↔ ∃ j, j < n ∧ (fnd fs (gs.getD j fl0).1 < fs.length ∧ ¬ (fs.getD (fnd fs (gs.getD j fl0).1) fl0).2 = (gs.getD j fl0).2) ∧ v = mkS 2 (fs.getD (fnd fs (gs.getD j fl0).1) fl0) (gs.getD j fl0)
  | 0 => ⟨fun h => absurd h (by simp [chM]), fun ⟨i, hi, _⟩ => absurd hi (Nat.not_lt_zero _)⟩
  | n + 1 => by
    rw [chM_s]
    split
    · rename_i c
      rw [List.mem_append, chM_m fs gs v n, List.mem_singleton]
      refine ⟨fun h => ?_, fun ⟨i, hi, hc, ev⟩ => ?_⟩
      · rcases h with ⟨i, hi, hc, ev⟩ | h
        · exact ⟨i, by omega, hc, ev⟩
        · exact ⟨n, by omega, c, h⟩
      · by_cases w : i = n
        · rw [w] at ev; exact Or.inr ev
        · exact Or.inl ⟨i, by omega, hc, ev⟩
    · rename_i c
      rw [chM_m fs gs v n]
      refine ⟨fun ⟨i, hi, hc, ev⟩ => ⟨i, by omega, hc, ev⟩, fun ⟨i, hi, hc, ev⟩ => ?_⟩
      by_cases w : i = n
      · rw [w] at hc; exact absurd hc c
      · exact ⟨i, by omega, hc, ev⟩
theorem chL_ok {fs gs : List Fl} (hF : okT fs) (hG : okT gs) (oF : okFs fs) (oG : okFs gs) : ∀ n, n ≤ fs.length → okVs (chL fs gs n)
  | 0, _ => ⟨fun v hv => absurd hv (by simp [chL]), by unfold chL; exact List.Pairwise.nil⟩
  | n + 1, hn => by
    have ih := chL_ok hF hG oF oG n (by omega)
    have e : chL fs gs (n + 1) = chS fs gs (chL fs gs n) n := by unfold chL; rw [rgF]
    rw [e]
    unfold chS
    split
    · rename_i c
      refine okVs_a ih (okV_mk (oF _ (by omega)) (oG _ c.1) (by decide) (fun z => absurd z (by decide)) (fun z => absurd z (by decide)) (fun _ => (fnd_t c.1).symm) (fun z => absurd z (by decide))) (fun a ha => ?_)
      obtain ⟨i, hi, hc, ev⟩ := (chL_m fs gs a n).mp ha
      have hne : ¬ (fs.getD i fl0).1 = (fs.getD n fl0).1 := fun z => by have := hF.2.2 i n (by omega) (by omega) z; omega
      rw [ev]
      refine ⟨fun _ _ z => hne z, fun _ _ z => hne ?_⟩
      have z : (gs.getD (fnd gs (fs.getD i fl0).1) fl0).1 = (gs.getD (fnd gs (fs.getD n fl0).1) fl0).1 := z
      rw [fnd_t hc.1, fnd_t c.1] at z
      exact z
    · exact ih
theorem chM_ok {fs gs : List Fl} (hF : okT fs) (hG : okT gs) (oF : okFs fs) (oG : okFs gs) : ∀ n, n ≤ gs.length → okVs (chM fs gs n)
  | 0, _ => ⟨fun v hv => absurd hv (by simp [chM]), by unfold chM; exact List.Pairwise.nil⟩
  | n + 1, hn => by
    have ih := chM_ok hF hG oF oG n (by omega)
    rw [chM_s]
    split
    · rename_i c
      refine okVs_a ih (okV_mk (oF _ c.1) (oG _ (by omega)) (by decide) (fun z => absurd z (by decide)) (fun z => absurd z (by decide)) (fun _ => fnd_t c.1) (fun z => absurd z (by decide))) (fun a ha => ?_)
      obtain ⟨i, hi, hc, ev⟩ := (chM_m fs gs a n).mp ha
      have hne : ¬ (gs.getD i fl0).1 = (gs.getD n fl0).1 := fun z => by have := hG.2.2 i n (by omega) (by omega) z; omega
      rw [ev]
      refine ⟨fun _ _ z => hne ?_, fun _ _ z => hne z⟩
      have z : (fs.getD (fnd fs (gs.getD i fl0).1) fl0).1 = (fs.getD (fnd fs (gs.getD n fl0).1) fl0).1 := z
      rw [fnd_t hc.1, fnd_t c.1] at z
      exact z
    · exact ih
theorem ch_pm {fs gs : List Fl} (hF : okT fs) (hG : okT gs) (oF : okFs fs) (oG : okFs gs) : (chL fs gs fs.length).Perm (chM fs gs gs.length) := by
  refine pm_of _ _ (chL_ok hF hG oF oG _ (Nat.le_refl _)).2 (chM_ok hF hG oF oG _ (Nat.le_refl _)).2 (fun v => ?_)
  rw [chL_m, chM_m]
  refine ⟨fun ⟨i, hi, ⟨h1, h2⟩, e⟩ => ?_, fun ⟨j, hj, ⟨h1, h2⟩, e⟩ => ?_⟩
  · have ef : fnd fs (gs.getD (fnd gs (fs.getD i fl0).1) fl0).1 = i := by rw [fnd_t h1]; exact fnd_at hF hi
    exact ⟨fnd gs (fs.getD i fl0).1, h1, ⟨by rw [ef]; exact hi, by rw [ef]; exact h2⟩, by rw [ef]; exact e⟩
  · have ef : fnd gs (fs.getD (fnd fs (gs.getD j fl0).1) fl0).1 = j := by rw [fnd_t h1]; exact fnd_at hG hj
    exact ⟨fnd fs (gs.getD j fl0).1, h1, ⟨by rw [ef]; exact hj, by rw [ef]; exact h2⟩, by rw [ef]; exact e⟩
