/-! 7zj what stays right: TREES, the disk -/
theorem okT_0 : okT [] := ⟨fun i hi => absurd hi (by simp), fun i hi => absurd hi (by simp), fun i j hi => absurd hi (by simp)⟩
theorem okT_p {fs gs : List Fl} (hl : gs.length = fs.length) (hp : ∀ i, i < fs.length → (gs.getD i fl0).1 = (fs.getD i fl0).1) (h : okT fs) : okT gs := by
  refine ⟨fun i hi => by rw [hp i (by omega)]; exact h.1 i (by omega), fun i hi => ?_, fun i j hi hj e => ?_⟩
  · refine barT_f (fun j hj => ?_)
    rw [hp i (by omega), hp j (by omega)]
    exact barT_g (h.2.1 i (by omega)) (by omega)
  · rw [hp i (by omega), hp j (by omega)] at e
    exact h.2.2 i j (by omega) (by omega) e
theorem okT_ins {gs : List Fl} {f : Fl} (h : okT gs) (hf : okP f.1) (h1 : ∀ i, i < gs.length → (gs.getD i fl0).1 ≠ f.1) (h2 : ∀ i, i < gs.length → abvB (gs.getD i fl0).1 f.1 = false ∧ abvB f.1 (gs.getD i fl0).1 = false) : okT (insF gs f) := by
  have hle := insP_le f.1 gs gs.length
  have hm : ∀ i, i < gs.length + 1 → (insF gs f).getD i fl0 = f ∨ ∃ k, k < gs.length ∧ (insF gs f).getD i fl0 = gs.getD k fl0 := fun i hi => insL_mem hle hi
  refine ⟨insF_p h.1 hf, fun i hi => ?_, fun i j hi hj e => ?_⟩
  · rw [insF_l] at hi
    refine barT_f (fun j hj => ?_)
    rw [insF_l] at hj
    rcases hm i hi with ei | ⟨k, hk, ei⟩
    · rw [ei]
      rcases hm j hj with ej | ⟨l, hl, ej⟩
      · rw [ej]; exact ⟨abv_self _, abv_self _⟩
      · rw [ej]; exact h2 l hl
    · rw [ei]
      rcases hm j hj with ej | ⟨l, hl, ej⟩
      · rw [ej]; exact ⟨(h2 k hk).2, (h2 k hk).1⟩
      · rw [ej]; exact barT_g (h.2.1 k hk) hl
  · rw [insF_l] at hi hj
    have ei : (insF gs f).getD i fl0 = _ := insL_at (j := i) hle
    have ej : (insF gs f).getD j fl0 = _ := insL_at (j := j) hle
    rw [ei, ej] at e
    generalize insP f.1 gs gs.length = p at *
    by_cases a1 : i < p
    · rw [if_pos a1] at e
      by_cases b1 : j < p
      · rw [if_pos b1] at e; exact h.2.2 i j (by omega) (by omega) e
      · rw [if_neg b1] at e
        by_cases b2 : j = p
        · rw [if_pos b2] at e; exact absurd e (h1 i (by omega))
        · rw [if_neg b2] at e
          have := h.2.2 i (j - 1) (by omega) (by omega) e
          omega
    · rw [if_neg a1] at e
      by_cases a2 : i = p
      · rw [if_pos a2] at e
        by_cases b1 : j < p
        · rw [if_pos b1] at e; exact absurd e.symm (h1 j (by omega))
        · rw [if_neg b1] at e
          by_cases b2 : j = p
          · omega
          · rw [if_neg b2] at e; exact absurd e.symm (h1 _ (by omega))
      · rw [if_neg a2] at e
        by_cases b1 : j < p
        · rw [if_pos b1] at e
          have := h.2.2 (i - 1) j (by omega) (by omega) e
          omega
        · rw [if_neg b1] at e
          by_cases b2 : j = p
          · rw [if_pos b2] at e; exact absurd e (h1 _ (by omega))
          · rw [if_neg b2] at e
            have := h.2.2 (i - 1) (j - 1) (by omega) (by omega) e
            omega
theorem okT_fold {l : List Fl} (hd : dis l) (hb : noB l) (hp : ∀ i, i < l.length → okP (l.getD i fl0).1) : ∀ n, n ≤ l.length → okT (foldI (l.take n))
  | 0, _ => okT_0
  | n + 1, hn => by
    obtain ⟨h1, h2, h3⟩ := foldI_ok l n (by omega)
    rw [flT (by omega), foldI_a]
    refine okT_ins (okT_fold hd hb hp n (by omega)) (hp n (by omega)) (fun i hi => ?_) (fun i hi => ?_)
    · obtain ⟨k, hk, e⟩ := h2 i (by omega)
      rw [e]
      intro z
      have := hd k n (by omega) (by omega) z
      omega
    · obtain ⟨k, hk, e⟩ := h2 i (by omega)
      rw [e]
      exact ⟨hb k n (by omega) (by omega), hb n k (by omega) (by omega)⟩
theorem okT_tk {gs gs' : List Fl} {f : Fl} (h : okT gs) (hf : okP f.1) (e : tkT gs f = some gs') : okT gs' := by
  unfold tkT at e
  split at e
  · rename_i c
    have e := (Option.some.inj e).symm
    subst e
    have ht : (gs.getD (fnd gs f.1) fl0).1 = f.1 := of_decide_eq_true (fstI_t (p := fun i => decide ((gs.getD i fl0).1 = f.1)) c)
    refine okT_p List.length_set (fun i hi => ?_) h
    rw [setG c]
    by_cases w : i = fnd gs f.1
    · rw [if_pos w, w, ht]
    · rw [if_neg w]
  · rename_i c
    split at e
    · cases e
    · rename_i c2
      split at e
      · cases e
      · have e := (Option.some.inj e).symm
        subst e
        have hb : barT gs f.1 = false := Bool.eq_false_iff.mpr c2
        refine okT_ins h hf (fun i hi w => c ?_) (fun i hi => barT_g hb hi)
        have hle := fstI_le (fun i => decide ((gs.getD i fl0).1 = f.1)) gs.length
        by_cases z : fnd gs f.1 < gs.length
        · exact z
        · have := fstI_f (p := fun i => decide ((gs.getD i fl0).1 = f.1)) (n := gs.length) (i := i) (by show i < fnd gs f.1; omega)
          exact absurd w (of_decide_eq_false this)
theorem okT_del {gs : List Fl} {k : Nat} (h : okT gs) (hk : k < gs.length) : okT (gs.eraseIdx k) := by
  have hl : (gs.eraseIdx k).length = gs.length - 1 := List.length_eraseIdx_of_lt hk
  have hm : ∀ i, i < gs.length - 1 → ∃ j, j < gs.length ∧ (gs.eraseIdx k).getD i fl0 = gs.getD j fl0 ∧ j = (if i < k then i else i + 1) := fun i hi => by
    by_cases c : i < k
    · exact ⟨i, by omega, by rw [eraG, if_pos c], by rw [if_pos c]⟩
    · exact ⟨i + 1, by omega, by rw [eraG, if_neg c], by rw [if_neg c]⟩
  refine ⟨fun i hi => ?_, fun i hi => ?_, fun i j hi hj e => ?_⟩
  · obtain ⟨a, ha, e, _⟩ := hm i (by omega)
    rw [e]; exact h.1 a ha
  · obtain ⟨a, ha, e, _⟩ := hm i (by omega)
    refine barT_f (fun j hj => ?_)
    obtain ⟨b, hb, e', _⟩ := hm j (by omega)
    rw [e, e']; exact barT_g (h.2.1 a ha) hb
  · obtain ⟨a, ha, e1, ea⟩ := hm i (by omega)
    obtain ⟨b, hb, e2, eb⟩ := hm j (by omega)
    rw [e1, e2] at e
    have := h.2.2 a b ha hb e
    split at ea <;> split at eb <;> omega
/-- what is built of a PATCH that fits has no PATH twice -/
theorem dis_a {l : List Fl} {f : Fl} (h : dis l) (hf : ∀ i, i < l.length → (l.getD i fl0).1 ≠ f.1) : dis (l ++ [f]) := fun i j hi hj e => by
  have hl : (l ++ [f]).length = l.length + 1 := by rw [List.length_append]; rfl
  rw [hl] at hi hj
  rw [apX _ _ _ hi, apX _ _ _ hj] at e
  by_cases a : i < l.length
  · rw [if_pos a] at e
    by_cases b : j < l.length
    · rw [if_pos b] at e; exact h i j a b e
    · rw [if_neg b] at e; exact absurd e (hf i a)
  · rw [if_neg a] at e
    by_cases b : j < l.length
    · rw [if_pos b] at e; exact absurd e.symm (hf j b)
    · omega
theorem fnd_lt {fs : List Fl} {bs : List Nat} {i : Nat} (hi : i < fs.length) (e : (fs.getD i fl0).1 = bs) : fnd fs bs < fs.length := by
  by_cases z : fnd fs bs < fs.length
  · exact z
  · have := fstI_f (p := fun i => decide ((fs.getD i fl0).1 = bs)) (n := fs.length) (i := i) (by show i < fnd fs bs; omega)
    exact absurd e (of_decide_eq_false this)
theorem kpL_ok {fs : List Fl} (hT : okT fs) (vs : List Sv) (G : Nat → Bool) : ∀ n, n ≤ fs.length → dis (kpL fs vs G n) ∧ ∀ i, i < (kpL fs vs G n).length → ∃ k, k < n ∧ (kpL fs vs G n).getD i fl0 = fs.getD k fl0 ∧ takA vs G (fs.getD k fl0).1 = false
  | 0, _ => ⟨fun i j hi => absurd hi (by simp [kpL]), fun i hi => absurd hi (by simp [kpL])⟩
  | n + 1, hn => by
    obtain ⟨h1, h2⟩ := kpL_ok hT vs G n (by omega)
    rw [kpL_s]
    split
    · refine ⟨h1, fun i hi => ?_⟩
      obtain ⟨k, hk, e⟩ := h2 i hi
      exact ⟨k, by omega, e⟩
    · rename_i c
      refine ⟨dis_a h1 (fun i hi => ?_), fun i hi => ?_⟩
      · obtain ⟨k, hk, e, _⟩ := h2 i hi
        rw [e]
        intro z
        have := hT.2.2 k n (by omega) (by omega) z
        omega
      · rw [List.length_append] at hi
        rw [apX _ _ _ hi]
        by_cases w : i < (kpL fs vs G n).length
        · rw [if_pos w]
          obtain ⟨k, hk, e⟩ := h2 i w
          exact ⟨k, by omega, e⟩
        · rw [if_neg w]
          exact ⟨n, by omega, rfl, Bool.eq_false_iff.mpr c⟩
theorem adL_ok {fs : List Fl} {vs : List Sv} {G : Nat → Bool} (hT : okT fs) (hV : okVs vs) (hfit : ∀ i, i < vs.length → G i = true → rulA vs fs G (vs.getD i sv0) = 0) : ∀ n, n ≤ vs.length → dis (adL fs vs G (kpL fs vs G fs.length) n) ∧ ∀ i, i < (adL fs vs G (kpL fs vs G fs.length) n).length → (∃ k, k < fs.length ∧ (adL fs vs G (kpL fs vs G fs.length) n).getD i fl0 = fs.getD k fl0 ∧ takA vs G (fs.getD k fl0).1 = false) ∨ ∃ k, k < n ∧ ((adL fs vs G (kpL fs vs G fs.length) n).getD i fl0).1 = (vs.getD k sv0).2.1 ∧ ¬ (vs.getD k sv0).1 = 1
  | 0, _ => by
    obtain ⟨h1, h2⟩ := kpL_ok hT vs G fs.length (Nat.le_refl _)
    exact ⟨h1, fun i hi => Or.inl (h2 i hi)⟩
  | n + 1, hn => by
    obtain ⟨h1, h2⟩ := adL_ok hT hV hfit n (by omega)
    rw [adL_s]
    split
    · rename_i c
      refine ⟨dis_a h1 (fun i hi z => ?_), fun i hi => ?_⟩
      · have z : ((adL fs vs G (kpL fs vs G fs.length) n).getD i fl0).1 = (vs.getD n sv0).2.1 := z
        rcases h2 i hi with ⟨k, hk, e, ht⟩ | ⟨k, hk, e, ht⟩
        · rw [e] at z
          have hr := hfit n (by omega) c.1
          unfold rulA at hr
          split at hr
          · cases hr
          · split at hr
            · cases hr
            · unfold rulB at hr
              rw [if_neg c.2] at hr
              split at hr
              · cases hr
              · rw [if_pos ⟨fnd_lt hk z, by rw [← z]; exact ht⟩] at hr
                cases hr
        · rw [e] at z
          exact (pwG hV.2 hk (by omega)).2 ht c.2 z
      · rw [List.length_append] at hi
        rw [apX _ _ _ hi]
        by_cases w : i < (adL fs vs G (kpL fs vs G fs.length) n).length
        · rw [if_pos w]
          rcases h2 i w with h | ⟨k, hk, e⟩
          · exact Or.inl h
          · exact Or.inr ⟨k, by omega, e⟩
        · rw [if_neg w]
          exact Or.inr ⟨n, by omega, rfl, c.2⟩
    · refine ⟨h1, fun i hi => ?_⟩
      rcases h2 i hi with h | ⟨k, hk, e⟩
      · exact Or.inl h
      · exact Or.inr ⟨k, by omega, e⟩
theorem dis_al {fs : List Fl} {vs : List Sv} {G : Nat → Bool} (hT : okT fs) (hV : okVs vs) (hfit : ∀ i, i < vs.length → G i = true → rulA vs fs G (vs.getD i sv0) = 0) : dis (alL fs vs G) := (adL_ok hT hV hfit vs.length (Nat.le_refl _)).1
theorem okP_al {fs : List Fl} {vs : List Sv} {G : Nat → Bool} (hT : okT fs) (hV : okVs vs) (hfit : ∀ i, i < vs.length → G i = true → rulA vs fs G (vs.getD i sv0) = 0) : ∀ i, i < (alL fs vs G).length → okP ((alL fs vs G).getD i fl0).1 := fun i hi => by
  rcases (adL_ok hT hV hfit vs.length (Nat.le_refl _)).2 i hi with ⟨k, hk, e, _⟩ | ⟨k, hk, e, _⟩
  · rw [show (alL fs vs G).getD i fl0 = _ from e]; exact hT.1 k hk
  · rw [show ((alL fs vs G).getD i fl0).1 = _ from e]; exact (hV.1 _ (Gmem hk)).2.1.1
/-- whatever is answered with a TREE: it is right -/
theorem rnA_fit {vs : List Sv} {fs : List Fl} {st : Bool} : ∀ n G cl, cntB G vs.length ≤ n → (rnA vs fs st n G cl).2.2 = 0 → misA vs fs (rnA vs fs st n G cl).1 = vs.length
  | 0, G, cl, hc, _ => by
    have h1 := fstI_le (fun i => G i && decide (¬ rulA vs fs G (vs.getD i sv0) = 0)) vs.length
    by_cases w : misA vs fs G < vs.length
    · have := cntB_t (misA_t w).1 _ w
      omega
    · have h1 : misA vs fs G ≤ vs.length := h1
      have h2 : vs.length ≤ misA vs fs G := by omega
      exact Nat.le_antisymm h1 h2
  | n + 1, G, cl, hc, h0 => by
    have h1 : misA vs fs G ≤ vs.length := fstI_le (fun i => G i && decide (¬ rulA vs fs G (vs.getD i sv0) = 0)) vs.length
    unfold rnA at h0 ⊢
    by_cases w : misA vs fs G < vs.length
    · rw [if_pos w] at h0 ⊢
      by_cases s : st = true
      · rw [if_pos s] at h0
        exact absurd h0 (misA_t w).2
      · rw [if_neg s] at h0 ⊢
        have := cntB_t (misA_t w).1 _ w
        exact rnA_fit n _ _ (by omega) h0
    · rw [if_neg w]
      have h2 : vs.length ≤ misA vs fs G := by omega
      exact Nat.le_antisymm h1 h2
theorem okT_run {fs : List Fl} {vs : List Sv} {st : Bool} (hT : okT fs) (h10 : fs.length ≤ 10) (hV : okVs vs) (h : runR vs fs st = 0) : okT (runT vs fs st) := by
  unfold runR at h
  split at h
  · rename_i h0
    have hm := rnA_fit vs.length (fun _ => true) [] (by rw [cntB_1]; exact Nat.le_refl _) h0
    have hm : misA vs fs (runA vs fs st).1 = vs.length := hm
    unfold runT
    generalize (runA vs fs st).1 = G at *
    have hfit : ∀ i, i < vs.length → G i = true → rulA vs fs G (vs.getD i sv0) = 0 := fun i hi hg => by
      have := fstI_f (p := fun i => G i && decide (¬ rulA vs fs G (vs.getD i sv0) = 0)) (n := vs.length) (i := i) (by show i < misA vs fs G; rw [hm]; exact hi)
      rw [hg, Bool.true_and] at this
      exact Classical.not_not.mp (of_decide_eq_false this)
    rcases bd2_end hT h10 (dis_al hT hV hfit) with ⟨r1, r2, r3⟩ | ⟨r1, r3⟩
    · rw [r3]
      have := okT_fold (dis_al hT hV hfit) r2 (okP_al hT hV hfit) _ (Nat.le_refl _)
      rw [List.take_length] at this
      exact this
    · rw [r3]; exact okT_0
  · rename_i h0
    exact absurd h h0
/-! the disk -/
theorem rdN_T {D : Dv} (hok : okD2 D) (hl : (dL D).length ≤ 10) : ∀ n, n ≤ (dL D).length → okT (rdN D n)
  | 0, _ => okT_0
  | n + 1, hn => by
    obtain ⟨h1, h2, h3⟩ := rdN_ok hok hl n (by omega)
    rw [h3 (by omega)]
    refine okT_ins (f := (((dL D).getD n le0).1, (D.1 ((dL D).getD n le0).2).getD [])) (rdN_T hok hl n (by omega)) (hok.2.1 n (by omega)) (fun i hi z => ?_) (fun i hi => ?_)
    · obtain ⟨k, hk, e⟩ := h2 i (by omega)
      rw [e] at z
      have := hok.2.2.1 k n (by omega) (by omega) z
      omega
    · obtain ⟨k, hk, e⟩ := h2 i (by omega)
      rw [e]
      exact ⟨hok.2.2.2 k n (by omega) (by omega), hok.2.2.2 n k (by omega) (by omega)⟩
theorem wrI_so {D : Dv} (hok : okD2 D) {ch : Nat → Nat} {n : Nat} {f : Fl} (h : ∀ i, i < n → (D.1 (ch i)).isSome = true) (ht : (wrI D ch n f).2.2 = true) : ∀ i, i < n + 1 → ((wrI D ch n f).1.1 ((wrI D ch n f).2.1 i)).isSome = true := by
  intro i hi
  unfold wrI at ht ⊢
  cases hh : hdS D f.1 f.2 with
  | some s =>
    dsimp only
    show (D.1 (if i = n then s else ch i)).isSome = true
    by_cases c : i = n
    · rw [if_pos c]
      unfold hdS at hh
      cases hs : slO (dL D) f.1 with
      | none => rw [hs] at hh; cases hh
      | some s2 =>
        rw [hs] at hh
        dsimp only at hh
        split at hh
        · have e := Option.some.inj hh
          subst e
          unfold slO at hs
          split at hs
          · rename_i hl
            rw [← Option.some.inj hs]
            exact hok.1 _ hl
          · cases hs
        · cases hh
    · rw [if_neg c]; exact h i (by omega)
  | none =>
    rw [hh] at ht
    dsimp only at ht ⊢
    cases hs : spD D with
    | none => rw [hs] at ht; cases ht
    | some D1 =>
      dsimp only
      have hc := spD_c hs
      generalize fre (dL D) ch n = s
      show (if (if i = n then s else ch i) = s then some f.2 else D1.1 (if i = n then s else ch i)).isSome = true
      by_cases c2 : i = n
      · rw [if_pos c2, if_pos rfl]; rfl
      · rw [if_neg c2]
        by_cases c3 : ch i = s
        · rw [if_pos c3]; rfl
        · rw [if_neg c3, hc.2.2]; exact h i (by omega)
theorem wrL_so {fs : List Fl} {D : Dv} (hok : okD2 D) : ∀ n, (wrL fs D n).2.2 = true → ∀ i, i < n → ((wrL fs D n).1.1 ((wrL fs D n).2.1 i)).isSome = true
  | 0, _, i, hi => absurd hi (Nat.not_lt_zero _)
  | n + 1, ht, i, hi => by
    rw [wrL_s] at ht ⊢
    by_cases c : (wrL fs D n).2.2 = true
    · rw [if_pos c] at ht ⊢
      exact wrI_so (wrL_ok hok n) (wrL_so hok n c) ht i hi
    · rw [if_neg c] at ht; exact absurd ht c
theorem okL_mk {fs : List Fl} {ch : Nat → Nat} (h : okT fs) : okL (mkL fs ch) := by
  have hl : (mkL fs ch).length = fs.length := by unfold mkL; simp
  refine ⟨fun k hk => ?_, fun k l hk hl' e => ?_, fun k l hk hl' => ?_⟩
  · rw [hl] at hk; rw [mkL_g hk]; exact h.1 k hk
  · rw [hl] at hk hl'
    rw [mkL_g hk, mkL_g hl'] at e
    exact h.2.2 k l hk hl' e
  · rw [hl] at hk hl'
    rw [mkL_g hk, mkL_g hl']
    exact (barT_g (h.2.1 l hl') hk).1
theorem okD2_A {fs : List Fl} {D : Dv} (hT : okT fs) (h : okD2 D) : okD2 (wrA fs D).1 := by
  unfold wrA
  split
  · exact h
  · split
    · rename_i ht
      have hok := wrL_ok (fs := fs) h fs.length
      have hso := wrL_so h fs.length ht
      generalize wrL fs D fs.length = r at *
      unfold wrE
      cases hs : spD r.1 with
      | none => exact hok
      | some D1 =>
        dsimp only
        have hc := spD_c hs
        have hne : ¬ D1.2.2.1 = 1 - D1.2.2.1 := by omega
        cases hs3 : spD (liD D1 (1 - D1.2.2.1) (mkL fs r.2.1)) with
        | none =>
          dsimp only
          have hdl : dL (dnD (liD D1 (1 - D1.2.2.1) (mkL fs r.2.1))) = dL r.1 := by
            show (if D1.2.2.1 = 1 - D1.2.2.1 then mkL fs r.2.1 else D1.2.1 D1.2.2.1) = _
            rw [if_neg hne, hc.1, hc.2.1]
          refine ⟨fun k hk => ?_, by rw [hdl]; exact hok.2⟩
          rw [hdl] at hk ⊢
          show (D1.1 _).isSome = true
          rw [hc.2.2]
          exact hok.1 k hk
        | some D3 =>
          dsimp only
          have hc3 := spD_c hs3
          have hdl : dL (ctD D3 (1 - D3.2.2.1)) = mkL fs r.2.1 := by
            show D3.2.1 (1 - D3.2.2.1) = _
            rw [hc3.1, hc3.2.1]
            exact if_pos rfl
          have hl : (mkL fs r.2.1).length = fs.length := by unfold mkL; simp
          refine ⟨fun k hk => ?_, by rw [hdl]; exact okL_mk hT⟩
          rw [hdl, hl] at hk
          rw [hdl, mkL_g hk]
          show (D3.1 _).isSome = true
          rw [hc3.2.2]
          show (D1.1 _).isSome = true
          rw [hc.2.2]
          exact hso k hk
    · exact wrL_ok h fs.length
