/-! 70 Differ: its methods -/
abbrev AD (Λ : yL) (p : Nat) : Nat → Nat → Prop := fun c a => c = 7 ∨ AP Λ p c a
def yDl (Λ : yL) (S : yS) (g : Nat) : Prop := ∀ j, j < 10 → ∃ r, yR S 7 3 g j = some r ∧ yn Λ r 7 (100 + j) g 0 10
/-- all that a Differ looks at: the TREES fs, gs, what is left, the STEPS till now -/
def yX (Λ : yL) (S0 S : yS) (t u p g n m : Nat) (fs gs : List Fl) (D : DS) : Prop := yFr (AD Λ p) S0 S ∧ (yTv Λ S t fs ∧ yTv Λ S u gs) ∧ ((∀ i, i < n → yA S 7 1 g i = bI (D.1 i)) ∧ (∀ j, j < m → yA S 7 2 g j = bI (D.2.1 j)) ∧ yDl Λ S g) ∧ ∃ Q, yPq Λ S p (stV D.2.2) Q
section
variable {Λ : yL} {f0 : xH} {S0 S S' : yS} {t u p g n m o cap d : Nat} {Q : Nat → Nat} {fs gs : List Fl} {D : DS} {bs cs : List Nat} {k x y : Int32} {post : Option Value → xH → Prop}
theorem Tv_le (h : yTv Λ S t fs) : fs.length ≤ 10 := by obtain ⟨_, _, _, _, hl, _⟩ := h; exact hl
theorem Tr_find2 (hT : yTv Λ S t fs) (hO : yB Λ o cap) (hw : yBv S o cap bs) (h : post (some (.int (ixI (fnd fs bs) fs.length))) (yH Λ f0 S)) : xSp xT0 (d + 3) j_Tr_find [.ref t, .ref o] (yH Λ f0 S) post := by
  refine Tr_find_sp hT hO hw (fun k hk e hg => ?_) (fun hg => ?_)
  · have e2 : fnd fs bs = k := fstI_eq (Nat.le_of_lt hk) (fun i hi => decide_eq_false (hg i hi)) (Or.inr (decide_eq_true e))
    rw [e2] at h
    have e3 : ixI k fs.length = nI k := if_pos hk
    rw [e3] at h
    exact h
  · have e2 : fnd fs bs = fs.length := fstI_eq (Nat.le_refl _) (fun i hi => decide_eq_false (hg i hi)) (Or.inl rfl)
    rw [e2] at h
    have e3 : ixI fs.length fs.length = -1 := if_neg (Nat.lt_irrefl _)
    rw [e3] at h
    exact h
/-- frames of class 7 -/
theorem Tv_7 (h : yFr A7 S S') (hv : yTv Λ S t fs) : yTv Λ S' t fs := yFr_Tv h (show ¬ (2 = 7) by decide) (fun _ _ _ _ => (show ¬ (1 = 7) by decide)) hv
theorem Pq_7 {vs : List Sv} (h : yFr A7 S S') (hv : yPq Λ S p vs Q) : yPq Λ S' p vs Q := yFr_Pq h (show ¬ (5 = 7) by decide) (fun _ _ => (show ¬ (4 = 7) by decide)) (fun _ _ => ⟨show ¬ (1 = 7) by decide, show ¬ (3 = 7) by decide⟩) hv
theorem yX_7 (h : yX Λ S0 S t u p g n m fs gs D) (hf : yFr A7 S S') {D' : DS} (h2 : D'.2.2 = D.2.2) (hG : ∀ i, i < n → yA S' 7 1 g i = bI (D'.1 i)) (hN : ∀ i, i < m → yA S' 7 2 g i = bI (D'.2.1 i)) (hl : yDl Λ S' g) : yX Λ S0 S' t u p g n m fs gs D' := by
  obtain ⟨k0, ⟨hT, hU⟩, h3, Q, hP⟩ := h
  refine ⟨yFr_tr k0 (yFr_mo hf (fun _ _ z => Or.inl z)), ⟨Tv_7 hf hT, Tv_7 hf hU⟩, ⟨hG, hN, hl⟩, Q, ?_⟩
  rw [h2]
  exact Pq_7 hf hP
theorem yDl_A {j : Nat} {r : Nat → Int32} (h : yDl Λ S g) : yDl Λ (ywA S 7 j g r) g := h
theorem yX_G {i : Nat} (h : yX Λ S0 S t u p g n m fs gs D) : yX Λ S0 (ywA S 7 1 g (upd (yA S 7 1 g) i 0)) t u p g n m fs gs (setB D.1 i, D.2) := by
  refine yX_7 h (yFr_wA rfl) rfl (fun k hk => ?_) (fun k hk => ?_) h.2.2.1.2.2
  · rw [yA_s]
    by_cases e : k = i
    · rw [e, pk_us]
      show _ = bI (if i = i then false else D.1 i)
      rw [if_pos rfl]
      rfl
    · rw [pk_un e]
      show _ = bI (if k = i then false else D.1 k)
      rw [if_neg e]
      exact h.2.2.1.1 k hk
  · rw [yA_n _ _ (by omega)]; exact h.2.2.1.2.1 k hk
theorem yX_N {i : Nat} (h : yX Λ S0 S t u p g n m fs gs D) : yX Λ S0 (ywA S 7 2 g (upd (yA S 7 2 g) i 0)) t u p g n m fs gs (D.1, setB D.2.1 i, D.2.2) := by
  refine yX_7 h (yFr_wA rfl) rfl (fun k hk => ?_) (fun k hk => ?_) h.2.2.1.2.2
  · rw [yA_n _ _ (by omega)]; exact h.2.2.1.1 k hk
  · rw [yA_s]
    by_cases e : k = i
    · rw [e, pk_us]
      show _ = bI (if i = i then false else D.2.1 i)
      rw [if_pos rfl]
      rfl
    · rw [pk_un e]
      show _ = bI (if k = i then false else D.2.1 k)
      rw [if_neg e]
      exact h.2.2.1.2.1 k hk
theorem yX_add (hW : yW Λ) (hD : yDf Λ g) (tg : yTop Λ g) (tt : yTop Λ t) (tu : yTop Λ u) (h : yX Λ S0 S t u p g n m fs gs D) (hn : D.2.2.length < 24) {f e : Fl} (hi : (∃ i, i < fs.length ∧ x = nI i ∧ f = fs.getD i fl0) ∨ (x = -1 ∧ k = 0 ∧ f = (e.1, []))) (hj : (∃ j, j < gs.length ∧ y = nI j ∧ e = gs.getD j fl0) ∨ (y = -1 ∧ k = 1 ∧ e = (f.1, []))) (he : k = 0 ∨ k = 1 → f.1 = e.1) (hp : ∀ S', yX Λ S0 S' t u p g n m fs gs (D.1, D.2.1, D.2.2 ++ [mkS k f e]) → post none (yH Λ f0 S')) : xSp xT0 (d + 5) j_Di_addStep [.ref g, .int k, .ref t, .int x, .ref u, .int y, .ref p] (yH Λ f0 S) post := by
  obtain ⟨k0, ⟨hT, hU⟩, ⟨hG, hN, hL⟩, Q, hP⟩ := h
  refine Di_addStep_sp hW hD hT hU tt tu hP (by rw [stV_l]; exact hn) hi hj he (fun S' Q' k1 hp1 => hp S' ?_)
  have n7 : ¬ AP Λ p 7 g := by
    rintro (z | z | z | z)
    · exact absurd z (by decide)
    · exact yo_ne hD.1 hP.1.1 (by decide) z
    · exact yo_ne tg.1 hP.1.1 (by decide) z
    · rw [tg.2] at z; exact yo_ne tg.1 hP.1.1 (by decide) z
  refine ⟨yFr_tr k0 (yFr_mo k1 (fun _ _ z => Or.inr z)), ⟨Tv_AP k1 hP.1 tt hT, Tv_AP k1 hP.1 tu hU⟩, ⟨fun i hi => ?_, fun i hi => ?_, fun j hj => ?_⟩, Q', ?_⟩
  · rw [(k1 7 1 g n7).2.1]; exact hG i hi
  · rw [(k1 7 2 g n7).2.1]; exact hN i hi
  · rw [(k1 7 3 g n7).2.2]; exact hL j hj
  · rw [stV_a]; exact hp1
theorem Di_firstGoneWith_sp (hD : yDf Λ g) (h : yX Λ S0 S t u p g fs.length m fs gs D) (hO : yB Λ o cap) (hv : yBv S o cap cs) (hp : post (some (.int (ixI (fstI (fun i => D.1 i && decide ((fs.getD i fl0).2 = cs)) fs.length) fs.length))) (yH Λ f0 S)) : xSp xT0 (d + 3) j_Di_firstGoneWith [.ref g, .ref o, .ref t] (yH Λ f0 S) post := by
  have hT := h.2.1.1
  have hl := Tv_le hT
  refine xSp_of (M := m_Di_firstGoneWith) rfl (b_Di_firstGoneWith_0 ?_)
  have hlo : ∀ i, i ≤ fs.length → ((∀ i', i' < i → (D.1 i' && decide ((fs.getD i' fl0).2 = cs)) = false) → xWp (xT0, xSp xT0 (d + 2), none, m_Di_firstGoneWith, post) 2 [some (.ref g), some (.ref o), some (.ref t), some (.int (nI i))] [] (yH Λ f0 S) 0 0) := by
    refine loopUp ?_ ?_
    · intro hg
      refine b_Di_firstGoneWith_2 ⟨yex hT.1.1, Tr_size_sp hT (brle (by omega) (by omega) (fun _ => ?_) (fun q => absurd q (by omega)))⟩
      rw [fstI_eq (Nat.le_refl _) hg (Or.inl rfl)] at hp
      have e3 : ixI fs.length fs.length = -1 := if_neg (Nat.lt_irrefl _)
      rw [e3] at hp
      exact hp
    · intro i hi ih hg
      refine b_Di_firstGoneWith_2 ⟨yex hT.1.1, Tr_size_sp hT (brle (by omega) (by omega) (fun q => absurd q (by omega)) (fun _ => ygr hD.1 rfl (yal hD.2.2.1 (vp_in_nI (by omega) (by omega)) ?_)))⟩
      rw [nI_clamp (by omega), h.2.2.1.1 i hi, nI_1]
      refine brB (fun q => ih (fun i' hi' => ?_)) (fun q => ⟨yex hT.1.1, Tr_cAt hT (Or.inl ⟨i, hi, rfl, rfl⟩) (fun q1 c1 B1 v1 o1 l1 => ⟨yex B1.1, By_equalTo_sp B1 hO v1 hv ?_⟩)⟩)
      · by_cases z : i' = i
        · rw [z, q]; rfl
        · exact hg i' (by omega)
      · by_cases e : (fs.getD i fl0).2 = cs
        · rw [if_pos e]
          refine ⟨fun c => absurd c (by decide), fun _ => ?_⟩
          rw [fstI_eq (Nat.le_of_lt hi) hg (Or.inr (by rw [q]; exact decide_eq_true e))] at hp
          have e3 : ixI i fs.length = nI i := if_pos hi
          rw [e3] at hp
          exact hp
        · rw [if_neg e]
          refine ⟨fun _ => ih (fun i' hi' => ?_), fun c => absurd rfl c⟩
          by_cases z : i' = i
          · rw [z, decide_eq_false e, Bool.and_false]
          · exact hg i' (by omega)
  exact hlo 0 (Nat.zero_le _) (fun i hi => absurd hi (Nat.not_lt_zero _))
theorem Di_addMoves_sp (hW : yW Λ) (hD : yDf Λ g) (tg : yTop Λ g) (tt : yTop Λ t) (tu : yTop Λ u) (h : yX Λ S0 S t u p g fs.length gs.length fs gs D) (hok : okD fs D) (hp : ∀ S', yX Λ S0 S' t u p g fs.length gs.length fs gs (mvL fs gs D gs.length) → post none (yH Λ f0 S')) : xSp xT0 (d + 6) j_Di_addMoves [.ref g, .ref t, .ref u, .ref p] (yH Λ f0 S) post := by
  have hl := Tv_le h.2.1.1
  have hl2 := Tv_le h.2.1.2
  refine xSp_of (M := m_Di_addMoves) rfl (b_Di_addMoves_0 ?_)
  have hlo : ∀ j, j ≤ gs.length → (∀ S1 (u5 : Option Value), yX Λ S0 S1 t u p g fs.length gs.length fs gs (mvL fs gs D j) → xWp (xT0, xSp xT0 (d + 5), none, m_Di_addMoves, post) 3 [some (.ref g), some (.ref t), some (.ref u), some (.ref p), some (.int (nI j)), u5] [] (yH Λ f0 S1) 0 0) := by
    refine loopUp ?_ ?_
    · intro S1 u5 h1
      exact b_Di_addMoves_3 ⟨yex h1.2.1.2.1.1, Tr_size_sp h1.2.1.2 (brle (by omega) (by omega) (fun _ => hp S1 h1) (fun q => absurd q (by omega)))⟩
    · intro j hj ih S1 u5 h1
      have hok1 := okD_mvL (gs := gs) hok j
      have hs : mvL fs gs D (j + 1) = mvS fs gs (mvL fs gs D j) j := by unfold mvL; rw [rgF]
      rw [hs] at ih
      generalize mvL fs gs D j = D1 at *
      have hT1 := h1.2.1.1
      have hU1 := h1.2.1.2
      refine b_Di_addMoves_3 ⟨yex hU1.1.1, Tr_size_sp hU1 (brle (by omega) (by omega) (fun q => absurd q (by omega)) (fun _ => ygr hD.1 rfl (yal hD.2.2.2.1 (vp_in_nI (by omega) (by omega)) ?_)))⟩
      rw [nI_clamp (by omega), h1.2.2.1.2.1 j hj, nI_1]
      refine brB (fun q => ?_) (fun q => ⟨yex hU1.1.1, Tr_cAt hU1 (Or.inl ⟨j, hj, rfl, rfl⟩) (fun q1 c1 B1 v1 o1 l1 => ⟨yex B1.1, By_size_sp B1 v1 (brle (b := 0) (by omega) (by omega) (fun z => ?_) (fun z => ?_))⟩)⟩)
      · have e : mvS fs gs D1 j = D1 := if_neg (fun z => absurd (q.symm.trans z.1) (by decide))
        rw [e] at ih
        exact ih S1 u5 h1
      · have e : mvS fs gs D1 j = D1 := if_neg (fun w => by omega)
        rw [e] at ih
        exact ih S1 u5 h1
      · refine ⟨yex hU1.1.1, Tr_cAt hU1 (Or.inl ⟨j, hj, rfl, rfl⟩) (fun q2 c2 B2 v2 o2 l2 => ⟨yex hD.1, Di_firstGoneWith_sp hD h1 B2 v2 ?_⟩)⟩
        have em : fstI (fun i => D1.1 i && decide ((fs.getD i fl0).2 = (gs.getD j fl0).2)) fs.length = mvI fs gs D1 j := rfl
        rw [em]
        refine xviI (brix (by omega) (fun w => ?_) (fun w e => ⟨yex hD.1, ?_⟩))
        · have e : mvS fs gs D1 j = D1 := if_neg (fun y => w y.2.2)
          rw [e] at ih
          exact ih S1 _ h1
        · have e1 : mvS fs gs D1 j = (setB D1.1 (mvI fs gs D1 j), setB D1.2.1 j, D1.2.2 ++ [mkS 3 (fs.getD (mvI fs gs D1 j) fl0) (gs.getD j fl0)]) := if_pos ⟨q, z, w⟩
          rw [e1] at ih
          have hlen : D1.2.2.length < 24 := by
            have : D1.2.2.length + cntB D1.1 fs.length ≤ fs.length := hok1
            omega
          rw [e]
          refine yX_add hW hD tg tt tu h1 hlen (Or.inl ⟨_, w, rfl, rfl⟩) (Or.inl ⟨j, hj, rfl, rfl⟩) (fun z => absurd z (by decide)) (fun S2 h2 => ygr hD.1 rfl (yas hD.2.2.1 (yW_n hW hD.2.2.1) (vp_in_nI (by omega) (by omega)) (ygr hD.1 rfl (yas hD.2.2.2.1 (yW_n hW hD.2.2.2.1) (vp_in_nI (by omega) (by omega)) ?_))))
          rw [nI_clamp (by omega), nI_clamp (by omega)]
          exact ih _ _ (yX_N (yX_G h2))
  exact hlo 0 (Nat.zero_le _) S none h
theorem Di_addOthers_sp (hW : yW Λ) (hD : yDf Λ g) (tg : yTop Λ g) (tt : yTop Λ t) (tu : yTop Λ u) (h : yX Λ S0 S t u p g fs.length gs.length fs gs D) (hok : okD fs D) (hp : ∀ S', yX Λ S0 S' t u p g fs.length gs.length fs gs (D.1, D.2.1, otN gs D.2.1 (otG fs D.1 D.2.2 fs.length) gs.length) → post none (yH Λ f0 S')) : xSp xT0 (d + 6) j_Di_addOthers [.ref g, .ref t, .ref u, .ref p] (yH Λ f0 S) post := by
  have hl := Tv_le h.2.1.1
  have hl2 := Tv_le h.2.1.2
  have hok : D.2.2.length + cntB D.1 fs.length ≤ fs.length := hok
  refine xSp_of (M := m_Di_addOthers) rfl (b_Di_addOthers_0 ?_)
  have h42 : ∀ j, j ≤ gs.length → (∀ S1, yX Λ S0 S1 t u p g fs.length gs.length fs gs (D.1, D.2.1, otN gs D.2.1 (otG fs D.1 D.2.2 fs.length) j) → xWp (xT0, xSp xT0 (d + 5), none, m_Di_addOthers, post) 42 [some (.ref g), some (.ref t), some (.ref u), some (.ref p), some (.int (nI j))] [] (yH Λ f0 S1) 0 0) := by
    refine loopUp ?_ ?_
    · intro S1 h1
      exact b_Di_addOthers_42 ⟨yex h1.2.1.2.1.1, Tr_size_sp h1.2.1.2 (brle (by omega) (by omega) (fun _ => hp S1 h1) (fun q => absurd q (by omega)))⟩
    · intro j hj ih S1 h1
      have hs : otN gs D.2.1 (otG fs D.1 D.2.2 fs.length) (j + 1) = if D.2.1 j = true then otN gs D.2.1 (otG fs D.1 D.2.2 fs.length) j ++ [mkS 0 ((gs.getD j fl0).1, []) (gs.getD j fl0)] else otN gs D.2.1 (otG fs D.1 D.2.2 fs.length) j := by
        unfold otN; rw [rgF]
      have hlen : (otN gs D.2.1 (otG fs D.1 D.2.2 fs.length) j).length < 24 := by
        have a := otN_len gs D.2.1 (otG fs D.1 D.2.2 fs.length) j
        have b := otG_len fs D.1 D.2.2 fs.length
        have c := cntB_le D.2.1 j
        omega
      rw [hs] at ih
      refine b_Di_addOthers_42 ⟨yex h1.2.1.2.1.1, Tr_size_sp h1.2.1.2 (brle (by omega) (by omega) (fun q => absurd q (by omega)) (fun _ => ygr hD.1 rfl (yal hD.2.2.2.1 (vp_in_nI (by omega) (by omega)) ?_)))⟩
      rw [nI_clamp (by omega), h1.2.2.1.2.1 j hj, nI_1]
      refine brB (fun q => ?_) (fun q => ⟨yex hD.1, yX_add hW hD tg tt tu h1 hlen (Or.inr ⟨rfl, rfl, rfl⟩) (Or.inl ⟨j, hj, rfl, rfl⟩) (fun _ => rfl) (fun S2 h2 => ?_)⟩)
      · rw [if_neg (by rw [show D.2.1 j = false from q]; decide)] at ih
        exact ih S1 h1
      · rw [if_pos (show D.2.1 j = true from q)] at ih
        exact ih S2 h2
  have h3 : ∀ i, i ≤ fs.length → (∀ S1, yX Λ S0 S1 t u p g fs.length gs.length fs gs (D.1, D.2.1, otG fs D.1 D.2.2 i) → xWp (xT0, xSp xT0 (d + 5), none, m_Di_addOthers, post) 3 [some (.ref g), some (.ref t), some (.ref u), some (.ref p), some (.int (nI i))] [] (yH Λ f0 S1) 0 0) := by
    refine loopUp ?_ ?_
    · intro S1 h1
      exact b_Di_addOthers_3 ⟨yex h1.2.1.1.1.1, Tr_size_sp h1.2.1.1 (brle (by omega) (by omega) (fun _ => h42 0 (Nat.zero_le _) S1 h1) (fun q => absurd q (by omega)))⟩
    · intro i hi ih S1 h1
      have hs : otG fs D.1 D.2.2 (i + 1) = if D.1 i = true then otG fs D.1 D.2.2 i ++ [mkS 1 (fs.getD i fl0) ((fs.getD i fl0).1, [])] else otG fs D.1 D.2.2 i := by
        unfold otG; rw [rgF]
      have hlen : (otG fs D.1 D.2.2 i).length < 24 := by
        have b := otG_len fs D.1 D.2.2 i
        have c := cntB_le D.1 i
        omega
      rw [hs] at ih
      refine b_Di_addOthers_3 ⟨yex h1.2.1.1.1.1, Tr_size_sp h1.2.1.1 (brle (by omega) (by omega) (fun q => absurd q (by omega)) (fun _ => ygr hD.1 rfl (yal hD.2.2.1 (vp_in_nI (by omega) (by omega)) ?_)))⟩
      rw [nI_clamp (by omega), h1.2.2.1.1 i hi, nI_1]
      refine brB (fun q => ?_) (fun q => ⟨yex hD.1, yX_add hW hD tg tt tu h1 hlen (Or.inl ⟨i, hi, rfl, rfl⟩) (Or.inr ⟨rfl, rfl, rfl⟩) (fun _ => rfl) (fun S2 h2 => ?_)⟩)
      · rw [if_neg (by rw [show D.1 i = false from q]; decide)] at ih
        exact ih S1 h1
      · rw [if_pos (show D.1 i = true from q)] at ih
        exact ih S2 h2
  exact h3 0 (Nat.zero_le _) S h
end
