/-! 72 Differ: difference -/
section
variable {Λ : yL} {f0 : xH} {S0 S S' : yS} {t u p g n m o cap d : Nat} {Q : Nat → Nat} {fs gs : List Fl} {D D0 : DS} {bs cs : List Nat} {k x y : Int32} {post : Option Value → xH → Prop}
theorem yX_Gs {b : Bool} (h : yX Λ S0 S t u p g n m fs gs D) (hb : D.1 n = b) : yX Λ S0 (ywA S 7 1 g (upd (yA S 7 1 g) n (bI b))) t u p g (n + 1) m fs gs D := by
  obtain ⟨k0, ⟨hT, hU⟩, ⟨hG, hN, hL⟩, Q, hP⟩ := h
  have hf : yFr A7 S (ywA S 7 1 g (upd (yA S 7 1 g) n (bI b))) := yFr_wA rfl
  refine ⟨yFr_tr k0 (yFr_mo hf (fun _ _ z => Or.inl z)), ⟨Tv_7 hf hT, Tv_7 hf hU⟩, ⟨fun i hi => ?_, fun j hj => ?_, hL⟩, Q, Pq_7 hf hP⟩
  · rw [yA_s]
    by_cases e : i = n
    · rw [e, pk_us, hb]
    · rw [pk_un e]; exact hG i (by omega)
  · rw [yA_n _ _ (by omega)]; exact hN j hj
theorem yX_Ns {b : Bool} (h : yX Λ S0 S t u p g n m fs gs D) (hb : D.2.1 m = b) : yX Λ S0 (ywA S 7 2 g (upd (yA S 7 2 g) m (bI b))) t u p g n (m + 1) fs gs D := by
  obtain ⟨k0, ⟨hT, hU⟩, ⟨hG, hN, hL⟩, Q, hP⟩ := h
  have hf : yFr A7 S (ywA S 7 2 g (upd (yA S 7 2 g) m (bI b))) := yFr_wA rfl
  refine ⟨yFr_tr k0 (yFr_mo hf (fun _ _ z => Or.inl z)), ⟨Tv_7 hf hT, Tv_7 hf hU⟩, ⟨fun i hi => ?_, fun j hj => ?_, hL⟩, Q, Pq_7 hf hP⟩
  · rw [yA_n _ _ (by omega)]; exact hG i hi
  · rw [yA_s]
    by_cases e : j = m
    · rw [e, pk_us, hb]
    · rw [pk_un e]; exact hN j (by omega)
theorem Di_difference_sp (hW : yW Λ) (hD : yDf Λ g) (hL : yDl Λ S g) (tg : yTop Λ g) (tt : yTop Λ t) (tu : yTop Λ u) (tp : yTop Λ p) (hT : yTv Λ S t fs) (hU : yTv Λ S u gs) {vs : List Sv} (hP : yPq Λ S p vs Q) (hp : ∀ S' Q', yFr (AD Λ p) S S' → yDl Λ S' g → yPq Λ S' p (stV (difX fs gs)) Q' → post none (yH Λ f0 S')) : xSp xT0 (d + 7) j_Di_difference [.ref g, .ref t, .ref u, .ref p] (yH Λ f0 S) post := by
  have hl := Tv_le hT
  have hl2 := Tv_le hU
  refine xSp_of (M := m_Di_difference) rfl (b_Di_difference_0 ⟨yex hP.1.1, Pa_empty_sp hP.1 ?_⟩)
  show xWp _ _ _ _ _ _ _
  have h91 : ∀ j, j ≤ gs.length → (∀ S1 (u5 : Option Value), yX Λ S S1 t u p g fs.length j fs gs (gone0 fs gs, gone0 gs fs, chL fs gs fs.length) → xWp (xT0, xSp xT0 (d + 6), none, m_Di_difference, post) 91 [some (.ref g), some (.ref t), some (.ref u), some (.ref p), some (.int (nI j)), u5] [] (yH Λ f0 S1) 0 0) := by
    refine loopUp ?_ ?_
    · intro S1 u5 h1
      refine b_Di_difference_91 ⟨yex h1.2.1.2.1.1, Tr_size_sp h1.2.1.2 (brle (by omega) (by omega) (fun _ => ⟨yex hD.1, ?_⟩) (fun q => absurd q (by omega)))⟩
      have hok : okD fs (gone0 fs gs, gone0 gs fs, chL fs gs fs.length) := okD_ch fs gs fs.length
      refine Di_addMoves_sp hW hD tg tt tu h1 hok (fun S2 h2 => ⟨yex hD.1, ?_⟩)
      have hok2 := okD_mvL (gs := gs) hok gs.length
      refine Di_addMovesWithChange_sp hW hD tg tt tu h2 hok2 (fun S3 h3 => ⟨yex hD.1, ?_⟩)
      have hok3 := rnL_ok (gs := gs) 10 _ hok2
      refine Di_addOthers_sp hW hD tg tt tu h3 hok3 (fun S4 h4 => ?_)
      obtain ⟨Q4, hP4⟩ := h4.2.2.2
      exact hp S4 Q4 h4.1 h4.2.2.1.2.2 hP4
    · intro j hj ih S1 u5 h1
      have hT1 := h1.2.1.1
      have hU1 := h1.2.1.2
      refine b_Di_difference_91 ⟨yex hU1.1.1, Tr_size_sp hU1 (brle (by omega) (by omega) (fun q => absurd q (by omega)) (fun _ => ygr hD.1 rfl ⟨yex hU1.1.1, Tr_pAt hU1 hj (fun q1 B1 v1 o1 => ⟨yex hT1.1.1, Tr_find2 hT1 B1 v1 ?_⟩)⟩))⟩
      refine xviI (brixn (by omega) (fun q e => yas hD.2.2.2.1 (yW_n hW hD.2.2.2.1) (vp_in_nI (by omega) (by omega)) ?_) (fun q => yas hD.2.2.2.1 (yW_n hW hD.2.2.2.1) (vp_in_nI (by omega) (by omega)) ?_))
      · rw [nI_clamp (by omega), nI_1]
        exact ih _ _ (yX_Ns (b := false) h1 (decide_eq_false (fun z => z q)))
      · rw [nI_clamp (by omega), nI_1]
        exact ih _ _ (yX_Ns (b := true) h1 (decide_eq_true q))
  have h7 : ∀ i, i ≤ fs.length → (∀ S1 (u5 : Option Value), yX Λ S S1 t u p g i 0 fs gs (gone0 fs gs, gone0 gs fs, chL fs gs i) → xWp (xT0, xSp xT0 (d + 6), none, m_Di_difference, post) 7 [some (.ref g), some (.ref t), some (.ref u), some (.ref p), some (.int (nI i)), u5] [] (yH Λ f0 S1) 0 0) := by
    refine loopUp ?_ ?_
    · intro S1 u5 h1
      exact b_Di_difference_7 ⟨yex h1.2.1.1.1.1, Tr_size_sp h1.2.1.1 (brle (by omega) (by omega) (fun _ => h91 0 (Nat.zero_le _) S1 u5 h1) (fun q => absurd q (by omega)))⟩
    · intro i hi ih S1 u5 h1
      have hT1 := h1.2.1.1
      have hU1 := h1.2.1.2
      have hs : chL fs gs (i + 1) = chS fs gs (chL fs gs i) i := by unfold chL; rw [rgF]
      have hlen : (chL fs gs i).length < 24 := by have := okD_ch fs gs i; omega
      rw [hs] at ih
      refine b_Di_difference_7 ⟨yex hT1.1.1, Tr_size_sp hT1 (brle (by omega) (by omega) (fun q => absurd q (by omega)) (fun _ => ⟨yex hT1.1.1, Tr_pAt hT1 hi (fun q1 B1 v1 o1 => ⟨yex hU1.1.1, Tr_find2 hU1 B1 v1 (ygr hD.1 rfl ?_)⟩)⟩))⟩
      have h45 : ∀ b : Bool, gone0 fs gs i = b → xWp (xT0, xSp xT0 (d + 6), none, m_Di_difference, post) 45 [some (.ref g), some (.ref t), some (.ref u), some (.ref p), some (.int (nI i)), some (.int (ixI (fnd gs (fs.getD i fl0).1) gs.length))] [.int (bI b), .int (nI i), .ref (Λ.2.1 7 1 g)] (yH Λ f0 S1) 0 0 := by
        intro b hb
        refine b_Di_difference_45 ⟨by cases b; exact Or.inl rfl; exact Or.inr rfl, yas hD.2.2.1 (yW_n hW hD.2.2.1) (vp_in_nI (by omega) (by omega)) ?_⟩
        rw [nI_clamp (by omega), nI_1]
        have h2 := yX_Gs (b := b) h1 hb
        have hT2 := h2.2.1.1
        have hU2 := h2.2.1.2
        refine brix (by omega) (fun q => ?_) (fun q e => ⟨yex hT2.1.1, Tr_cAt hT2 (Or.inl ⟨i, hi, rfl, rfl⟩) (fun q1 c1 B1 v1 o1 l1 => ⟨yex hU2.1.1, ?_⟩)⟩)
        · have e : chS fs gs (chL fs gs i) i = chL fs gs i := if_neg (fun z => q z.1)
          rw [e] at ih
          exact ih _ _ h2
        · rw [e]
          refine Tr_cAt hU2 (Or.inl ⟨_, q, rfl, rfl⟩) (fun q2 c2 B2 v2 o2 l2 => ⟨yex B1.1, By_equalTo_sp B1 B2 v1 v2 ?_⟩)
          by_cases e2 : (fs.getD i fl0).2 = (gs.getD (fnd gs (fs.getD i fl0).1) fl0).2
          · rw [if_pos e2]
            refine ⟨fun _ => ?_, fun c => absurd (by decide) c⟩
            have e3 : chS fs gs (chL fs gs i) i = chL fs gs i := if_neg (fun z => z.2 e2)
            rw [e3] at ih
            exact ih _ _ h2
          · rw [if_neg e2]
            refine ⟨fun c => absurd rfl c, fun _ => ⟨yex hD.1, yX_add hW hD tg tt tu h2 hlen (Or.inl ⟨i, hi, rfl, rfl⟩) (Or.inl ⟨_, q, rfl, rfl⟩) (fun z => absurd z (by decide)) (fun S3 h3 => ?_)⟩⟩
            have e3 : chS fs gs (chL fs gs i) i = chL fs gs i ++ [mkS 2 (fs.getD i fl0) (gs.getD (fnd gs (fs.getD i fl0).1) fl0)] := if_pos ⟨q, e2⟩
            rw [e3] at ih
            exact ih _ _ h3
      exact brixn (by omega) (fun q e => h45 false (decide_eq_false (fun z => z q))) (fun q => h45 true (decide_eq_true q))
  refine h7 0 (Nat.zero_le _) _ none ⟨yFr_wI (Or.inr (Or.inr (Or.inl rfl))), ⟨?_, ?_⟩, ⟨fun i hi => absurd hi (Nat.not_lt_zero _), fun i hi => absurd hi (Nat.not_lt_zero _), hL⟩, Q, yPq_e hP⟩
  · exact Tv_AP (p := p) (yFr_wI (Or.inr (Or.inl rfl))) hP.1 tt hT
  · exact Tv_AP (p := p) (yFr_wI (Or.inr (Or.inl rfl))) hP.1 tu hU
end
