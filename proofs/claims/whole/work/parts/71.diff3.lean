/-! 71 Differ: likeness, the rounds, the whole PATCH -/
def p1I (q : Option (Nat × Nat)) : Int32 := match q with
  | none => -1
  | some z => nI z.1
def p2I (q : Option (Nat × Nat)) : Int32 := match q with
  | none => -1
  | some z => nI z.2
theorem lkV_b (xs ys : List Nat) (h : xs.length ≤ 48) : lkV xs ys ≤ 96000 := by
  unfold lkV
  split
  · omega
  · have h1 := lcs_b xs ys
    have h2 : 2000 * lcs xs ys / (xs.length + ys.length) ≤ 2000 * lcs xs ys := Nat.div_le_self _ _
    omega
section
variable {Λ : yL} {f0 : xH} {S0 S S' : yS} {t u p g n m o cap d : Nat} {Q : Nat → Nat} {fs gs : List Fl} {D D0 : DS} {bs cs : List Nat} {k x y : Int32} {post : Option Value → xH → Prop}
/-- the row of likeness, as it was measured -/
def yLk (S : yS) (g : Nat) (fs gs : List Fl) (D : DS) (j i : Nat) : Prop := yA S 7 (100 + j) g i = nI (if D.2.1 j = true ∧ D.1 i = true then lkF fs gs j i else 0)
theorem Tv_48 (h : yTv Λ S t fs) {i : Nat} (hi : i < fs.length) : (fs.getD i fl0).2.length ≤ 48 := by
  obtain ⟨_, _, _, _, _, _, _, hb⟩ := h
  exact (hb i hi).2.1
theorem lkF_b (h : yTv Λ S t fs) {i j : Nat} (hi : i < fs.length) : lkF fs gs j i ≤ 96000 := lkV_b _ _ (Tv_48 h hi)
theorem yX_4 (h : yX Λ S0 S t u p g n m fs gs D) (hf : yD4 S S' g) : yX Λ S0 S' t u p g n m fs gs D := by
  refine yX_7 h (fun c j a q => hf c j a (fun z => q z.1)) rfl (fun i hi => ?_) (fun i hi => ?_) (fun j hj => ?_)
  · rw [(hf 7 1 g (by omega)).2.1]; exact h.2.2.1.1 i hi
  · rw [(hf 7 2 g (by omega)).2.1]; exact h.2.2.1.2.1 i hi
  · rw [(hf 7 3 g (by omega)).2.2]; exact h.2.2.1.2.2 j hj
theorem yX_r {j : Nat} {r : Nat → Int32} (h : yX Λ S0 S t u p g n m fs gs D) : yX Λ S0 (ywA S 7 (100 + j) g r) t u p g n m fs gs D := by
  refine yX_7 h (yFr_wA rfl) rfl (fun i hi => ?_) (fun i hi => ?_) h.2.2.1.2.2
  · rw [yA_n _ _ (by omega)]; exact h.2.2.1.1 i hi
  · rw [yA_n _ _ (by omega)]; exact h.2.2.1.2.1 i hi
theorem Di_measureLikeness_sp (hW : yW Λ) (hD : yDf Λ g) (h : yX Λ S0 S t u p g fs.length gs.length fs gs D) (hp : ∀ S', yX Λ S0 S' t u p g fs.length gs.length fs gs D → (∀ j i, j < gs.length → i < fs.length → yLk S' g fs gs D j i) → post none (yH Λ f0 S')) : xSp xT0 (d + 4) j_Di_measureLikeness [.ref g, .ref t, .ref u] (yH Λ f0 S) post := by
  have hl := Tv_le h.2.1.1
  have hl2 := Tv_le h.2.1.2
  refine xSp_of (M := m_Di_measureLikeness) rfl (b_Di_measureLikeness_0 ?_)
  have hlo : ∀ j, j ≤ gs.length → (∀ S1 (u4 u5 : Option Value), yX Λ S0 S1 t u p g fs.length gs.length fs gs D → (∀ j' i, j' < j → i < fs.length → yLk S1 g fs gs D j' i) → xWp (xT0, xSp xT0 (d + 3), none, m_Di_measureLikeness, post) 2 [some (.ref g), some (.ref t), some (.ref u), some (.int (nI j)), u4, u5] [] (yH Λ f0 S1) 0 0) := by
    refine loopUp ?_ ?_
    · intro S1 u4 u5 h1 hk
      exact b_Di_measureLikeness_2 ⟨yex h1.2.1.2.1.1, Tr_size_sp h1.2.1.2 (brle (by omega) (by omega) (fun _ => hp S1 h1 hk) (fun q => absurd q (by omega)))⟩
    · intro j hj ih S1 u4 u5 h1 hk
      refine b_Di_measureLikeness_2 ⟨yex h1.2.1.2.1.1, Tr_size_sp h1.2.1.2 (brle (by omega) (by omega) (fun q => absurd q (by omega)) (fun _ => ?_))⟩
      have hin : ∀ i, i ≤ fs.length → (∀ S2 (u5 : Option Value), yX Λ S0 S2 t u p g fs.length gs.length fs gs D → (∀ j' i', j' < j → i' < fs.length → yLk S2 g fs gs D j' i') → (∀ i', i' < i → yLk S2 g fs gs D j i') → xWp (xT0, xSp xT0 (d + 3), none, m_Di_measureLikeness, post) 13 [some (.ref g), some (.ref t), some (.ref u), some (.int (nI j)), some (.int (nI i)), u5] [] (yH Λ f0 S2) 0 0) := by
        refine loopUp ?_ ?_
        · intro S2 u5 h2 hk2 hk3
          refine b_Di_measureLikeness_13 ⟨yex h2.2.1.1.1.1, Tr_size_sp h2.2.1.1 (brle (by omega) (by omega) (fun _ => ?_) (fun q => absurd q (by omega)))⟩
          rw [nI_1]
          refine ih S2 _ _ h2 (fun j' i' hj' hi' => ?_)
          by_cases z : j' = j
          · rw [z]; exact hk3 i' hi'
          · exact hk2 j' i' (by omega) hi'
        · intro i hi ih2 S2 u5 h2 hk2 hk3
          obtain ⟨r, hr1, hr2⟩ := h2.2.2.1.2.2 j (by omega)
          have hst : ∀ S3 (w : Nat) (u5 : Option Value), yX Λ S0 S3 t u p g fs.length gs.length fs gs D → (∀ j', yA S3 7 (100 + j') g = yA S2 7 (100 + j') g) → w = (if D.2.1 j = true ∧ D.1 i = true then lkF fs gs j i else 0) → xas (yH Λ f0 S3) r 0 (nI i) (nI w) (fun f13 => xWp (xT0, xSp xT0 (d + 3), none, m_Di_measureLikeness, post) 13 [some (.ref g), some (.ref t), some (.ref u), some (.int (nI j)), some (.int (nI (i + 1))), u5] [] f13 0 0) := by
            intro S3 w u5 h3 hrow hw
            refine yas hr2 (yW_n hW hr2) (vp_in_nI (by omega) (by omega)) ?_
            rw [nI_clamp (by omega)]
            refine ih2 _ _ (yX_r h3) (fun j' i' hj' hi' => ?_) (fun i' hi' => ?_)
            · unfold yLk
              rw [yA_n _ _ (by omega), hrow]
              exact hk2 j' i' hj' hi'
            · unfold yLk
              rw [yA_s]
              by_cases z : i' = i
              · rw [z, pk_us, hw]
              · rw [pk_un z, hrow]; exact hk3 i' (by omega)
          have h46 : ∀ (b : Bool) (u5 : Option Value), (b = true ↔ (D.2.1 j = true ∧ D.1 i = true)) → xWp (xT0, xSp xT0 (d + 3), none, m_Di_measureLikeness, post) 46 [some (.ref g), some (.ref t), some (.ref u), some (.int (nI j)), some (.int (nI i)), u5] [.int (bI b)] (yH Λ f0 S2) 0 0 := by
            intro b u5 hb
            refine b_Di_measureLikeness_46 (ygr hD.1 rfl (yrl r hD.2.2.2.2.1 (vp_in_nI (by omega) (by omega)) (by rw [nI_clamp (by omega)]; exact hr1) ?_))
            rw [nI_1]
            refine brB (fun q => hst S2 0 _ h2 (fun _ => rfl) ?_) (fun q => ⟨yex h2.2.1.1.1.1, Tr_cAt h2.2.1.1 (Or.inl ⟨i, hi, rfl, rfl⟩) (fun q1 c1 B1 v1 o1 l1 => ⟨yex h2.2.1.2.1.1, Tr_cAt h2.2.1.2 (Or.inl ⟨j, hj, rfl, rfl⟩) (fun q2 c2 B2 v2 o2 l2 => ⟨yex hD.1, Di_like_sp hW hD B1 v1 l1 B2 v2 l2 (fun S3 k3 => ?_)⟩)⟩)⟩)
            · rw [if_neg (fun z => by rw [hb.mpr z] at q; exact absurd q (by decide))]
            · refine xviI (hst S3 _ _ (yX_4 h2 k3) (fun j' => (k3 7 (100 + j') g (by omega)).2.1) ?_)
              rw [if_pos (hb.mp q)]
              rfl
          refine b_Di_measureLikeness_13 ⟨yex h2.2.1.1.1.1, Tr_size_sp h2.2.1.1 (brle (by omega) (by omega) (fun q => absurd q (by omega)) (fun _ => ygr hD.1 rfl (yal hD.2.2.2.1 (vp_in_nI (by omega) (by omega)) ?_)))⟩
          rw [nI_clamp (by omega), h2.2.2.1.2.1 j hj]
          refine brB (fun q => h46 false _ ⟨fun z => absurd z (by decide), fun z => absurd (q.symm.trans z.1) (by decide)⟩) (fun q => ygr hD.1 rfl (yal hD.2.2.1 (vp_in_nI (by omega) (by omega)) ?_))
          rw [nI_clamp (by omega), h2.2.2.1.1 i hi]
          exact brB (fun q2 => h46 false _ ⟨fun z => absurd z (by decide), fun z => absurd (q2.symm.trans z.2) (by decide)⟩) (fun q2 => h46 true _ ⟨fun _ => ⟨q, q2⟩, fun _ => rfl⟩)
      exact hin 0 (Nat.zero_le _) S1 u5 h1 hk (fun i' hi' => absurd hi' (Nat.not_lt_zero _))
  exact hlo 0 (Nat.zero_le _) S none none h (fun j' i hj' => absurd hj' (Nat.not_lt_zero _))
theorem yX_add2 (hW : yW Λ) (hD : yDf Λ g) (tg : yTop Λ g) (tt : yTop Λ t) (tu : yTop Λ u) (h : yX Λ S0 S t u p g n m fs gs D) (hn : D.2.2.length < 24) {f e : Fl} (hi : (∃ i, i < fs.length ∧ x = nI i ∧ f = fs.getD i fl0) ∨ (x = -1 ∧ k = 0 ∧ f = (e.1, []))) (hj : (∃ j, j < gs.length ∧ y = nI j ∧ e = gs.getD j fl0) ∨ (y = -1 ∧ k = 1 ∧ e = (f.1, []))) (he : k = 0 ∨ k = 1 → f.1 = e.1) (hp : ∀ S', yX Λ S0 S' t u p g n m fs gs (D.1, D.2.1, D.2.2 ++ [mkS k f e]) → (∀ j, yA S' 7 j g = yA S 7 j g) → post none (yH Λ f0 S')) : xSp xT0 (d + 5) j_Di_addStep [.ref g, .int k, .ref t, .int x, .ref u, .int y, .ref p] (yH Λ f0 S) post := by
  obtain ⟨k0, ⟨hT, hU⟩, ⟨hG, hN, hL⟩, Q, hP⟩ := h
  have n7 : ¬ AP Λ p 7 g := by
    rintro (z | z | z | z)
    · exact absurd z (by decide)
    · exact yo_ne hD.1 hP.1.1 (by decide) z
    · exact yo_ne tg.1 hP.1.1 (by decide) z
    · rw [tg.2] at z; exact yo_ne tg.1 hP.1.1 (by decide) z
  refine Di_addStep_sp hW hD hT hU tt tu hP (by rw [stV_l]; exact hn) hi hj he (fun S' Q' k1 hp1 => hp S' ?_ (fun j => (k1 7 j g n7).2.1))
  refine ⟨yFr_tr k0 (yFr_mo k1 (fun _ _ z => Or.inr z)), ⟨Tv_AP k1 hP.1 tt hT, Tv_AP k1 hP.1 tu hU⟩, ⟨fun i hi => ?_, fun i hi => ?_, fun j hj => ?_⟩, Q', ?_⟩
  · rw [(k1 7 1 g n7).2.1]; exact hG i hi
  · rw [(k1 7 2 g n7).2.1]; exact hN i hi
  · rw [(k1 7 3 g n7).2.2]; exact hL j hj
  · rw [stV_a]; exact hp1
theorem Di_addMovesWithChange_sp (hW : yW Λ) (hD : yDf Λ g) (tg : yTop Λ g) (tt : yTop Λ t) (tu : yTop Λ u) (h : yX Λ S0 S t u p g fs.length gs.length fs gs D) (hok : okD fs D) (hp : ∀ S', yX Λ S0 S' t u p g fs.length gs.length fs gs (rnL fs gs 10 D) → post none (yH Λ f0 S')) : xSp xT0 (d + 6) j_Di_addMovesWithChange [.ref g, .ref t, .ref u, .ref p] (yH Λ f0 S) post := by
  have hl := Tv_le h.2.1.1
  have hl2 := Tv_le h.2.1.2
  refine xSp_of (M := m_Di_addMovesWithChange) rfl (b_Di_addMovesWithChange_0 ⟨yex hD.1, Di_measureLikeness_sp hW hD h (fun S1 h1 hk1 => ?_)⟩)
  have hrn : ∀ n r, r + n = 10 → ∀ S1 D1 (u5 u6 u7 u8 u9 : Option Value), yX Λ S0 S1 t u p g fs.length gs.length fs gs D1 → okD fs D1 → (∀ i, D1.1 i = true → D.1 i = true) → (∀ j, D1.2.1 j = true → D.2.1 j = true) → (∀ j i, j < gs.length → i < fs.length → yLk S1 g fs gs D j i) → (∀ S', yX Λ S0 S' t u p g fs.length gs.length fs gs (rnL fs gs n D1) → post none (yH Λ f0 S')) → xWp (xT0, xSp xT0 (d + 5), none, m_Di_addMovesWithChange, post) 9 [some (.ref g), some (.ref t), some (.ref u), some (.ref p), some (.int (nI r)), u5, u6, u7, u8, u9] [] (yH Λ f0 S1) 0 0 := by
    intro n
    induction n with
    | zero =>
      intro r hr S1 D1 u5 u6 u7 u8 u9 h1 hok1 hs1 hs2 hk hp
      exact b_Di_addMovesWithChange_9 (brle (a := 10) (by omega) (by omega) (fun _ => hp S1 h1) (fun q => absurd q (by omega)))
    | succ n ih =>
      intro r hr S1 D1 u5 u6 u7 u8 u9 h1 hok1 hs1 hs2 hk hp
      have hT1 := h1.2.1.1
      have hU1 := h1.2.1.2
      have hok1' : D1.2.2.length + cntB D1.1 fs.length ≤ fs.length := hok1
      refine b_Di_addMovesWithChange_9 (brle (a := 10) (by omega) (by omega) (fun q => absurd q (by omega)) (fun _ => ?_))
      have hout : ∀ j, j ≤ gs.length → (∀ (u9 : Option Value), (bsA fs gs D1 j).1 ≤ 96000 → xWp (xT0, xSp xT0 (d + 5), none, m_Di_addMovesWithChange, post) 30 [some (.ref g), some (.ref t), some (.ref u), some (.ref p), some (.int (nI r)), some (.int (nI (bsA fs gs D1 j).1)), some (.int (p1I (bsA fs gs D1 j).2)), some (.int (p2I (bsA fs gs D1 j).2)), some (.int (nI j)), u9] [] (yH Λ f0 S1) 0 0) := by
        refine loopUp ?_ ?_
        · intro u9 _
          refine b_Di_addMovesWithChange_30 ⟨yex hU1.1.1, Tr_size_sp hU1 (brle (by omega) (by omega) (fun _ => ?_) (fun q => absurd q (by omega)))⟩
          cases hB : (bsA fs gs D1 gs.length).2 with
          | none =>
            have e : rnS fs gs D1 = none := by unfold rnS; rw [hB]; rfl
            have e2 : rnL fs gs (n + 1) D1 = D1 := by unfold rnL; rw [e]
            rw [e2] at hp
            exact ⟨fun c => absurd rfl c, fun _ => hp S1 h1⟩
          | some z =>
            obtain ⟨a1, a2, a3, a4⟩ := bsA_ok _ z.1 z.2 hB
            have e : rnS fs gs D1 = some (setB D1.1 z.1, setB D1.2.1 z.2, D1.2.2 ++ [mkS 4 (fs.getD z.1 fl0) (gs.getD z.2 fl0)]) := by unfold rnS; rw [hB]; rfl
            have e2 : rnL fs gs (n + 1) D1 = rnL fs gs n (setB D1.1 z.1, setB D1.2.1 z.2, D1.2.2 ++ [mkS 4 (fs.getD z.1 fl0) (gs.getD z.2 fl0)]) := by
              show (match rnS fs gs D1 with | none => D1 | some D' => rnL fs gs n D') = _
              rw [e]
            rw [e2] at hp
            have hok2 := rnS_ok hok1 e
            refine ⟨fun _ => ⟨yex hD.1, ?_⟩, fun c => absurd (fun w => nI_pos (n := z.1) (by omega) (by rw [show nI z.1 = (-1) from w]; decide)) c⟩
            show xSp xT0 (d + 5) j_Di_addStep [.ref g, .int 4, .ref t, .int (nI z.1), .ref u, .int (nI z.2), .ref p] _ _
            refine yX_add2 hW hD tg tt tu h1 (by omega) (Or.inl ⟨_, a1, rfl, rfl⟩) (Or.inl ⟨_, a2, rfl, rfl⟩) (fun w => absurd w (by decide)) (fun S2 h2 hrow => ygr hD.1 rfl (yas hD.2.2.1 (yW_n hW hD.2.2.1) (vp_in_nI (by omega) (by omega)) (ygr hD.1 rfl (yas hD.2.2.2.1 (yW_n hW hD.2.2.2.1) (vp_in_nI (by omega) (by omega)) ?_))))
            rw [show p1I (some z) = nI z.1 from rfl, show p2I (some z) = nI z.2 from rfl, nI_clamp (by omega), nI_clamp (by omega), nI_1]
            refine ih (r + 1) (by omega) _ _ _ _ _ _ _ (yX_N (yX_G h2)) hok2 (fun i hi => hs1 i ?_) (fun i hi => hs2 i ?_) (fun j i hj hi => ?_) hp
            · by_cases w : i = z.1
              · rw [w]; exact a3
              · have : setB D1.1 z.1 i = D1.1 i := if_neg w
                exact this.symm.trans hi
            · by_cases w : i = z.2
              · rw [w]; exact a4
              · have : setB D1.2.1 z.2 i = D1.2.1 i := if_neg w
                exact this.symm.trans hi
            · unfold yLk
              rw [yA_n _ _ (by omega), yA_n _ _ (by omega), hrow]
              exact hk j i hj hi
        · intro j hj iho u9 hb
          refine b_Di_addMovesWithChange_30 ⟨yex hU1.1.1, Tr_size_sp hU1 (brle (by omega) (by omega) (fun q => absurd q (by omega)) (fun _ => ?_))⟩
          obtain ⟨r0, hr1, hr2⟩ := h1.2.2.1.2.2 j (by omega)
          have hs : bsA fs gs D1 (j + 1) = bsR fs gs D1 fs.length (bsA fs gs D1 j) j := by unfold bsA; rw [rgF]
          rw [hs] at iho
          generalize bsA fs gs D1 j = B at *
          have hbb : ∀ i, i ≤ fs.length → (bsR fs gs D1 i B j).1 ≤ 96000 := by
            intro i
            induction i with
            | zero => intro _; exact hb
            | succ i ihb =>
              intro hi
              have := ihb (by omega)
              unfold bsR at this ⊢
              rw [rgF]
              unfold bsS at this ⊢
              split
              · exact lkF_b hT1 (by omega)
              · exact this
          have hin : ∀ i, i ≤ fs.length → xWp (xT0, xSp xT0 (d + 5), none, m_Di_addMovesWithChange, post) 42 [some (.ref g), some (.ref t), some (.ref u), some (.ref p), some (.int (nI r)), some (.int (nI (bsR fs gs D1 i B j).1)), some (.int (p1I (bsR fs gs D1 i B j).2)), some (.int (p2I (bsR fs gs D1 i B j).2)), some (.int (nI j)), some (.int (nI i))] [] (yH Λ f0 S1) 0 0 := by
            refine loopUp ?_ ?_
            · refine b_Di_addMovesWithChange_42 ⟨yex hT1.1.1, Tr_size_sp hT1 (brle (by omega) (by omega) (fun _ => ?_) (fun q => absurd q (by omega)))⟩
              rw [nI_1]
              exact iho _ (hbb _ (Nat.le_refl _))
            · intro i hi ihi
              have hbi := hbb i (by omega)
              have hsi : bsR fs gs D1 (i + 1) B j = bsS fs gs D1 j (bsR fs gs D1 i B j) i := by unfold bsR; rw [rgF]
              rw [hsi] at ihi
              generalize bsR fs gs D1 i B j = B1 at *
              refine b_Di_addMovesWithChange_42 ⟨yex hT1.1.1, Tr_size_sp hT1 (brle (by omega) (by omega) (fun q => absurd q (by omega)) (fun _ => ygr hD.1 rfl (yal hD.2.2.2.1 (vp_in_nI (by omega) (by omega)) ?_)))⟩
              rw [nI_clamp (by omega), h1.2.2.1.2.1 j hj, nI_1]
              have hno : ¬ (D1.2.1 j = true ∧ D1.1 i = true ∧ B1.1 < lkF fs gs j i) → xWp (xT0, xSp xT0 (d + 5), none, m_Di_addMovesWithChange, post) 42 [some (.ref g), some (.ref t), some (.ref u), some (.ref p), some (.int (nI r)), some (.int (nI B1.1)), some (.int (p1I B1.2)), some (.int (p2I B1.2)), some (.int (nI j)), some (.int (nI (i + 1)))] [] (yH Λ f0 S1) 0 0 := by
                intro hc
                have e : bsS fs gs D1 j B1 i = B1 := if_neg hc
                rw [e] at ihi
                exact ihi
              refine brB (fun q => hno (fun z => absurd (q.symm.trans z.1) (by decide))) (fun q => ygr hD.1 rfl (yal hD.2.2.1 (vp_in_nI (by omega) (by omega)) ?_))
              rw [nI_clamp (by omega), h1.2.2.1.1 i hi]
              refine brB (fun q2 => hno (fun z => absurd (q2.symm.trans z.2.1) (by decide))) (fun q2 => ygr hD.1 rfl (yrl r0 hD.2.2.2.2.1 (vp_in_nI (by omega) (by omega)) (by rw [nI_clamp (by omega)]; exact hr1) (yal hr2 (vp_in_nI (by omega) (by omega)) ?_)))
              have hv := hk j i hj hi
              unfold yLk at hv
              rw [if_pos ⟨hs2 j q, hs1 i q2⟩] at hv
              have hlb := lkF_b (gs := gs) (j := j) hT1 hi
              rw [nI_clamp (by omega), hv]
              refine brle (by omega) (by omega) (fun z => hno (fun w => by omega)) (fun z => ygr hD.1 rfl (yrl r0 hD.2.2.2.2.1 (vp_in_nI (by omega) (by omega)) (by rw [nI_clamp (by omega)]; exact hr1) (yal hr2 (vp_in_nI (by omega) (by omega)) ?_)))
              rw [nI_clamp (by omega), hv]
              have e : bsS fs gs D1 j B1 i = (lkF fs gs j i, some (i, j)) := if_pos ⟨q, q2, z⟩
              rw [e] at ihi
              exact ihi
          exact hin 0 (Nat.zero_le _)
      exact hout 0 (Nat.zero_le _) u9 (by show 599 ≤ 96000; decide)
  exact hrn 10 0 rfl S1 D none none none none none h1 hok (fun _ z => z) (fun _ z => z) hk1 hp
end
