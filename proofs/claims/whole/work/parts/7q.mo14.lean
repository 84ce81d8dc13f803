/-! 7q the other object: step, stepByte, piece -/
section
variable {Λ : yL} {f0 : xH} {S S' S1 : yS} {m d s t u f g : Nat} {J F : Nat → Prop} {v w : Sv} {vs : List Sv} {zs : List Int32} {bs cs : List Nat} {B : Ab} {x y a b c e z : Int32} {post : Option Value → xH → Prop}
theorem mQ_p (k : zX m (fun j => j = 29 ∨ j = 30) S S') (q : mQ Λ S m B) : mQ Λ S' m B := mQ_x k (fun j z => by unfold scr; omega) q
theorem M_step (q : mQ Λ S m B) (hok : ∀ p, p < (aP B).length → ∀ i, i < ((aP B).getD p []).length → okV (((aP B).getD p []).getD i sv0)) (hp : ∀ S', yFr (A11 m) S S' → mQ Λ S' m B → post (some (.int (a_step B a b c))) (yH Λ f0 S')) : xSp xT0 (d + 8) j_Mo_step [.ref m, .int a, .int b, .int c] (yH Λ f0 S) post := by
  have hL := q.1
  have ho := hL.2.1
  have hl := q.2.2.2.2.1.1
  have q' := mQ_0 (x := 0) q
  have hp0 := hp _ M0_Fr q'
  have hpx : ∀ S1, zX m (fun j => j = 29 ∨ j = 30) (ywI S 11 0 m 0) S1 → post (some (.int (a_step B a b c))) (yH Λ f0 S1) := fun S1 k => hp S1 (yFr_tr M0_Fr (zX_Fr k)) (mQ_p k q')
  clear hp
  unfold a_step at hp0 hpx
  refine xSp_of (M := m_Mo_step) rfl (b_Mo_step_0 (ypf ho rfl ⟨yex ho, Mo_noPatch_sp q' (fun i hi e1 e2 => xviI ⟨fun z => absurd rfl z, fun _ => ?_⟩) (fun e1 => xviI ⟨fun _ => ?_, fun z => absurd (by decide) z⟩)⟩))
  · subst e1
    rw [e2] at hp0 hpx
    dsimp only at hp0 hpx
    have hP := q'.2.2.2.2.1.2.2 i hi
    have hoki := hok i hi
    generalize hvs : (aP B).getD i [] = vs at *
    have hvl := hP.1
    refine brTn (n := 10) (by omega) rfl (fun e3 => ?_) (fun w hw ew e3 => ?_)
    · have hn : ∀ w, w < 10 → ¬ c = nI w := fun w hw z => by rw [z, tIx_s (by omega) hw] at e3; cases e3
      rw [if_neg (show ¬ c = 9 from hn 9 (by omega))] at hp0
      cases h4 : tIx vs.length b with
      | none => rw [h4] at hp0; exact hp0
      | some k =>
        rw [h4] at hp0
        dsimp only at hp0
        unfold tellS at hp0
        rw [if_neg (show ¬ c = 0 from hn 0 (by omega)), if_neg (show ¬ c = 1 from hn 1 (by omega)), if_neg (show ¬ c = 2 from hn 2 (by omega)), if_neg (show ¬ c = 3 from hn 3 (by omega)), if_neg (show ¬ c = 4 from hn 4 (by omega)), if_neg (show ¬ c = 5 from hn 5 (by omega)), if_neg (show ¬ c = 6 from hn 6 (by omega)), if_neg (show ¬ c = 7 from hn 7 (by omega)), if_neg (show ¬ c = 8 from hn 8 (by omega))] at hp0
        exact hp0
    · refine ⟨fun c9 => ygr ho rfl (yal (mk22 hL) (vp_in_nI (by omega) (by omega)) ?_), fun c9 => ygr ho rfl (yal (mk22 hL) (vp_in_nI (by omega) (by omega)) ?_)⟩
      · rw [if_neg c9] at hp0
        simp only [if_neg c9] at hpx
        rw [nI_clamp (by omega), hP.2.1]
        refine brTn (by omega) (L_n (by omega)) (fun e4 => ?_) (fun k hk ek e4 => ?_)
        · rw [e4] at hp0; exact hp0
        · rw [e4] at hp0 hpx
          dsimp only at hp0 hpx
          subst ek
          have hov := hoki k hk
          obtain ⟨s1, ⟨s2, s3, s4⟩, ⟨s5, s6, s7⟩, ⟨s8, s9, s10, s11⟩, ⟨s12, s13⟩, s14, s15⟩ := hP.2.2 k hk
          generalize vs.getD k sv0 = v at *
          unfold tellS at hp0 hpx
          rw [n24, n48]
          refine ⟨fun c0 => ygr ho rfl (yal (mk11 hL) (vp_in_nI (by omega) (by omega)) ?_), fun c0 => ⟨fun c1 => ygr ho rfl (yal (mk16 hL) (vp_in_nI (by omega) (by omega)) ?_), fun c1 => ⟨fun c2 => ygr ho rfl (yal (mk17 hL) (vp_in_nI (by omega) (by omega)) ?_), fun c2 => ⟨fun c3 => ygr ho rfl (yal (mk18 hL) (vp_in_nI (by omega) (by omega)) ?_), fun c3 => ⟨fun c4 => ygr ho rfl (yal (mk19 hL) (vp_in_nI (by omega) (by omega)) ?_), fun c4 => ⟨fun c5 => ygr ho rfl (yal (mk13 hL) (vp_in_nI (by omega) (by omega)) ?_), fun c5 => ⟨fun c6 => ygr ho rfl (yal (mk15 hL) (vp_in_nI (by omega) (by omega)) ?_), fun c6 => ⟨fun c7 => ygr ho rfl (ygr ho rfl (yal (mk18 hL) (vp_in_nI (by omega) (by omega)) (Mo_bytesOf_sp (xviI ⟨yex ho, ?_⟩)))), fun c7 => ygr ho rfl (ygr ho rfl (yal (mk16 hL) (vp_in_nI (by omega) (by omega)) (Mo_bytesOf_sp (xviI ⟨yex ho, ?_⟩))))⟩⟩⟩⟩⟩⟩⟩⟩
          · rw [if_pos c0] at hp0; rw [nI_clamp (by omega), s1]; exact hp0
          · rw [if_neg c0, if_pos c1] at hp0; rw [nI_clamp (by omega), s8]; exact hp0
          · rw [if_neg c0, if_neg c1, if_pos c2] at hp0; rw [nI_clamp (by omega), s9]; exact hp0
          · rw [if_neg c0, if_neg c1, if_neg c2, if_pos c3] at hp0; rw [nI_clamp (by omega), s10]; exact hp0
          · rw [if_neg c0, if_neg c1, if_neg c2, if_neg c3, if_pos c4] at hp0; rw [nI_clamp (by omega), s11]; exact hp0
          · rw [if_neg c0, if_neg c1, if_neg c2, if_neg c3, if_neg c4, if_pos c5] at hp0; rw [nI_clamp (by omega), s2]; exact hp0
          · rw [if_neg c0, if_neg c1, if_neg c2, if_neg c3, if_neg c4, if_neg c5, if_pos c6] at hp0; rw [nI_clamp (by omega), s5]; exact hp0
          · simp only [if_neg c0, if_neg c1, if_neg c2, if_neg c3, if_neg c4, if_neg c5, if_neg c6, if_pos c7] at hpx
            rw [nI_clamp (by omega), s10, okV_d hov]
            exact Mo_pieces_sp hL (mk20 hL) ⟨by decide, by decide⟩ s13 s12 (by omega) (by omega) (fun S1 k1 _ => xviI (hpx S1 k1))
          · have c8 : c = 8 := by
              have : w = 8 := by
                have h0 : w ≠ 0 := fun z => c0 (by rw [ew, z]; rfl)
                have h1 : w ≠ 1 := fun z => c1 (by rw [ew, z]; rfl)
                have h2 : w ≠ 2 := fun z => c2 (by rw [ew, z]; rfl)
                have h3 : w ≠ 3 := fun z => c3 (by rw [ew, z]; rfl)
                have h4 : w ≠ 4 := fun z => c4 (by rw [ew, z]; rfl)
                have h5 : w ≠ 5 := fun z => c5 (by rw [ew, z]; rfl)
                have h6 : w ≠ 6 := fun z => c6 (by rw [ew, z]; rfl)
                have h7 : w ≠ 7 := fun z => c7 (by rw [ew, z]; rfl)
                have h9 : w ≠ 9 := fun z => c9 (by rw [ew, z]; rfl)
                omega
              rw [ew, this]; rfl
            simp only [if_neg c0, if_neg c1, if_neg c2, if_neg c3, if_neg c4, if_neg c5, if_neg c6, if_neg c7, if_pos c8] at hpx
            rw [nI_clamp (by omega), s8, okV_b hov]
            exact Mo_pieces_sp hL (mk21 hL) ⟨by decide, by decide⟩ s15 s14 (by omega) (by omega) (fun S1 k1 _ => xviI (hpx S1 k1))
      · rw [if_pos (Classical.not_not.mp c9)] at hp0
        rw [nI_clamp (by omega), hP.2.1]
        exact hp0
  · rw [e1] at hp0; exact hp0
theorem M_stepByte (q : mQ Λ S m B) (hok : ∀ p, p < (aP B).length → ∀ i, i < ((aP B).getD p []).length → okV (((aP B).getD p []).getD i sv0)) (hp : ∀ S', yFr (A11 m) S S' → mQ Λ S' m B → post (some (.int (a_stepByte B a b c e))) (yH Λ f0 S')) : xSp xT0 (d + 8) j_Mo_stepByte [.ref m, .int a, .int b, .int c, .int e] (yH Λ f0 S) post := by
  have hL := q.1
  have ho := hL.2.1
  have hl := q.2.2.2.2.1.1
  have q' := mQ_0 (x := 0) q
  replace hp := hp _ M0_Fr q'
  unfold a_stepByte at hp
  refine xSp_of (M := m_Mo_stepByte) rfl (b_Mo_stepByte_0 (ypf ho rfl ⟨yex ho, Mo_noPatch_sp q' (fun i hi e1 e2 => xviI ⟨fun z => absurd rfl z, fun _ => ?_⟩) (fun e1 => xviI ⟨fun _ => ?_, fun z => absurd (by decide) z⟩)⟩))
  · rw [e2] at hp
    dsimp only at hp
    have hP := q'.2.2.2.2.1.2.2 i hi
    have hoki := hok i hi
    generalize hvs : (aP B).getD i [] = vs at *
    have hvl := hP.1
    refine brT (n := 2) (by omega) rfl (fun e3 => ?_) (fun w hw ew e3 => ygr ho rfl (brT (n := 8) (by omega) rfl (fun e5 => ?_) (fun w2 hw2 ew2 e5 => ?_)))
    · have hn : ∀ w, w < 2 → ¬ c = nI w := fun w hw z => by rw [z, tIx_s (by omega) hw] at e3; cases e3
      cases h4 : tIx vs.length b with
      | none => rw [h4] at hp; exact hp
      | some k =>
        rw [h4] at hp
        dsimp only at hp
        rw [if_neg (show ¬ c = 0 from hn 0 (by omega)), if_neg (show ¬ c = 1 from hn 1 (by omega))] at hp
        exact hp
    · rw [e1, tIx_s (by omega) (by omega)] at e5; cases e5
    · clear w2 hw2 ew2 e5
      subst e1
      refine yal (mk22 hL) (vp_in_nI (by omega) (by omega)) ?_
      rw [nI_clamp (by omega), hP.2.1]
      refine brTn (by omega) (L_n (by omega)) (fun e4 => ?_) (fun k hk ek e4 => ?_)
      · rw [e4] at hp; exact hp
      · rw [e4] at hp
        dsimp only at hp
        subst ek
        have hov := hoki k hk
        obtain ⟨s1, ⟨s2, s3, s4⟩, ⟨s5, s6, s7⟩, -⟩ := hP.2.2 k hk
        generalize vs.getD k sv0 = v at *
        rw [n24, n18]
        refine ⟨fun c0 => ygr ho rfl (yal (mk15 hL) (vp_in_nI (by omega) (by omega)) ?_), fun c0 => ygr ho rfl (yal (mk13 hL) (vp_in_nI (by omega) (by omega)) ?_)⟩
        · have c1 : c = 1 := by
            have h0 : w ≠ 0 := fun z => c0 (by rw [ew, z]; rfl)
            rw [ew, show w = 1 by omega]; rfl
          rw [if_neg c0, if_pos c1] at hp
          unfold bAt at hp
          rw [nI_clamp (by omega), s5]
          refine brT (by omega) (L_n (by omega)) (fun e6 => ?_) (fun j hj ej e6 => ygr ho rfl ?_)
          · rw [e6] at hp; exact hp
          · rw [e6] at hp
            rw [ej, nI_add]
            refine yal (mk14 hL) (vp_in_nI (by omega) (by omega)) ?_
            rw [nI_clamp (by omega), (rg_at s7 hj).2 hov.2.1.2.1]
            exact hp
        · rw [if_pos (Classical.not_not.mp c0)] at hp
          unfold bAt at hp
          rw [nI_clamp (by omega), s2]
          refine brT (by omega) (L_n (by omega)) (fun e6 => ?_) (fun j hj ej e6 => ygr ho rfl ?_)
          · rw [e6] at hp; exact hp
          · rw [e6] at hp
            rw [ej, nI_add]
            refine yal (mk12 hL) (vp_in_nI (by omega) (by omega)) ?_
            rw [nI_clamp (by omega), (rg_at s4 hj).2 hov.2.1.1]
            exact hp
  · rw [e1] at hp; exact hp
theorem piece_105 (hL : mLay Λ m) {r j n sl : Nat} (hr : yn Λ r 11 j m 0 n) (hj : j ≠ 29 ∧ j ≠ 30) (hz : rz (yA S 11 j m) (48 * sl) zs) (hzl : zs.length ≤ 48) (hb : 48 * sl + 48 ≤ n) (hn : n < 2 ^ 30) (hx : byO x = nI zs.length) {x1 x2 x3 : Int32} {u8 u9 : Option Value} (hp : ∀ S', zX m (fun j => j = 29 ∨ j = 30) S S' → post (some (.int (pcT zs e z))) (yH Λ f0 S')) : xWp (xT0, xSp xT0 (d + 7), none, m_Mo_piece, post) 105 [some (.ref m), some (.int x1), some (.int x2), some (.int x3), some (.int e), some (.int z), some (.int (nI sl)), some (.ref r), u8, u9] [.int x] (yH Λ f0 S) 0 0 := by
  have ho := hL.2.1
  refine b_Mo_piece_105 (Mo_bytesOf_sp (xviI ⟨yex ho, ?_⟩))
  rw [hx, n48]
  refine Mo_pieces_sp (x := e) hL hr hj hz hzl (by omega) hn (fun S1 k1 hs => xviI ?_)
  replace hp := hp S1 k1
  have hcl := cntP_le zs zs.length
  have hz1 : ∀ i, i < zs.length → yA S1 11 j m (48 * sl + i) = zs.getD i 0 := fun i hi => by rw [(mX k1 (fun z => z.elim hj.1 hj.2)).2]; exact hz i hi
  unfold pcT at hp
  refine brT (by omega) (L_n (by omega)) (fun e4 => ?_) (fun k hk ek e4 => ?_)
  · have e1 : stI zs e = zs.length := by
      refine fstI_eq (Nat.le_refl _) (fun i hi => ?_) (Or.inl rfl)
      cases hc : stP zs i
      · rfl
      · refine decide_eq_false (fun w => ?_)
        have h1 := cntP_lt hc hi
        rw [w, tIx_s (by omega) h1] at e4
        cases e4
    rw [e1, if_neg (Nat.lt_irrefl _)] at hp
    exact hp
  · obtain ⟨s, h1, h2, h3⟩ := cntP_ex zs.length k hk
    have hxs : e = nI (cntP zs s) := by rw [ek, h3]
    obtain ⟨f29, en, f30, p1, p2, p3, p4⟩ := hs s h1 h2 hxs
    have hcs := cntP_le zs s
    have e1 : stI zs e = s := by
      refine fstI_eq (Nat.le_of_lt h1) (fun i hi => ?_) (Or.inr ?_)
      · cases hc : stP zs i
        · rfl
        · refine decide_eq_false (fun w => ?_)
          have h5 := cntP_lt hc hi
          have := (nI_eq (a := cntP zs s) (b := cntP zs i) (by omega) (by omega)).mp (hxs.symm.trans w)
          omega
      · show (stP zs s && decide (e = nI (cntP zs s))) = true
        rw [h2, decide_eq_true hxs]; rfl
    have e2 : enI zs s = en := by
      unfold enI
      have : fstI (fun i => stP zs (s + 1 + i)) (zs.length - (s + 1)) = en - (s + 1) := by
        refine fstI_eq (by omega) (fun i hi => p3 _ (by omega) (by omega)) ?_
        rcases p4 with w | w
        · exact Or.inl (by omega)
        · exact Or.inr (by show stP zs (s + 1 + (en - (s + 1))) = true; rw [show s + 1 + (en - (s + 1)) = en by omega]; exact w)
      rw [this]
      omega
    rw [e1, e2, if_pos h1] at hp
    unfold tellV at hp
    have esub : nI en - nI s = nI (en - s) := pk_sub (by omega)
    refine ⟨fun c1 => ygi ho rfl ?_, fun c1 => ?_⟩
    · rw [f29, nI_add]
      refine yal hr (vp_in_nI (by omega) (by omega)) ?_
      rw [nI_clamp (by omega), hz1 s h1]
      refine ⟨fun c2 => ⟨fun c3 => ⟨fun c4 => ?_, fun c4 => ygi ho rfl (ygi ho rfl ?_)⟩, fun c3 => ⟨fun c4 => ?_, fun c4 => ?_⟩⟩, fun c2 => ygi ho rfl (ygi ho rfl ?_)⟩
      · rw [if_neg c3, if_neg c2, if_neg (fun w => nle0.mpr c4 w.1)] at hp
        exact hp
      · have c4' : zs.getD s 0 < 0 := Classical.byContradiction (fun w => c4 (nle0.mp w))
        rw [if_neg c3, if_neg c2] at hp
        rw [f30, f29, esub]
        have h0 : 0 ≤ z := by
          rw [Int32.le_iff_toInt_le] at c1 ⊢
          have n1 : z.toInt ≠ -2 := fun w => c2 (Int32.toInt_inj.mp w)
          have n2 : z.toInt ≠ -1 := fun w => c3 (Int32.toInt_inj.mp w)
          have e0 : (-2 : Int32).toInt = -2 := by decide
          have e00 : (0 : Int32).toInt = 0 := by decide
          omega
        obtain ⟨i, hi, ei⟩ := nI_of (nle0.mpr h0)
        refine ⟨fun c5 => ?_, fun c5 => ygi ho rfl ?_⟩
        · rw [if_neg (fun w => absurd (Int32.lt_of_lt_of_le w.2.2 c5) Int32.lt_irrefl)] at hp
          exact hp
        · have c5' : z < nI (en - s) := Int32.not_le.mp c5
          rw [if_pos ⟨c4', h0, c5'⟩] at hp
          have hil : i < en - s := by rw [ei] at c5'; exact (ltI (by omega) (by omega)).mp c5'
          rw [f29, ei, nI_add, nI_add]
          refine yal hr (vp_in_nI (by omega) (by omega)) ?_
          rw [nI_clamp (by omega), show 48 * sl + s + i = 48 * sl + (s + i) by omega, hz1 (s + i) (by omega), notI]
          rw [ei, nI_clamp (by omega)] at hp
          exact hp
      · have c3 := Classical.not_not.mp c3
        rw [if_pos c3, if_pos c4] at hp; exact hp
      · have c3 := Classical.not_not.mp c3
        rw [if_pos c3, if_neg c4] at hp; exact hp
      · have c2 := Classical.not_not.mp c2
        rw [if_neg (by rw [c2]; decide), if_pos c2] at hp
        rw [f30, f29, esub]
        exact hp
    · have hlt : z < -2 := Int32.not_le.mp c1
      have n1 : ¬ z = -1 := fun w => by rw [w] at hlt; exact absurd hlt (by decide)
      have n2 : ¬ z = -2 := fun w => by rw [w] at hlt; exact absurd hlt (by decide)
      have n3 : ¬ 0 ≤ z := fun w => absurd (Int32.lt_of_le_of_lt w hlt) (by decide)
      rw [if_neg n1, if_neg n2, if_neg (fun w => n3 w.2.1)] at hp
      exact hp
theorem M_piece (q : mQ Λ S m B) (hok : ∀ p, p < (aP B).length → ∀ i, i < ((aP B).getD p []).length → okV (((aP B).getD p []).getD i sv0)) (hp : ∀ S', yFr (A11 m) S S' → mQ Λ S' m B → post (some (.int (a_piece B a b c e z))) (yH Λ f0 S')) : xSp xT0 (d + 8) j_Mo_piece [.ref m, .int a, .int b, .int c, .int e, .int z] (yH Λ f0 S) post := by
  have hL := q.1
  have ho := hL.2.1
  have hl := q.2.2.2.2.1.1
  have q' := mQ_0 (x := 0) q
  have hp0 := hp _ M0_Fr q'
  have hpx : ∀ S1, zX m (fun j => j = 29 ∨ j = 30) (ywI S 11 0 m 0) S1 → post (some (.int (a_piece B a b c e z))) (yH Λ f0 S1) := fun S1 k => hp S1 (yFr_tr M0_Fr (zX_Fr k)) (mQ_p k q')
  clear hp
  unfold a_piece at hp0 hpx
  refine xSp_of (M := m_Mo_piece) rfl (b_Mo_piece_0 (ypf ho rfl ⟨yex ho, Mo_noPatch_sp q' (fun i hi e1 e2 => xviI ⟨fun z => absurd rfl z, fun _ => ?_⟩) (fun e1 => xviI ⟨fun _ => ?_, fun z => absurd (by decide) z⟩)⟩))
  · rw [e2] at hp0 hpx
    dsimp only at hp0 hpx
    have hP := q'.2.2.2.2.1.2.2 i hi
    have hoki := hok i hi
    generalize hvs : (aP B).getD i [] = vs at *
    have hvl := hP.1
    refine brT (n := 2) (by omega) rfl (fun e3 => ?_) (fun w hw ew e3 => ygr ho rfl (brT (n := 8) (by omega) rfl (fun e5 => ?_) (fun w2 hw2 ew2 e5 => ?_)))
    · have hn : ∀ w, w < 2 → ¬ c = nI w := fun w hw z => by rw [z, tIx_s (by omega) hw] at e3; cases e3
      cases h4 : tIx vs.length b with
      | none => rw [h4] at hp0; exact hp0
      | some k =>
        rw [h4] at hp0
        dsimp only at hp0
        rw [if_neg (show ¬ c = 0 from hn 0 (by omega)), if_neg (show ¬ c = 1 from hn 1 (by omega))] at hp0
        exact hp0
    · rw [e1, tIx_s (by omega) (by omega)] at e5; cases e5
    · clear w2 hw2 ew2 e5
      subst e1
      refine yal (mk22 hL) (vp_in_nI (by omega) (by omega)) ?_
      rw [nI_clamp (by omega), hP.2.1]
      refine brTn (by omega) (L_n (by omega)) (fun e4 => ?_) (fun k hk ek e4 => ?_)
      · rw [e4] at hp0; exact hp0
      · rw [e4] at hp0 hpx
        dsimp only at hp0 hpx
        subst ek
        have hov := hoki k hk
        obtain ⟨s1, ⟨s2, s3, s4⟩, ⟨s5, s6, s7⟩, ⟨s8, s9, s10, s11⟩, ⟨s12, s13⟩, s14, s15⟩ := hP.2.2 k hk
        generalize vs.getD k sv0 = v at *
        rw [n24]
        refine ⟨fun c0 => ygr ho rfl (b_Mo_piece_82 ⟨fun _ => ygr ho rfl (yal (mk16 hL) (vp_in_nI (by omega) (by omega)) ?_), fun w => absurd c0 w⟩), fun c0 => ygr ho rfl (b_Mo_piece_82 ⟨fun w => absurd w c0, fun _ => ygr ho rfl (yal (mk18 hL) (vp_in_nI (by omega) (by omega)) ?_)⟩)⟩
        · have c1 : c = 1 := by
            have h0 : w ≠ 0 := fun z => c0 (by rw [ew, z]; rfl)
            rw [ew, show w = 1 by omega]; rfl
          simp only [if_neg c0, if_pos c1] at hpx
          rw [nI_clamp (by omega), s8]
          exact piece_105 hL (mk21 hL) ⟨by decide, by decide⟩ s15 s14 (by omega) (by omega) (okV_b hov) hpx
        · simp only [if_pos (Classical.not_not.mp c0)] at hpx
          rw [nI_clamp (by omega), s10]
          exact piece_105 hL (mk20 hL) ⟨by decide, by decide⟩ s13 s12 (by omega) (by omega) (okV_d hov) hpx
  · rw [e1] at hp0; exact hp0
end
