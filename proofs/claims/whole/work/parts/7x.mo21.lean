/-! 7x the other object: the best pair; the whole PATCH -/
def q1I (q : Option (Nat × Nat)) : Int32 := match q with
  | none => -2
  | some z => nI z.1
def q2I (q : Option (Nat × Nat)) : Int32 := match q with
  | none => -2
  | some z => nI z.2
section
variable {Λ : yL} {f0 : xH} {S0 S S' S1 S2 : yS} {m d p s t u f g : Nat} {J F : Nat → Prop} {v w : Sv} {st vs : List Sv} {fs gs : List Fl} {xs ys bs cs : List Nat} {B : Ab} {x y a b c e z : Int32} {fl gl : Fl} {G N : Nat → Bool} {D : DS} {post : Option Value → xH → Prop}
theorem mCx_x (h : mCx S0 S m p st) (k : zX m (fun j => 26 ≤ j ∧ j ≤ 28) S S') : mCx S0 S' m p st := by
  obtain ⟨h1, h2, h3, h4⟩ := h
  exact ⟨zX_tr h1 (zX_mo k (fun j w => show Jc j by unfold Jc; omega)), zP_tr h2 (zP_x k (fun j _ _ => by omega)), mP_x k (fun j _ _ => by omega) h3, h4⟩
theorem mCx_T (h : mCx S0 S m p st) (hT : mT S0 m t fs) : mT S m t fs := mT_x h.1 (fun j _ _ => by unfold Jc; omega) hT
theorem gF_T (hT : mT S m t fs) (ht : t < 13) {i : Nat} (hi : i < fs.length) : gF S m (nI (10 * t + i)) (fs.getD i fl0) := by
  have := hT.1
  exact Or.inl ⟨10 * t + i, by omega, rfl, hT.2.2 i hi⟩
theorem bsA_b (hT : mT S m t fs) : ∀ n, (bsA fs gs D n).1 ≤ 96000 := by
  have hlk : ∀ i j, i < fs.length → lkF fs gs j i ≤ 96000 := fun i j hi => lkV_b _ _ (hT.2.2 i hi).2.2.1
  have h1 : ∀ j n B, n ≤ fs.length → B.1 ≤ 96000 → (bsR fs gs D n B j).1 ≤ 96000 := by
    intro j n
    induction n with
    | zero => intro B _ h; exact h
    | succ n ih =>
      intro B hn h
      have := ih B (by omega) h
      unfold bsR at this ⊢
      rw [rgF]
      unfold bsS at this ⊢
      split
      · exact hlk n j (by omega)
      · exact this
  intro n
  induction n with
  | zero => show 599 ≤ 96000; omega
  | succ n ih =>
    unfold bsA at ih ⊢
    rw [rgF]
    exact h1 n _ _ (Nat.le_refl _) ih
theorem Mo_pairLike_sp (hL : mLay Λ m) (hp8 : p < 9) (ht : t < 13) (hu : u < 13) (hT : mT S0 m t fs) (hU : mT S0 m u gs) (hoT : okT gs) (h : mCx S0 S m p st) (hn : st.length < 24) (h1 : mW1 S m fs.length D.1) (h2 : mW3 S m gs.length D.2.1) (hp1 : ∀ S' i j, (bsA fs gs D gs.length).2 = some (i, j) → mCx S0 S' m p (st ++ [mkS 4 (fs.getD i fl0) (gs.getD j fl0)]) → mW1 S' m fs.length (setB D.1 i) → mW3 S' m gs.length (setB D.2.1 j) → post (some (.int 1)) (yH Λ f0 S')) (hp0 : ∀ S', (bsA fs gs D gs.length).2 = none → mCx S0 S' m p st → mW1 S' m fs.length D.1 → mW3 S' m gs.length D.2.1 → post (some (.int 0)) (yH Λ f0 S')) : xSp xT0 (d + 6) j_Mo_pairLike [.ref m, .int (nI p), .int (nI t), .int (nI u)] (yH Λ f0 S) post := by
  have hW := hL.1
  have ho := hL.2.1
  have hfl := hT.1
  have hgl := hU.1
  have hcx : ∀ {S1}, zX m (fun j => j = 26) S S1 → mCx S0 S1 m p st := fun k => mCx_x h (zX_mo k (fun j w => by omega))
  refine xSp_of (M := m_Mo_pairLike) rfl (b_Mo_pairLike_0 ?_)
  have hlo : ∀ j, j ≤ gs.length → (∀ S1 (u8 u9 : Option Value), zX m (fun j => j = 26) S S1 → xWp (xT0, xSp xT0 (d + 5), none, m_Mo_pairLike, post) 16 [some (.ref m), some (.int (nI p)), some (.int (nI t)), some (.int (nI u)), some (.int (nI (bsA fs gs D j).1)), some (.int (q1I (bsA fs gs D j).2)), some (.int (q2I (bsA fs gs D j).2)), some (.int (nI j)), u8, u9] [] (yH Λ f0 S1) 0 0) := by
    refine loopUp ?_ ?_
    · intro S1 u8 u9 k1
      have hc1 := hcx k1
      have hT1 := mCx_T hc1 hT
      have hU1 := mCx_T hc1 hU
      have e27 : yA S1 11 27 m = yA S 11 27 m := (mX k1 (j := 27) (by omega)).2
      have e28 : yA S1 11 28 m = yA S 11 28 m := (mX k1 (j := 28) (by omega)).2
      refine b_Mo_pairLike_16 (ygr ho rfl (yal (mk9 hL) (vp_in_nI hu (by omega)) ?_))
      rw [nI_clamp (by omega), hU1.2.1]
      refine brle (by omega) (by omega) (fun _ => ?_) (fun w => by omega)
      cases hB : (bsA fs gs D gs.length).2 with
      | none =>
        refine ⟨fun w => absurd rfl w, fun _ => hp0 S1 hB hc1 (mW1_e e27 h1) (mW3_e e28 h2)⟩
      | some z =>
        obtain ⟨a1, a2, a3, a4⟩ := bsA_ok _ z.1 z.2 hB
        refine ⟨fun _ => ygr ho rfl (yas (mk28 hL) (yW_n hW (mk28 hL)) (vp_in_nI (n := z.2) (by omega) (by omega)) (ygr ho rfl (yas (mk27 hL) (yW_n hW (mk27 hL)) (vp_in_nI (n := z.1) (by omega) (by omega)) ?_))), fun w => absurd (nI_n2 (i := z.1) (by omega)) w⟩
        rw [show q1I (some z) = nI z.1 from rfl, show q2I (some z) = nI z.2 from rfl, nI_clamp (by omega), nI_clamp (by omega)]
        generalize hS2 : ywA (ywA S1 11 28 m (upd (yA S1 11 28 m) z.2 (nI z.1))) 11 27 m (upd (yA (ywA S1 11 28 m (upd (yA S1 11 28 m) z.2 (nI z.1))) 11 27 m) z.1 (nI z.2)) = S2
        have k2 : zX m (fun j => 26 ≤ j ∧ j ≤ 28) S1 S2 := by rw [← hS2]; exact zX_tr (zX_wA (by omega)) (zX_wA (by omega))
        have w1 : mW1 S2 m fs.length (setB D.1 z.1) := by
          intro i hi
          rw [← hS2, yA_s]
          show upd _ z.1 _ i = -2 ↔ (if i = z.1 then false else D.1 i) = true
          by_cases w : i = z.1
          · rw [if_pos w, w, pk_us]
            exact ⟨fun q => absurd q (nI_n2 (by omega)), fun q => absurd q (by decide)⟩
          · rw [if_neg w, pk_un w, yA_n _ _ (by omega), e27]; exact h1 i hi
        have w3 : mW3 S2 m gs.length (setB D.2.1 z.2) := by
          intro i hi
          rw [← hS2, yA_n _ _ (by omega), yA_s]
          show upd _ z.2 _ i = -2 ↔ (if i = z.2 then false else D.2.1 i) = true
          by_cases w : i = z.2
          · rw [if_pos w, w, pk_us]
            exact ⟨fun q => absurd q (nI_n2 (by omega)), fun q => absurd q (by decide)⟩
          · rw [if_neg w, pk_un w, e28]; exact h2 i hi
        have hc2 := mCx_x hc1 k2
        refine Mo_at_sp (xviI (Mo_at_sp (xviI ⟨yex ho, ?_⟩)))
        show xSp xT0 (d + 5) j_Mo_addStep [.ref m, .int (nI p), .int 4, .int (nI (10 * t + z.1)), .int (nI (10 * u + z.2)), .int (bI false)] _ _
        have hneg : ∀ k : Nat, k < 2 ^ 31 → ¬ nI k = -1 := fun k hk w => nI_pos hk (by rw [w]; decide)
        refine Mo_add2 hL hp8 hc2 hn (gF_T (mCx_T hc2 hT) ht a1) (gF_T (mCx_T hc2 hU) hu a2) ⟨fun w => absurd w (hneg _ (by omega)), fun w => absurd w (hneg _ (by omega))⟩ (hoT.1 _ a2) ⟨fun w => absurd w (by decide), fun w => absurd w (hneg _ (by omega))⟩ ⟨fun w => absurd w (by decide), fun w => absurd w (hneg _ (by omega))⟩ ⟨fun w => absurd w (by decide), fun w => absurd w (by decide)⟩ (fun w => absurd w (by decide)) (fun S3 hc3 e3 => xvvI ?_)
        exact hp1 S3 z.1 z.2 hB hc3 (mW1_e (e3 27 (by omega)) w1) (mW3_e (e3 28 (by omega)) w3)
    · intro j hj iho S1 u8 u9 k1
      have hU1 := mCx_T (hcx k1) hU
      refine b_Mo_pairLike_16 (ygr ho rfl (yal (mk9 hL) (vp_in_nI hu (by omega)) ?_))
      rw [nI_clamp (by omega), hU1.2.1]
      refine brle (by omega) (by omega) (fun w => by omega) (fun _ => ?_)
      have hs : bsA fs gs D (j + 1) = bsR fs gs D fs.length (bsA fs gs D j) j := by unfold bsA; rw [rgF]
      have hbb := bsA_b (gs := gs) (D := D) hT j
      rw [hs] at iho
      generalize bsA fs gs D j = B0 at *
      have hbn : ∀ i, i ≤ fs.length → (bsR fs gs D i B0 j).1 ≤ 96000 := by
        intro i
        induction i with
        | zero => intro _; exact hbb
        | succ i ihb =>
          intro hi
          have := ihb (by omega)
          unfold bsR at this ⊢
          rw [rgF]
          unfold bsS at this ⊢
          split
          · exact lkV_b _ _ (hT.2.2 i (by omega)).2.2.1
          · exact this
      have hin : ∀ i, i ≤ fs.length → (∀ S2 (u9 : Option Value), zX m (fun j => j = 26) S S2 → xWp (xT0, xSp xT0 (d + 5), none, m_Mo_pairLike, post) 30 [some (.ref m), some (.int (nI p)), some (.int (nI t)), some (.int (nI u)), some (.int (nI (bsR fs gs D i B0 j).1)), some (.int (q1I (bsR fs gs D i B0 j).2)), some (.int (q2I (bsR fs gs D i B0 j).2)), some (.int (nI j)), some (.int (nI i)), u9] [] (yH Λ f0 S2) 0 0) := by
        refine loopUp ?_ ?_
        · intro S2 u9 k2
          have hT2 := mCx_T (hcx k2) hT
          refine b_Mo_pairLike_30 (ygr ho rfl (yal (mk9 hL) (vp_in_nI ht (by omega)) ?_))
          rw [nI_clamp (by omega), hT2.2.1]
          refine brle (by omega) (by omega) (fun _ => ?_) (fun w => by omega)
          rw [nI_1]
          exact iho S2 _ _ k2
        · intro i hi ihi S2 u9 k2
          have hT2 := mCx_T (hcx k2) hT
          have hU2 := mCx_T (hcx k2) hU
          have hbi := hbn i (by omega)
          have hsi : bsR fs gs D (i + 1) B0 j = bsS fs gs D j (bsR fs gs D i B0 j) i := by unfold bsR; rw [rgF]
          rw [hsi] at ihi
          generalize bsR fs gs D i B0 j = B1 at *
          have hlb : lkF fs gs j i ≤ 96000 := lkV_b _ _ (hT.2.2 i hi).2.2.1
          have hno : ¬ (D.2.1 j = true ∧ D.1 i = true ∧ B1.1 < lkF fs gs j i) → ∀ S3 (u9 : Option Value), zX m (fun j => j = 26) S S3 → xWp (xT0, xSp xT0 (d + 5), none, m_Mo_pairLike, post) 30 [some (.ref m), some (.int (nI p)), some (.int (nI t)), some (.int (nI u)), some (.int (nI B1.1)), some (.int (q1I B1.2)), some (.int (q2I B1.2)), some (.int (nI j)), some (.int (nI (i + 1))), u9] [] (yH Λ f0 S3) 0 0 := by
            intro hc S3 u9 k3
            have e : bsS fs gs D j B1 i = B1 := if_neg hc
            rw [e] at ihi
            exact ihi S3 u9 k3
          have e27 : yA S2 11 27 m i = -2 ↔ D.1 i = true := by rw [(mX k2 (j := 27) (by omega)).2]; exact h1 i hi
          have e28 : yA S2 11 28 m j = -2 ↔ D.2.1 j = true := by rw [(mX k2 (j := 28) (by omega)).2]; exact h2 j hj
          refine b_Mo_pairLike_30 (ygr ho rfl (yal (mk9 hL) (vp_in_nI ht (by omega)) ?_))
          rw [nI_clamp (by omega), hT2.2.1, nI_1 i]
          refine brle (by omega) (by omega) (fun w => by omega) (fun _ => ygr ho rfl ⟨yex ho, Mo_isFree_sp (mk28 hL) (by omega) (by omega) e28 (xviI (brB (fun r => hno (fun w => by rw [r] at w; exact absurd w.1 (by decide)) S2 _ k2) (fun r => ygr ho rfl ⟨yex ho, Mo_isFree_sp (mk27 hL) (by omega) (by omega) e27 (xviI (brB (fun r2 => hno (fun w => by rw [r2] at w; exact absurd w.2.1 (by decide)) S2 _ k2) (fun r2 => Mo_at_sp (xviI (Mo_at_sp (xviI ⟨yex ho, Mo_like_sp hL (by omega) (by omega) (hT2.2.2 i hi) (hU2.2.2 j hj) (fun S3 k3 => xviI ?_)⟩))))))⟩)))⟩)
          refine brle (by unfold lkF at hlb; omega) (by omega) (fun w => hno (fun w2 => by have := w2.2.2; unfold lkF at this; omega) S3 _ (zX_tr k2 k3)) (fun w => ?_)
          have e : bsS fs gs D j B1 i = (lkF fs gs j i, some (i, j)) := if_pos ⟨r, r2, w⟩
          rw [e] at ihi
          exact ihi S3 _ (zX_tr k2 k3)
      exact hin 0 (Nat.zero_le _) S1 u9 k1
  exact hlo 0 (Nat.zero_le _) S none none zX_rf
end
