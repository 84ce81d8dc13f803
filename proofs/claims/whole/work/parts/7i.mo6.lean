/-! 7i the other object: trees -/
def okT (fs : List Fl) : Prop := (∀ i, i < fs.length → okP (fs.getD i fl0).1) ∧ (∀ i, i < fs.length → barT fs (fs.getD i fl0).1 = false) ∧ ∀ i j, i < fs.length → j < fs.length → (fs.getD i fl0).1 = (fs.getD j fl0).1 → i = j
theorem grp1 {j : Nat} (h : grp j = 1) : 5 ≤ j ∧ j ≤ 8 := by
  unfold grp at h
  by_cases c : 5 ≤ j ∧ j ≤ 8
  · exact c
  · rw [if_neg c] at h
    split at h
    · omega
    · split at h
      · omega
      · split at h <;> omega
theorem grp2 {j : Nat} (h : grp j = 2) : 11 ≤ j ∧ j ≤ 21 := by
  unfold grp at h
  split at h
  · omega
  · split at h
    · assumption
    · split at h
      · omega
      · split at h <;> omega
section
variable {Λ : yL} {f0 : xH} {S S' S1 : yS} {m d t u f g : Nat} {J : Nat → Prop} {fs gs : List Fl} {ts : List (List Fl)} {v : Sv} {vs : List Sv} {ps : List (List Sv)} {cl : List (Nat × Nat)} {D : Dv} {bs cs : List Nat} {B : Ab} {x y a b c e z : Int32} {post : Option Value → xH → Prop}
/-- all FILES but those of one TREE stay -/
def zT (m u : Nat) (S S' : yS) : Prop := (∀ f q, ¬ Ft u f → mF S m f q → mF S' m f q) ∧ ∀ t, t ≠ u → yA S' 11 9 m t = yA S 11 9 m t
theorem zT_rf : zT m u S S := ⟨fun _ _ _ h => h, fun _ _ => rfl⟩
theorem zT_tr {S2 : yS} (h1 : zT m u S S1) (h2 : zT m u S1 S2) : zT m u S S2 := ⟨fun f q a b => h2.1 f q a (h1.1 f q a b), fun t a => (h2.2 t a).trans (h1.2 t a)⟩
theorem zT_x (k : zX m J S S') (h : ∀ j, 5 ≤ j → j ≤ 9 → ¬ J j) : zT m u S S' := ⟨fun f q _ b => mF_x k (fun j h1 h2 => h j h1 (by omega)) b, fun t _ => by rw [(mX k (h 9 (by omega) (by omega))).2]⟩
theorem zT_S {F : Nat → Prop} (k : zS m 1 F S S') (h : ∀ i, F i → Ft u i) : zT m u S S' := ⟨fun f q a b => mF_z k (fun _ z => a (h f z)) b, fun t _ => by rw [k.2.1 11 9 m (fun z => absurd z.2.2 (by decide))]⟩
theorem zT_9 {v : Int32} : zT m u S (ywA S 11 9 m (upd (yA S 11 9 m) u v)) := ⟨fun f q _ b => by
  unfold mF
  rw [yA_n _ _ (by omega), yA_n _ _ (by omega), yA_n _ _ (by omega), yA_n _ _ (by omega)]
  exact b, fun t h => by rw [yA_s, pk_un h]⟩
theorem mT_o (h : zT m u S S') (htu : t ≠ u) (q : mT S m t fs) : mT S' m t fs := by
  have hl := q.1
  refine ⟨q.1, by rw [h.2 t htu]; exact q.2.1, fun i hi => h.1 _ _ (fun z => ?_) (q.2.2 i hi)⟩
  have z1 : 10 * u ≤ 10 * t + i := z.1
  have z2 : 10 * t + i < 10 * u + 10 := z.2
  omega
theorem mTs_set (h : zT m u S S') (h10 : yI S' 11 10 m = nI ts.length) (hu : mT S' m u fs) (q : mTs S m ts) : mTs S' m (ts.set u fs) := by
  refine ⟨by rw [List.length_set]; exact q.1, by rw [List.length_set]; exact h10, fun t ht => ?_⟩
  rw [List.length_set] at ht
  rw [List.getD_eq_getElem?_getD, List.getElem?_set]
  by_cases e : u = t
  · rw [if_pos e, if_pos (by omega)]
    rw [e] at hu
    exact hu
  · rw [if_neg e, ← List.getD_eq_getElem?_getD]
    exact mT_o h (fun z => e z.symm) (q.2.2 t ht)
theorem mTs_add (h : zT m ts.length S S') (hl : ts.length < 12) (h10 : yI S' 11 10 m = nI (ts.length + 1)) (hu : mT S' m ts.length fs) (q : mTs S m ts) : mTs S' m (ts ++ [fs]) := by
  have hlen : (ts ++ [fs]).length = ts.length + 1 := by rw [List.length_append]; rfl
  refine ⟨by rw [hlen]; omega, by rw [hlen]; exact h10, fun t ht => ?_⟩
  rw [apG ht]
  rw [hlen] at ht
  by_cases c : t < ts.length
  · rw [if_pos c]; exact mT_o h (by omega) (q.2.2 t c)
  · rw [if_neg c, show t = ts.length by omega]; exact hu
/-- only TREES have changed -/
abbrev Jt (j : Nat) : Prop := (5 ≤ j ∧ j ≤ 10) ∨ scr j
theorem mQ_T (k : zX m Jt S S') (q : mQ Λ S m B) (h : mTs S' m ts) : mQ Λ S' m (wT B ts) := by
  obtain ⟨q0, q1, q2, q3, q4, q5, q6⟩ := q
  exact ⟨q0, mTa_x k (fun j _ _ => by unfold Jt scr; omega) q1, mHa_x k (fun j _ _ => by unfold Jt scr; omega) q2, h, mPs_x k (fun j _ _ => by unfold Jt scr; omega) q4, mCo_x k (fun j _ _ => by unfold Jt scr; omega) q5, mDi_x k (fun j _ _ => by unfold Jt scr; omega) q6⟩
theorem M0_Fr : yFr (A11 m) S (ywI S 11 0 m x) := zX_Fr (zX_wI (J := fun _ => True) trivial)
theorem M_clear (q : mQ Λ S m B) (hp : ∀ S', yFr (A11 m) S S' → mQ Λ S' m (a_clear B).1 → post (some (.int (a_clear B).2)) (yH Λ f0 S')) : xSp xT0 (d + 8) j_Mo_clear [.ref m] (yH Λ f0 S) post := by
  have ho := q.1.2.1
  refine xSp_of (M := m_Mo_clear) rfl (b_Mo_clear_0 (ypf ho rfl (ygi ho rfl (ypf ho rfl (ypf ho rfl ?_)))))
  have e5 : yI (ywI S 11 0 m 0) 11 10 m = nI (aT B).length := by rw [ywI_ne _ _ (by omega)]; exact q.2.2.2.1.2.1
  rw [e5]
  have k : zX m (fun j => j = 0 ∨ j = 10 ∨ j = 23) S (ywI (ywI (ywI S 11 0 m 0) 11 10 m 0) 11 23 m 0) := zX_tr (zX_tr (zX_wI (Or.inl rfl)) (zX_wI (Or.inr (Or.inl rfl)))) (zX_wI (Or.inr (Or.inr rfl)))
  obtain ⟨q0, q1, q2, q3, q4, q5, q6⟩ := q
  refine hp _ (zX_Fr k) ⟨q0, mTa_x k (fun j _ _ => by omega) q1, mHa_x k (fun j _ _ => by omega) q2, ⟨Nat.zero_le _, ?_, fun t ht => absurd ht (Nat.not_lt_zero _)⟩, ⟨Nat.zero_le _, ywI_s _ _ _ _ _, fun t ht => absurd ht (Nat.not_lt_zero _)⟩, mCo_x k (fun j _ _ => by omega) q5, mDi_x k (fun j _ _ => by omega) q6⟩
  rw [ywI_ne _ _ (by omega)]
  exact ywI_s _ _ _ _ _
theorem M_tree (q : mQ Λ S m B) (hp : ∀ S', yFr (A11 m) S S' → mQ Λ S' m (a_tree B a).1 → post (some (.int (a_tree B a).2)) (yH Λ f0 S')) : xSp xT0 (d + 8) j_Mo_tree [.ref m, .int a] (yH Λ f0 S) post := by
  have hL := q.1
  have ho := hL.2.1
  have hl := q.2.2.2.1.1
  have q' := mQ_0 (x := 0) q
  have e10 := q'.2.2.2.1.2.1
  unfold a_tree at hp
  have h57 : ∀ (fs : List Fl) (a : Int32), (aT B).length < 12 → fs.length ≤ 10 → (fs = [] ∨ ∃ i, i < (aT B).length ∧ a = nI i ∧ fs = (aT B).getD i []) → (∀ S', yFr (A11 m) S S' → mQ Λ S' m (wT B (aT B ++ [fs])) → post (some (.int (nI (aT B).length))) (yH Λ f0 S')) → xWp (xT0, xSp xT0 (d + 7), none, m_Mo_tree, post) 57 [some (.ref m), some (.int a), some (.int 0)] [] (yH Λ f0 (ywA (ywI S 11 0 m 0) 11 9 m (upd (yA (ywI S 11 0 m 0) 11 9 m) (aT B).length (nI fs.length)))) 0 0 := by
    intro fs a hlt hfl hcase hp1
    have hlo : ∀ k, k ≤ fs.length → (∀ S1, zX m Jt S S1 → zT m (aT B).length S S1 → yI S1 11 10 m = nI (aT B).length → yA S1 11 9 m (aT B).length = nI fs.length → (∀ i, i < k → mF S1 m (10 * (aT B).length + i) (fs.getD i fl0)) → xWp (xT0, xSp xT0 (d + 7), none, m_Mo_tree, post) 57 [some (.ref m), some (.int a), some (.int (nI k))] [] (yH Λ f0 S1) 0 0) := by
      refine loopUp ?_ ?_
      · intro S1 k1 z1 i10 i9 hF
        refine b_Mo_tree_57 (ygr ho rfl (ygi ho rfl ?_))
        rw [i10]
        refine yal (mk9 hL) (vp_in_nI (by omega) (by omega)) ?_
        rw [nI_clamp (by omega), i9]
        refine brle (by omega) (by omega) (fun _ => ygi ho rfl (ypf ho rfl (ygi ho rfl ?_))) (fun c => by omega)
        rw [ywI_s, i10, nI_1, nI_pred]
        have k2 : zX m Jt S1 (ywI S1 11 10 m (nI ((aT B).length + 1))) := zX_wI (by unfold Jt; omega)
        refine hp1 _ (zX_Fr (zX_tr k1 k2)) (mQ_T (zX_tr k1 k2) q (mTs_add (zT_tr z1 (zT_x (J := fun j => j = 10) (zX_wI rfl) (fun j _ _ => by omega))) hlt (ywI_s _ _ _ _ _) ⟨hfl, i9, fun i hi => mF_x (J := fun j => j = 10) (zX_wI rfl) (fun j _ _ => by omega) (hF i hi)⟩ q.2.2.2.1))
      · intro k hk ih S1 k1 z1 i10 i9 hF
        rcases hcase with hc | ⟨i, hi, ea, ef⟩
        · rw [hc] at hk; exact absurd hk (by simp)
        · have hTi := mT_o z1 (show i ≠ (aT B).length by omega) (q.2.2.2.1.2.2 i hi)
          rw [← ef] at hTi
          refine b_Mo_tree_57 (ygr ho rfl (ygi ho rfl ?_))
          rw [i10]
          refine yal (mk9 hL) (vp_in_nI (by omega) (by omega)) ?_
          rw [nI_clamp (by omega), i9, ea, nI_1]
          refine brle (by omega) (by omega) (fun c => by omega) (fun _ => Mo_at_sp (xviI (ygi ho rfl ?_)))
          rw [i10]
          refine Mo_at_sp (xviI ⟨yex ho, Mo_moveFile_sp hL (by omega) (by omega) (by omega) (hTi.2.2 k hk) (fun S2 k2 hq2 => xvvI ?_)⟩)
          rw [ea] at ih
          refine ih S2 (zX_tr k1 (zX_S k2 (fun j hj => Or.inl (by have := grp1 hj; omega)))) (zT_tr z1 (zT_S k2 (fun z e => by rw [show z = 10 * (aT B).length + k from e]; exact ⟨by omega, by omega⟩))) (by rw [(k2.1 11 10 m).1]; exact i10) (by rw [k2.2.1 11 9 m (fun z => absurd z.2.2 (by decide))]; exact i9) (fun j hj => ?_)
          by_cases w : j = k
          · rw [w]; exact hq2
          · exact mF_z k2 (fun _ e => by omega) (hF j (by omega))
    refine hlo 0 (Nat.zero_le _) _ (zX_tr (zX_wI (by unfold Jt scr; omega)) (zX_wA (by unfold Jt; omega))) (zT_tr (zT_x (J := fun j => j = 0) (zX_wI rfl) (fun j _ _ => by omega)) zT_9) e10 (by rw [yA_s, pk_us]) (fun i hi => absurd hi (Nat.not_lt_zero _))
  have h20 : ¬ (¬ a = -1 ∧ tIx (aT B).length a = none) → ∀ (u2 : Option Value), xWp (xT0, xSp xT0 (d + 7), none, m_Mo_tree, post) 20 [some (.ref m), some (.int a), u2] [] (yH Λ f0 (ywI S 11 0 m 0)) 0 0 := by
    intro hc u2
    rw [if_neg hc] at hp
    refine b_Mo_tree_20 (ygi ho rfl ?_)
    rw [e10]
    refine brne (b := 12) (by omega) (by omega) (fun c12 => ygr ho rfl (ygi ho rfl ?_)) (fun c12 => ?_)
    · have hlt : (aT B).length < 12 := by omega
      rw [if_pos hlt] at hp
      rw [e10]
      rcases tIx_c (aT B).length (by omega) a with ⟨r, r2⟩ | ⟨k, hk, ek, ek2⟩
      · have ea : a = -1 := Classical.byContradiction (fun z => hc ⟨z, r⟩)
        rw [r] at hp
        subst ea
        refine ⟨fun z => absurd z (by decide), fun _ => yas (mk9 hL) (yW_n hL.1 (mk9 hL)) (vp_in_nI (by omega) (by omega)) ?_⟩
        rw [nI_clamp (by omega)]
        exact h57 [] _ hlt (by simp) (Or.inl rfl) hp
      · rw [ek2] at hp
        have hT := q'.2.2.2.1.2.2 k hk
        rw [ek]
        refine ⟨fun _ => ygr ho rfl (yal (mk9 hL) (vp_in_nI (by omega) (by omega)) (yas (mk9 hL) (yW_n hL.1 (mk9 hL)) (vp_in_nI (by omega) (by omega)) ?_)), fun z => absurd ((leI (a := 0) (by omega) (by omega)).mpr (Nat.zero_le _)) z⟩
        rw [nI_clamp (by omega), nI_clamp (by omega), hT.2.1]
        exact h57 _ _ hlt hT.1 (Or.inr ⟨k, hk, rfl, rfl⟩) hp
    · rw [if_neg (by omega)] at hp
      exact hp _ M0_Fr q'
  refine xSp_of (M := m_Mo_tree) rfl (b_Mo_tree_0 (ypf ho rfl ⟨fun c1 => h20 (fun z => z.1 c1) _, fun c1 => ⟨yex ho, Mo_noTree_sp q' (fun i hi e e2 => xviI ⟨fun _ => h20 (fun z => by rw [e2] at z; cases z.2) _, fun z => absurd rfl z⟩) (fun e => xviI ⟨fun z => absurd z (by decide), fun _ => ?_⟩)⟩⟩))
  rw [if_pos ⟨c1, e⟩] at hp
  exact hp _ M0_Fr q'
theorem M_file (q : mQ Λ S m B) (hp : ∀ S', yFr (A11 m) S S' → mQ Λ S' m B → post (some (.int (a_file B a b c))) (yH Λ f0 S')) : xSp xT0 (d + 8) j_Mo_file [.ref m, .int a, .int b, .int c] (yH Λ f0 S) post := by
  have hL := q.1
  have ho := hL.2.1
  have hl := q.2.2.2.1.1
  have q' := mQ_0 (x := 0) q
  replace hp := hp _ M0_Fr q'
  unfold a_file at hp
  refine xSp_of (M := m_Mo_file) rfl (b_Mo_file_0 (ypf ho rfl ⟨yex ho, Mo_noTree_sp q' (fun i hi e e2 => xviI ⟨fun z => absurd rfl z, fun _ => ?_⟩) (fun e => xviI ⟨fun _ => ?_, fun z => absurd (by decide) z⟩)⟩))
  · subst e
    rw [e2] at hp
    dsimp only at hp
    have hT := q'.2.2.2.1.2.2 i hi
    have hfl := hT.1
    refine brTn (n := 4) (by omega) rfl (fun e3 => ?_) (fun w hw ew e3 => ?_)
    · have hn : ∀ w, w < 4 → ¬ c = nI w := fun w hw z => by rw [z, tIx_s (by omega) hw] at e3; cases e3
      rw [if_neg (show ¬ c = 3 from hn 3 (by omega))] at hp
      cases h4 : tIx ((aT B).getD i []).length b with
      | none => rw [h4] at hp; exact hp
      | some k =>
        rw [h4] at hp
        dsimp only at hp
        rw [if_neg (show ¬ c = 0 from hn 0 (by omega)), if_neg (show ¬ c = 1 from hn 1 (by omega)), if_neg (show ¬ c = 2 from hn 2 (by omega))] at hp
        exact hp
    · refine ⟨fun c3 => ygr ho rfl (yal (mk9 hL) (vp_in_nI (by omega) (by omega)) ?_), fun c3 => ygr ho rfl (yal (mk9 hL) (vp_in_nI (by omega) (by omega)) ?_)⟩
      · rw [if_neg c3] at hp
        rw [nI_clamp (by omega), hT.2.1]
        refine brTn (by omega) (L_n (by omega)) (fun e4 => ?_) (fun k hk ek e4 => ?_)
        · rw [e4] at hp; exact hp
        · rw [e4] at hp
          dsimp only at hp
          subst ek
          obtain ⟨⟨a1, a2, a3⟩, b1, b2, b3⟩ := hT.2.2 k hk
          refine Mo_at_sp (xviI ⟨fun c0 => ⟨fun c1 => ygr ho rfl (ygr ho rfl (yal (mk8 hL) (vp_in_nI (by omega) (by omega)) ?_)), fun c1 => ygr ho rfl (yal (mk8 hL) (vp_in_nI (by omega) (by omega)) ?_)⟩, fun c0 => ygr ho rfl (yal (mk6 hL) (vp_in_nI (by omega) (by omega)) ?_)⟩)
          · rw [nI_clamp (by omega), b1, n48]
            have c2 : c = 2 := by
              have hw2 : w = 2 := by
                have h0 : w ≠ 0 := fun z => c0 (by rw [ew, z]; rfl)
                have h1 : w ≠ 1 := fun z => c1 (by rw [ew, z]; rfl)
                have h3 : w ≠ 3 := fun z => c3 (by rw [ew, z]; rfl)
                omega
              rw [ew, hw2]; rfl
            rw [if_neg c0, if_neg c1, if_pos c2] at hp
            exact Mo_sum_sp (mk7 hL) b3 (by omega) (by omega) (xviI hp)
          · rw [nI_clamp (by omega), b1]
            rw [if_neg c0, if_pos (Classical.not_not.mp c1)] at hp
            exact hp
          · rw [nI_clamp (by omega), a1]
            rw [if_pos (Classical.not_not.mp c0)] at hp
            exact hp
      · rw [nI_clamp (by omega), hT.2.1]
        rw [if_pos (Classical.not_not.mp c3)] at hp
        exact hp
  · rw [e] at hp; exact hp
end
