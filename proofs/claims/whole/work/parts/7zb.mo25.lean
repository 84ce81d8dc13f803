/-! 7zb the other object: makeTree -/
theorem kpL_m (fs : List Fl) (vs : List Sv) (G : Nat → Bool) (k : Nat) : ∀ n, k ≤ n → (kpL fs vs G k).length ≤ (kpL fs vs G n).length
  | 0, h => by rw [show k = 0 by omega]; exact Nat.le_refl _
  | n + 1, h => by
    by_cases w : k = n + 1
    · rw [w]; exact Nat.le_refl _
    · have := kpL_m fs vs G k n (by omega)
      rw [kpL_s]
      split
      · omega
      · rw [List.length_append]; omega
theorem adL_m (fs : List Fl) (vs : List Sv) (G : Nat → Bool) (l : List Fl) (k : Nat) : ∀ n, k ≤ n → (adL fs vs G l k).length ≤ (adL fs vs G l n).length
  | 0, h => by rw [show k = 0 by omega]; exact Nat.le_refl _
  | n + 1, h => by
    by_cases w : k = n + 1
    · rw [w]; exact Nat.le_refl _
    · have := adL_m fs vs G l k n (by omega)
      rw [adL_s]
      split
      · rw [List.length_append]; omega
      · omega
theorem adL_l (fs : List Fl) (vs : List Sv) (G : Nat → Bool) (l : List Fl) : ∀ n, (adL fs vs G l n).length ≤ l.length + n
  | 0 => Nat.le_refl _
  | n + 1 => by
    have := adL_l fs vs G l n
    rw [adL_s]
    split
    · rw [List.length_append]; simp only [List.length_cons, List.length_nil]; omega
    · omega
theorem foldI_l (l : List Fl) : (foldI l).length = l.length := by
  have := (foldI_ok l l.length (Nat.le_refl _)).1
  rw [List.take_length] at this
  exact this
theorem insF_p {gs : List Fl} {f : Fl} (h : ∀ i, i < gs.length → okP (gs.getD i fl0).1) (hf : okP f.1) : ∀ i, i < (insF gs f).length → okP ((insF gs f).getD i fl0).1 := fun i hi => by
  rw [insF_l] at hi
  rcases insL_mem (insP_le _ _ _) (j := i) (gs := gs) (f := f) hi with z | ⟨k, hk, z⟩
  · unfold insF; rw [z]; exact hf
  · unfold insF; rw [z]; exact h k hk
theorem rulA_0 {vs : List Sv} {fs : List Fl} {G : Nat → Bool} {v : Sv} (h : rulA vs fs G v = 0) : (¬ v.1 = 0 → fnd fs v.2.2.1 < fs.length) ∧ (¬ v.1 = 0 → nI (cntA fs v).length = v.2.2.2.1) := by
  unfold rulA at h
  split at h
  · cases h
  · rename_i h1
    split at h
    · cases h
    · rename_i h2
      exact ⟨fun z => Classical.byContradiction (fun w => h1 ⟨z, w⟩), fun z => Classical.byContradiction (fun w => h2 ⟨z, fun q => w q.1⟩)⟩
section
variable {Λ : yL} {f0 : xH} {S S' S1 : yS} {m d t u f g p : Nat} {J : Nat → Prop} {v : Sv} {vs : List Sv} {fs gs : List Fl} {bs cs : List Nat} {B : Ab} {x y a b c e z : Int32} {G : Nat → Bool} {post : Option Value → xH → Prop}
abbrev Jm (j : Nat) : Prop := (5 ≤ j ∧ j ≤ 9) ∨ j = 35
theorem Mo_makeTree_sp (hL : mLay Λ m) (hp8 : p < 9) (ht : t < 13) (hu : u < 13) (htu : t ≠ u) (hP : mP S m p vs) (hT : mT S m t fs) (hG : mGo S m vs.length G) (i10 : yI S 11 10 m = nI u) (hok : ∀ i, i < fs.length → okP (fs.getD i fl0).1) (hov : ∀ i, i < vs.length → okV (vs.getD i sv0)) (hfit : ∀ i, i < vs.length → G i = true → rulA vs fs G (vs.getD i sv0) = 0) (hp1 : ∀ S', zX m Jm S S' → zT m u S S' → (alL fs vs G).length ≤ 10 → noB (alL fs vs G) → mT S' m u (foldI (alL fs vs G)) → post (some (.int 1)) (yH Λ f0 S')) (hp0 : ∀ S', zX m Jm S S' → zT m u S S' → ¬ ((alL fs vs G).length ≤ 10 ∧ noB (alL fs vs G)) → post (some (.int 0)) (yH Λ f0 S')) : xSp xT0 (d + 5) j_Mo_makeTree [.ref m, .int (nI p), .int (nI t)] (yH Λ f0 S) post := by
  have hW := hL.1
  have ho := hL.2.1
  have hvl := hP.1
  have hfl := hT.1
  have hal : (alL fs vs G).length ≤ 34 := by
    have h1 := kpL_l fs vs G fs.length
    have h2 := adL_l fs vs G (kpL fs vs G fs.length) vs.length
    unfold alL; omega
  have hkal : (kpL fs vs G fs.length).length ≤ (alL fs vs G).length := adL_m fs vs G (kpL fs vs G fs.length) 0 vs.length (Nat.zero_le _)
  -- what stays
  have hst : ∀ {S1}, zX m Jm S S1 → zT m u S S1 → mP S1 m p vs ∧ mT S1 m t fs ∧ mGo S1 m vs.length G := fun k z => ⟨mP_x k (fun j _ _ => by unfold Jm; omega) hP, mT_o z htu hT, by unfold mGo; rw [(mX k (j := 31) (by unfold Jm; omega)).2]; exact hG⟩
  have h362 : (alL fs vs G).length ≤ 10 → ∀ S1, zX m Jm S S1 → zT m u S S1 → mT S1 m u (foldI (alL fs vs G)) → ∀ (x4 : Int32) (u7 : Option Value), xWp (xT0, xSp xT0 (d + 4), none, m_Mo_makeTree, post) 362 [some (.ref m), some (.int (nI p)), some (.int (nI t)), some (.int (nI u)), some (.int x4), some (.int 1), some (.int 0), u7] [] (yH Λ f0 S1) 0 0 := by
    intro h10 S1 k1 z1 hU x4 u7
    have hul := hU.1
    have hlo : ∀ k, k ≤ (foldI (alL fs vs G)).length → (∀ (u7 : Option Value), xWp (xT0, xSp xT0 (d + 4), none, m_Mo_makeTree, post) 362 [some (.ref m), some (.int (nI p)), some (.int (nI t)), some (.int (nI u)), some (.int x4), some (.int (bI (allN (fun i => !barT (foldI (alL fs vs G)) ((foldI (alL fs vs G)).getD i fl0).1) k))), some (.int (nI k)), u7] [] (yH Λ f0 S1) 0 0) := by
      refine loopUp ?_ ?_
      · intro u7
        refine b_Mo_makeTree_362 (ygr ho rfl (yal (mk9 hL) (vp_in_nI hu (by omega)) ?_))
        rw [nI_clamp (by omega), hU.2.1]
        refine brle (by omega) (by omega) (fun _ => ?_) (fun w => by omega)
        cases hn : allN (fun i => !barT (foldI (alL fs vs G)) ((foldI (alL fs vs G)).getD i fl0).1) (foldI (alL fs vs G)).length with
        | true => exact ⟨Or.inr rfl, hp1 S1 k1 z1 h10 ((noB_i _).mp hn) hU⟩
        | false => exact ⟨Or.inl rfl, hp0 S1 k1 z1 (fun w => by rw [(noB_i _).mpr w.2] at hn; cases hn)⟩
      · intro k hk ih u7
        obtain ⟨⟨a1, a2, a3⟩, -⟩ := hU.2.2 k hk
        refine b_Mo_makeTree_362 (ygr ho rfl (yal (mk9 hL) (vp_in_nI hu (by omega)) ?_))
        rw [nI_clamp (by omega), hU.2.1, nI_1 k]
        refine brle (by omega) (by omega) (fun w => by omega) (fun _ => Mo_at_sp (xviI (brB (fun e1 => ?_) (fun e1 => ygr ho rfl (ygr ho rfl (yal (mk6 hL) (vp_in_nI (by omega) (by omega)) ?_))))))
        · rw [allN_s, e1] at ih; exact ih _
        · rw [allN_s, e1, Bool.true_and] at ih
          rw [nI_clamp (by omega), a1, n18]
          refine ⟨yex ho, Mo_isBlocked_sp hL hu hU (mk5 hL) a3 (by omega) (by omega) (xviI (brBn (fun e2 => ?_) (fun e2 => ?_)))⟩
          · rw [e2] at ih; exact ih _
          · rw [e2] at ih; exact ih _
    exact hlo 0 (Nat.zero_le _) u7
  have h236 : (alL fs vs G).length ≤ 10 → ∀ S1, zX m Jm S S1 → zT m u S S1 → mT S1 m u (foldI (kpL fs vs G fs.length)) → (∀ i, i < (foldI (kpL fs vs G fs.length)).length → okP ((foldI (kpL fs vs G fs.length)).getD i fl0).1) → ∀ (x4 : Int32) (u6 u7 : Option Value), xWp (xT0, xSp xT0 (d + 4), none, m_Mo_makeTree, post) 236 [some (.ref m), some (.int (nI p)), some (.int (nI t)), some (.int (nI u)), some (.int x4), some (.int 0), u6, u7] [] (yH Λ f0 S1) 0 0 := by
    intro h10 S0 k0 z0 hU0 hp0' x4 u6 u7
    have hlo : ∀ k, k ≤ vs.length → (∀ S1 (u6 u7 : Option Value), zX m Jm S S1 → zT m u S S1 → mT S1 m u (foldI (adL fs vs G (kpL fs vs G fs.length) k)) → (∀ i, i < (foldI (adL fs vs G (kpL fs vs G fs.length) k)).length → okP ((foldI (adL fs vs G (kpL fs vs G fs.length) k)).getD i fl0).1) → xWp (xT0, xSp xT0 (d + 4), none, m_Mo_makeTree, post) 236 [some (.ref m), some (.int (nI p)), some (.int (nI t)), some (.int (nI u)), some (.int x4), some (.int (nI k)), u6, u7] [] (yH Λ f0 S1) 0 0) := by
      refine loopUp ?_ ?_
      · intro S1 u6 u7 k1 z1 hU hpk
        obtain ⟨hP1, hT1, hG1⟩ := hst k1 z1
        refine b_Mo_makeTree_236 (ygr ho rfl (yal (mk22 hL) (vp_in_nI hp8 (by omega)) ?_))
        rw [nI_clamp (by omega), hP1.2.1]
        exact brle (by omega) (by omega) (fun _ => h362 h10 S1 k1 z1 hU _ _) (fun w => by omega)
      · intro k hk ih S1 u6 u7 k1 z1 hU hpk
        obtain ⟨hP1, hT1, hG1⟩ := hst k1 z1
        have hmS := hP1.2.2 k hk
        obtain ⟨s1, ⟨s2, s3, s4⟩, ⟨s5, s6, s7⟩, ⟨s8, s9, s10, s11⟩, ⟨s12, s13⟩, s14, s15⟩ := id hmS
        refine b_Mo_makeTree_236 (ygr ho rfl (yal (mk22 hL) (vp_in_nI hp8 (by omega)) ?_))
        rw [nI_clamp (by omega), hP1.2.1, nI_1 k, n24]
        refine brle (by omega) (by omega) (fun w => by omega) (fun _ => ygr ho rfl (yal (mk31 hL) (vp_in_nI (by omega) (by omega)) ?_))
        rw [nI_clamp (by omega), hG1 k hk]
        rw [adL_s] at ih
        refine brB (fun e1 => ?_) (fun e1 => ygr ho rfl (yal (mk11 hL) (vp_in_nI (by omega) (by omega)) ?_))
        · rw [if_neg (fun w => by rw [e1] at w; cases w.1)] at ih
          exact ih S1 _ _ k1 z1 hU hpk
        · rw [nI_clamp (by omega), s1]
          refine ⟨fun c1 => ?_, fun c1 => ?_⟩
          · rw [if_neg (fun w => w.2 c1)] at ih
            exact ih S1 _ _ k1 z1 hU hpk
          · have hov1 := hov k hk
            have hf := rulA_0 (hfit k hk e1)
            rw [if_pos ⟨e1, c1⟩, foldI_a] at ih
            have hlen : (foldI (adL fs vs G (kpL fs vs G fs.length) k)).length < 10 := by
              rw [foldI_l]
              have h1 := adL_m fs vs G (kpL fs vs G fs.length) (k + 1) vs.length (by omega)
              rw [adL_s, if_pos ⟨e1, c1⟩, List.length_append] at h1
              have h1 : (adL fs vs G (kpL fs vs G fs.length) k).length + 1 ≤ (alL fs vs G).length := h1
              omega
            generalize hv : vs.getD k sv0 = v at *
            refine ⟨yex ho, Mo_sourceOf_sp hL (by omega) hmS ht hT1 (xviI (ygr ho rfl ?_))⟩
            obtain ⟨p1, xs, e2, g1, b1, b2, b3, b4⟩ := cnt_r hov1 hT1 ht hf.1 hf.2
            have h313 : xWp (xT0, xSp xT0 (d + 4), none, m_Mo_makeTree, post) 313 [some (.ref m), some (.int (nI p)), some (.int (nI t)), some (.int (nI u)), some (.int x4), some (.int (nI k)), some (.int (nI (24 * p + k))), some (.int (srO fs v))] [.int (nI p1), .ref (Λ.2.1 11 7 m), .int (nI (24 * p + k)), .ref m] (yH Λ f0 S1) 0 0 := by
              refine b_Mo_makeTree_313 ⟨yex ho, Mo_make_sp hL (by omega) hmS hov1 g1 b1 b2 b3 (fun S2 k2 hm => xvvI (ygr ho rfl (ygr ho rfl (yal (mk13 hL) (vp_in_nI (by omega) (by omega)) (ygr ho rfl (ygr ho rfl (yal (mk18 hL) (vp_in_nI (by omega) (by omega)) ?_)))))))⟩
              have hml := makeD_l v.2.2.2.2.2.2.2.1 xs
              have hz48 := hov1.2.2.2.2.1.1
              rw [nI_clamp (by omega), (mX k2 (j := 13) (by omega)).2, (mX k2 (j := 18) (by omega)).2, s2, s10, hov1.2.2.1.2 c1, ← hml, n18, nI_1 k]
              have k2' : zX m Jm S1 S2 := zX_mo k2 (fun j e => Or.inr e)
              have hU2 := mT_x k2 (fun j _ _ => by omega) hU
              have s4' : rg (yA S2 11 12 m) (18 * (24 * p + k)) v.2.1 := by rw [(mX k2 (j := 12) (by omega)).2]; exact s4
              refine ⟨yex ho, Mo_addFile_sp (p2 := 0) hL hu hU2 hlen hpk hov1.2.1.1 (mk12 hL) s4' (by omega) (by omega) s3 (fun z => absurd z (by decide)) (mk35 hL) hm (by omega) (by omega) (by omega) (fun z => absurd z (by decide)) (fun S3 k3 z3a z3b hU3 => xvvI ?_)⟩
              have k3' : zX m Jm S2 S3 := zX_mo k3 (fun j e => by rcases e with e | e; (have := grp1 e; exact Or.inl (by omega)); exact Or.inl (by omega))
              have z3 : zT m u S2 S3 := ⟨z3a, z3b⟩
              refine ih S3 _ _ (zX_tr k1 (zX_tr k2' k3')) (zT_tr z1 (zT_tr (zT_x k2 (fun j _ _ => by omega)) z3)) ?_ (insF_p hpk hov1.2.1.1)
              have : adF fs v = (v.2.1, makeD v.2.2.2.2.2.2.2.1 xs) := by unfold adF; rw [b4]
              rw [this]
              exact hU3
            by_cases c2 : srO fs v = -2
            · rw [if_pos c2] at e2
              rw [← e2] at h313
              exact ⟨fun w => absurd c2 w, fun _ => h313⟩
            · rw [if_neg c2] at e2
              have es : srO fs v = nI (fnd fs v.2.2.1) := by
                unfold srO at c2 ⊢
                by_cases cc : ¬ v.1 = 0 ∧ fnd fs v.2.2.1 < fs.length
                · rw [if_pos cc]
                · rw [if_neg cc] at c2; exact absurd rfl c2
              refine ⟨fun _ => ?_, fun w => absurd c2 w⟩
              rw [es]
              rw [es] at h313
              refine Mo_at_sp (xviI ?_)
              rw [n48, e2]
              exact h313
    exact hlo 0 (Nat.zero_le _) S0 u6 u7 k0 z0 hU0 hp0'
  have h147 : (alL fs vs G).length ≤ 10 → ∀ S1, zX m Jm S S1 → zT m u S S1 → mT S1 m u [] → ∀ (x4 : Int32) (u6 u7 : Option Value), xWp (xT0, xSp xT0 (d + 4), none, m_Mo_makeTree, post) 147 [some (.ref m), some (.int (nI p)), some (.int (nI t)), some (.int (nI u)), some (.int x4), some (.int 0), u6, u7] [] (yH Λ f0 S1) 0 0 := by
    intro h10 S0 k0 z0 hU0 x4 u6 u7
    have hlo : ∀ k, k ≤ fs.length → (∀ S1 (u6 u7 : Option Value), zX m Jm S S1 → zT m u S S1 → mT S1 m u (foldI (kpL fs vs G k)) → (∀ i, i < (foldI (kpL fs vs G k)).length → okP ((foldI (kpL fs vs G k)).getD i fl0).1) → xWp (xT0, xSp xT0 (d + 4), none, m_Mo_makeTree, post) 147 [some (.ref m), some (.int (nI p)), some (.int (nI t)), some (.int (nI u)), some (.int x4), some (.int (nI k)), u6, u7] [] (yH Λ f0 S1) 0 0) := by
      refine loopUp ?_ ?_
      · intro S1 u6 u7 k1 z1 hU hpk
        obtain ⟨hP1, hT1, hG1⟩ := hst k1 z1
        refine b_Mo_makeTree_147 (ygr ho rfl (yal (mk9 hL) (vp_in_nI ht (by omega)) ?_))
        rw [nI_clamp (by omega), hT1.2.1]
        exact brle (by omega) (by omega) (fun _ => h236 h10 S1 k1 z1 hU hpk _ _ _) (fun w => by omega)
      · intro k hk ih S1 u6 u7 k1 z1 hU hpk
        obtain ⟨hP1, hT1, hG1⟩ := hst k1 z1
        have hokk := hok k hk
        have hF := hT1.2.2 k hk
        obtain ⟨⟨a1, a2, a3⟩, b1, b2, b3⟩ := hF
        rw [kpL_s] at ih
        have hmono := kpL_m fs vs G (k + 1) fs.length (by omega)
        rw [kpL_s] at hmono
        generalize hq : fs.getD k fl0 = q at *
        refine b_Mo_makeTree_147 (ygr ho rfl (yal (mk9 hL) (vp_in_nI ht (by omega)) ?_))
        rw [nI_clamp (by omega), hT1.2.1, nI_1 k]
        refine brle (by omega) (by omega) (fun w => by omega) (fun _ => Mo_at_sp (xviI (ygr ho rfl (ygr ho rfl (yal (mk6 hL) (vp_in_nI (by omega) (by omega)) ?_)))))
        rw [nI_clamp (by omega), a1, n18, n48]
        refine ⟨yex ho, Mo_isSource_sp hL hp8 hP1 hG1 (mk5 hL) a3 (by omega) (by omega) (xviI (brBn (fun e1 => ?_) (fun e1 => ygr ho rfl (ygr ho rfl (yal (mk6 hL) (vp_in_nI (by omega) (by omega)) (ygr ho rfl (ygr ho rfl (yal (mk8 hL) (vp_in_nI (by omega) (by omega)) ?_))))))))⟩
        · rw [if_pos e1] at ih
          exact ih S1 _ _ k1 z1 hU hpk
        · rw [if_neg (by rw [e1]; decide), foldI_a] at ih
          rw [if_neg (by rw [e1]; decide), List.length_append] at hmono
          have hlen : (foldI (kpL fs vs G k)).length < 10 := by
            rw [foldI_l]
            have hmono : (kpL fs vs G k).length + 1 ≤ (kpL fs vs G fs.length).length := hmono
            omega
          rw [nI_clamp (by omega), a1, b1]
          refine ⟨yex ho, Mo_addFile_sp hL hu hU hlen hpk hokk (mk5 hL) a3 (by omega) (by omega) a2 (fun _ i hi z => ?_) (mk7 hL) b3 (by omega) (by omega) b2 (fun _ i hi z => ?_) (fun S3 k3 z3a z3b hU3 => xvvI ?_)⟩
          · have z1 : 10 * u ≤ (18 * (10 * t + k) + i) / 18 := z.1
            have z2 : (18 * (10 * t + k) + i) / 18 < 10 * u + 10 := z.2
            rw [div18 (by omega)] at z1 z2
            omega
          · have z1 : 10 * u ≤ (48 * (10 * t + k) + i) / 48 := z.1
            have z2 : (48 * (10 * t + k) + i) / 48 < 10 * u + 10 := z.2
            rw [div48 (by omega)] at z1 z2
            omega
          · have k3' : zX m Jm S1 S3 := zX_mo k3 (fun j e => by rcases e with e | e; (have := grp1 e; exact Or.inl (by omega)); exact Or.inl (by omega))
            exact ih S3 _ _ (zX_tr k1 k3') (zT_tr z1 ⟨z3a, z3b⟩) hU3 (insF_p hpk hokk)
    exact hlo 0 (Nat.zero_le _) S0 u6 u7 k0 z0 hU0 (fun i hi => absurd hi (Nat.not_lt_zero _))
  refine xSp_of (M := m_Mo_makeTree) rfl (b_Mo_makeTree_0 (ygi ho rfl (ygr ho rfl ?_)))
  rw [i10]
  refine yas (mk9 hL) (yW_n hW (mk9 hL)) (vp_in_nI (by omega) (by omega)) ?_
  rw [nI_clamp (by omega)]
  have k0 : zX m Jm S (ywA S 11 9 m (upd (yA S 11 9 m) u 0)) := zX_wA (Or.inl (by omega))
  have z0 : zT m u S (ywA S 11 9 m (upd (yA S 11 9 m) u 0)) := zT_9
  have hU0 : mT (ywA S 11 9 m (upd (yA S 11 9 m) u 0)) m u [] := ⟨by simp, by rw [yA_s, pk_us]; rfl, fun i hi => absurd hi (by simp)⟩
  generalize ywA S 11 9 m (upd (yA S 11 9 m) u 0) = S1 at *
  obtain ⟨hP1, hT1, hG1⟩ := hst k0 z0
  have hl81 : ∀ k, k ≤ vs.length → (∀ (u6 u7 : Option Value), xWp (xT0, xSp xT0 (d + 4), none, m_Mo_makeTree, post) 81 [some (.ref m), some (.int (nI p)), some (.int (nI t)), some (.int (nI u)), some (.int (nI (adL fs vs G (kpL fs vs G fs.length) k).length)), some (.int (nI k)), u6, u7] [] (yH Λ f0 S1) 0 0) := by
    refine loopUp ?_ ?_
    · intro u6 u7
      refine b_Mo_makeTree_81 (ygr ho rfl (yal (mk22 hL) (vp_in_nI hp8 (by omega)) ?_))
      rw [nI_clamp (by omega), hP1.2.1]
      refine brle (by omega) (by omega) (fun _ => ?_) (fun w => by omega)
      show xbr (nI (alL fs vs G).length ≤ nI 10) _ _
      exact brle (by omega) (by omega) (fun h10 => h147 h10 S1 k0 z0 hU0 _ _ _) (fun h10 => hp0 S1 k0 z0 (fun w => by omega))
    · intro k hk ih u6 u7
      obtain ⟨s1, -⟩ := hP1.2.2 k hk
      refine b_Mo_makeTree_81 (ygr ho rfl (yal (mk22 hL) (vp_in_nI hp8 (by omega)) ?_))
      rw [nI_clamp (by omega), hP1.2.1, nI_1 k, n24]
      refine brle (by omega) (by omega) (fun w => by omega) (fun _ => ygr ho rfl (yal (mk31 hL) (vp_in_nI (by omega) (by omega)) ?_))
      rw [nI_clamp (by omega), hG1 k hk]
      rw [adL_s] at ih
      refine brB (fun e1 => ?_) (fun e1 => ygr ho rfl (yal (mk11 hL) (vp_in_nI (by omega) (by omega)) ?_))
      · rw [if_neg (fun w => by rw [e1] at w; cases w.1)] at ih
        exact ih _ _
      · rw [nI_clamp (by omega), s1]
        refine ⟨fun c1 => ?_, fun c1 => ?_⟩
        · rw [if_neg (fun w => w.2 c1)] at ih
          exact ih _ _
        · rw [if_pos ⟨e1, c1⟩, List.length_append] at ih
          rw [nI_1]
          exact ih _ _
  have hl18 : ∀ k, k ≤ fs.length → (∀ (u6 u7 : Option Value), xWp (xT0, xSp xT0 (d + 4), none, m_Mo_makeTree, post) 18 [some (.ref m), some (.int (nI p)), some (.int (nI t)), some (.int (nI u)), some (.int (nI (kpL fs vs G k).length)), some (.int (nI k)), u6, u7] [] (yH Λ f0 S1) 0 0) := by
    refine loopUp ?_ ?_
    · intro u6 u7
      refine b_Mo_makeTree_18 (ygr ho rfl (yal (mk9 hL) (vp_in_nI ht (by omega)) ?_))
      rw [nI_clamp (by omega), hT1.2.1]
      exact brle (by omega) (by omega) (fun _ => hl81 0 (Nat.zero_le _) _ _) (fun w => by omega)
    · intro k hk ih u6 u7
      obtain ⟨⟨a1, a2, a3⟩, -⟩ := hT1.2.2 k hk
      refine b_Mo_makeTree_18 (ygr ho rfl (yal (mk9 hL) (vp_in_nI ht (by omega)) ?_))
      rw [nI_clamp (by omega), hT1.2.1, nI_1 k]
      refine brle (by omega) (by omega) (fun w => by omega) (fun _ => Mo_at_sp (xviI (ygr ho rfl (ygr ho rfl (yal (mk6 hL) (vp_in_nI (by omega) (by omega)) ?_)))))
      rw [nI_clamp (by omega), a1, n18]
      rw [kpL_s] at ih
      refine ⟨yex ho, Mo_isSource_sp hL hp8 hP1 hG1 (mk5 hL) a3 (by omega) (by omega) (xviI (brB (fun e1 => ?_) (fun e1 => ?_)))⟩
      · rw [if_neg (by rw [e1]; decide), List.length_append] at ih
        rw [nI_1]
        exact ih _ _
      · rw [if_pos e1] at ih
        exact ih _ _
  exact hl18 0 (Nat.zero_le _) none none
end
