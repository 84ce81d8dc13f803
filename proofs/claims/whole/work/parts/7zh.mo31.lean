/-! 7zh the other object: chain, the run -/
section
variable {Λ : yL} {f0 : xH} {S S' S1 S2 : yS} {m d s t u f g : Nat} {J F : Nat → Prop} {v w : Sv} {vs ws l : List Sv} {ps : List (List Sv)} {zs ys : List Int32} {bs cs : List Nat} {B : Ab} {x y a b c e z : Int32} {post : Option Value → xH → Prop}
theorem cruB_g {vs ws : List Sv} {w : Sv} (h : cruB vs ws w = 0) (h0 : ¬ w.1 = 0) (ht : fTg vs w.2.2.1 < vs.length) : goV (vs.getD (fTg vs w.2.2.1) sv0) w := by
  unfold cruB at h
  split at h
  · cases h
  · split at h
    · cases h
    · rename_i h2
      exact Classical.byContradiction (fun z => h2 ⟨h0, ht, z⟩)
theorem M_chain (q : mQ Λ S m B) (hov : ∀ p, p < (aP B).length → ∀ i, i < ((aP B).getD p []).length → okV (((aP B).getD p []).getD i sv0)) (hch : ∀ p r, p < (aP B).length → r < (aP B).length → cruA ((aP B).getD p []) ((aP B).getD r []) = 0 → jn2 ((aP B).getD p []) ((aP B).getD r []) ((aP B).getD r []).length = if (cnM ((aP B).getD p []) ((aP B).getD r [])).length ≤ 24 then some (stV (cnM ((aP B).getD p []) ((aP B).getD r []))) else none) (hp : ∀ S', yFr (A11 m) S S' → mQ Λ S' m (a_chain B a b).1 → post (some (.int (a_chain B a b).2)) (yH Λ f0 S')) : xSp xT0 (d + 8) j_Mo_chain [.ref m, .int a, .int b] (yH Λ f0 S) post := by
  have hL := q.1
  have hW := hL.1
  have ho := hL.2.1
  have hpl := q.2.2.2.2.1.1
  have q' := mQ_0 (x := 0) q
  have e23 := q'.2.2.2.2.1.2.1
  have c8 : (8 : Int32).toNatClampNeg = 8 := nI_clamp (n := 8) (by omega)
  unfold a_chain at hp
  refine xSp_of (M := m_Mo_chain) rfl (b_Mo_chain_0 (ypf ho rfl ⟨yex ho, Mo_noPatch_sp q' (fun p hpk e1 e2 => xviI ⟨fun z => absurd rfl z, fun _ => ⟨yex ho, Mo_noPatch_sp q' (fun r hrk e3 e4 => xviI ⟨fun _ => ygi ho rfl ?_, fun z => absurd rfl z⟩) (fun e3 => xviI ⟨fun z => absurd z (by decide), fun _ => ?_⟩)⟩⟩) (fun e1 => xviI ⟨fun _ => ?_, fun z => absurd (by decide) z⟩)⟩))
  · subst e1
    subst e3
    rw [e2] at hp
    dsimp only at hp
    rw [e4] at hp
    dsimp only at hp
    rw [e23]
    refine brne (b := 8) (by omega) (by omega) (fun cc8 => ?_) (fun cc8 => ?_)
    · rw [if_pos (by omega)] at hp
      have hP0 := q'.2.2.2.2.1.2.2 p hpk
      have hQ0 := q'.2.2.2.2.1.2.2 r hrk
      have hovp := hov p hpk
      have hovr := hov r hrk
      have hch' := hch p r hpk hrk
      have hP00 := q.2.2.2.2.1.2.2 p hpk
      have hQ00 := q.2.2.2.2.1.2.2 r hrk
      generalize hvs : (aP B).getD p [] = vs at *
      generalize hws : (aP B).getD r [] = ws at *
      generalize hn : (aP B).length = n at *
      have hvl := hP0.1
      have hwl := hQ0.1
      -- the end: the steps are moved
      have h394 : (cnM vs ws).length ≤ 24 → cruA vs ws = 0 → ∀ S3, zX m Jp S S3 → yI S3 11 23 m = nI n → (∀ i, i < n → mP S3 m i ((aP B).getD i [])) → mP S3 m 8 (stV (cnM vs ws)) → yA S3 11 22 m n = nI (stV (cnM vs ws)).length → ∀ k, k ≤ (stV (cnM vs ws)).length → (∀ S1 (x3 : Int32) (u5 u6 u7 : Option Value), zX m Jp S S1 → zP m n S3 S1 → yI S1 11 23 m = nI n → yA S1 11 22 m n = nI (stV (cnM vs ws)).length → (∀ i, i < k → mS S1 m (24 * n + i) ((stV (cnM vs ws)).getD i sv0)) → xWp (xT0, xSp xT0 (d + 7), none, m_Mo_chain, post) 394 [some (.ref m), some (.int (nI p)), some (.int (nI r)), some (.int x3), some (.int (nI k)), u5, u6, u7] [] (yH Λ f0 S1) 0 0) := by
        intro h24 hcr S3 k3 i3 hPs hU h22
        have hul := hU.1
        refine loopUp ?_ ?_
        · intro S1 x3 u5 u6 u7 k1 z1 i23 h22' hm
          have hU1 := mP_o z1 (show 8 ≠ n by omega) (by omega) hU
          refine b_Mo_chain_394 (ygr ho rfl (yal (mk22 hL) (vp_in_nI (n := 8) (by omega) (by omega)) ?_))
          rw [c8, hU1.2.1]
          refine brle (by omega) (by omega) (fun _ => ygi ho rfl (ypf ho rfl (ygi ho rfl ?_))) (fun w => by omega)
          rw [i23, ywI_s, nI_1, nI_pred]
          have ej := hch' hcr
          rw [if_pos h24] at ej
          rw [if_pos hcr, ej] at hp
          dsimp only at hp
          have k2 : zX m (fun j => j = 23) S1 (ywI S1 11 23 m (nI (n + 1))) := zX_wI rfl
          have k12 : zX m Jp S (ywI S1 11 23 m (nI (n + 1))) := zX_tr k1 (zX_mo k2 (fun j z => by show Jp j; unfold Jp; omega))
          refine hp _ (zX_Fr k12) (mQ_P k12 q ⟨?_, ?_, fun i hi => ?_⟩)
          · rw [List.length_append, hn]; simp only [List.length_cons, List.length_nil]; omega
          · rw [List.length_append, hn]; exact ywI_s _ _ _ _ _
          · rw [apG hi]
            rw [List.length_append, hn] at hi
            have hi : i < n + 1 := hi
            rw [hn]
            by_cases c : i < n
            · rw [if_pos c]
              exact mP_x k2 (fun j _ _ => by omega) (mP_o z1 (by omega) (by omega) (hPs i c))
            · rw [if_neg c, show i = n by omega]
              exact mP_x k2 (fun j _ _ => by omega) ⟨hul, h22', hm⟩
        · intro k hk ih S1 x3 u5 u6 u7 k1 z1 i23 h22' hm
          have hU1 := mP_o z1 (show 8 ≠ n by omega) (by omega) hU
          have e192 : (192 : Int32) + nI k = nI (24 * 8 + k) := nI_add 192 k
          refine b_Mo_chain_394 (ygr ho rfl (yal (mk22 hL) (vp_in_nI (n := 8) (by omega) (by omega)) ?_))
          rw [c8, hU1.2.1, nI_1 k, e192]
          refine brle (by omega) (by omega) (fun w => by omega) (fun _ => ygi ho rfl ?_)
          rw [i23, n24]
          refine ⟨yex ho, Mo_moveStep_sp hL (by omega) (by omega) (by omega) (hU1.2.2 k hk) (fun S2 k2 hq2 => xvvI ?_)⟩
          refine ih S2 _ _ _ _ (zX_tr k1 (zX_217 k2)) (zP_tr z1 (zP_S k2 (fun i e => Or.inl (by rw [show i = 24 * n + k from e]; exact ⟨by omega, by omega⟩)))) (by rw [(k2.1 11 23 m).1]; exact i23) (by rw [k2.2.1 11 22 m (fun z => absurd z.2.2 (by decide))]; exact h22') (fun i hi => ?_)
          by_cases c : i = k
          · rw [c]; exact hq2
          · exact mS_z k2 (fun _ e => by omega) (hm i (by omega))
      -- what was not taken
      have h310 : cruA vs ws = 0 → ∀ k, k ≤ vs.length → (∀ S1 (u5 u6 u7 : Option Value), chQ Λ m n p r vs ws (ws.filterMap (cnO vs) ++ cnU vs ws k) (cnT vs ws) S S1 → xWp (xT0, xSp xT0 (d + 7), none, m_Mo_chain, post) 310 [some (.ref m), some (.int (nI p)), some (.int (nI r)), some (.int (bI (decide ((ws.filterMap (cnO vs) ++ cnU vs ws k).length ≤ 24)))), some (.int (nI k)), u5, u6, u7] [] (yH Λ f0 S1) 0 0) := by
        intro hcr
        refine loopUp ?_ ?_
        · intro S1 u5 u6 u7 hC
          obtain ⟨k1, z1, i23, h36, hU⟩ := hC
          have hP1 := mP_o z1 (show p ≠ 8 by omega) (by omega) hP00
          refine b_Mo_chain_310 (ygr ho rfl (yal (mk22 hL) (vp_in_nI (by omega) (by omega)) ?_))
          rw [nI_clamp (by omega), hP1.2.1]
          refine brle (by omega) (by omega) (fun _ => brBn (fun e5 => ygr ho rfl (ygi ho rfl (ygr ho rfl (yal (mk22 hL) (vp_in_nI (n := 8) (by omega) (by omega)) ?_)))) (fun e5 => ?_)) (fun w => by omega)
          · have h24 : (cnM vs ws).length ≤ 24 := of_decide_eq_true e5
            have hU8 : mP S1 m 8 (stV (cnM vs ws)) := hU h24
            rw [i23, c8, hU8.2.1]
            refine yas (mk22 hL) (yW_n hW (mk22 hL)) (vp_in_nI (by omega) (by omega)) ?_
            rw [nI_clamp (by omega)]
            have z2 : zP m n S1 (ywA S1 11 22 m (upd (yA S1 11 22 m) n (nI (stV (cnM vs ws)).length))) := zP_22
            have k2 : zX m Jp S (ywA S1 11 22 m (upd (yA S1 11 22 m) n (nI (stV (cnM vs ws)).length))) := zX_tr k1 (zX_wA (by unfold Jp; omega))
            have h22 : yA (ywA S1 11 22 m (upd (yA S1 11 22 m) n (nI (stV (cnM vs ws)).length))) 11 22 m n = nI (stV (cnM vs ws)).length := by rw [yA_s, pk_us]
            have i2 : yI (ywA S1 11 22 m (upd (yA S1 11 22 m) n (nI (stV (cnM vs ws)).length))) 11 23 m = nI n := i23
            generalize ywA S1 11 22 m (upd (yA S1 11 22 m) n (nI (stV (cnM vs ws)).length)) = S2 at *
            exact h394 h24 hcr S2 k2 i2 (fun i hi => mP_o z2 (by omega) (by omega) (mP_o z1 (by omega) (by omega) (q.2.2.2.2.1.2.2 i (by omega)))) (mP_o z2 (show 8 ≠ n by omega) (by omega) hU8) h22 0 (Nat.zero_le _) S2 _ _ _ _ k2 zP_rf i2 h22 (fun i hi => absurd hi (Nat.not_lt_zero _))
          · have h24 : ¬ (cnM vs ws).length ≤ 24 := of_decide_eq_false e5
            have ej := hch' hcr
            rw [if_neg h24] at ej
            rw [if_pos hcr, ej] at hp
            dsimp only at hp
            refine hp S1 (zX_Fr k1) (mQ_P (ps := aP B) k1 q ⟨by omega, by rw [hn]; exact i23, fun i hi => ?_⟩)
            exact mP_o z1 (by omega) (by omega) (q.2.2.2.2.1.2.2 i hi)
        · intro k hk ih S1 u5 u6 u7 hC
          obtain ⟨k1, z1, i23, h36, hU⟩ := id hC
          have hP1 := mP_o z1 (show p ≠ 8 by omega) (by omega) hP00
          refine b_Mo_chain_310 (ygr ho rfl (yal (mk22 hL) (vp_in_nI (by omega) (by omega)) ?_))
          rw [nI_clamp (by omega), hP1.2.1, nI_1 k, n24]
          refine brle (by omega) (by omega) (fun w => by omega) (fun _ => ygr ho rfl (yal (mk36 hL) (vp_in_nI (by omega) (by omega)) ?_))
          rw [nI_clamp (by omega), h36 k hk]
          rw [cnU_s] at ih
          refine brBn (fun e5 => ?_) (fun e5 => ⟨yex ho, Mo_moveStep_sp (t := 217) hL (by omega) (by omega) (by omega) (hP1.2.2 k hk) (fun S2 k2 hq2 => xvvI ?_)⟩)
          · rw [if_pos e5] at ih
            exact ih S1 _ _ _ hC
          · rw [if_neg (by rw [e5]; decide), ← List.append_assoc] at ih
            have hC2 := chQ_217 hC k2
            have hok : ∀ w, w ∈ ws.filterMap (cnO vs) ++ cnU vs ws k → okP w.2.1 := fun w hw => by
              rcases List.mem_append.mp hw with hw | hw
              · exact cn1_p hovp hovr ws.length w (by rw [List.take_length]; exact hw)
              · exact cnU_p hovp k (by omega) w hw
            refine brB (fun e6 => ?_) (fun e6 => ⟨yex ho, chQ_to hC2 hL hq2 hok (hovp k hk).2.1.1 (of_decide_eq_true e6) (fun S4 hC4 => xviI (brB (fun e7 => ?_) (fun e7 => ?_)))⟩)
            · have := ih S2 u5 u6 u7 (chQ_no hC2 (of_decide_eq_false e6))
              rw [decide_eq_false (fun w => by rw [List.length_append] at w; have := of_decide_eq_false e6; omega)] at this
              exact this
            · have := ih S4 u5 u6 u7 hC4
              rw [e7] at this
              exact this
            · have := ih S4 u5 u6 u7 hC4
              rw [e7] at this
              exact this
      -- the second patch
      have h112 : cruA vs ws = 0 → (∀ i, i < ws.length → cruB vs ws (ws.getD i sv0) = 0) → ∀ k, k ≤ ws.length → (∀ S1 (u5 u6 u7 : Option Value), chQ Λ m n p r vs ws ((ws.take k).filterMap (cnO vs)) (cnT vs (ws.take k)) S S1 → xWp (xT0, xSp xT0 (d + 7), none, m_Mo_chain, post) 112 [some (.ref m), some (.int (nI p)), some (.int (nI r)), some (.int (bI (decide (((ws.take k).filterMap (cnO vs)).length ≤ 24)))), some (.int (nI k)), u5, u6, u7] [] (yH Λ f0 S1) 0 0) := by
        intro hcr hru
        refine loopUp ?_ ?_
        · intro S1 u5 u6 u7 hC
          obtain ⟨k1, z1, i23, h36, hU⟩ := id hC
          have hQ1 := mP_o z1 (show r ≠ 8 by omega) (by omega) hQ00
          refine b_Mo_chain_112 (ygr ho rfl (yal (mk22 hL) (vp_in_nI (by omega) (by omega)) ?_))
          rw [nI_clamp (by omega), hQ1.2.1]
          refine brle (by omega) (by omega) (fun _ => ?_) (fun w => by omega)
          rw [List.take_length] at hC ⊢
          have := h310 hcr 0 (Nat.zero_le _) S1 u5 u6 u7
          rw [show cnU vs ws 0 = [] from rfl, List.append_nil] at this
          exact this hC
        · intro k hk ih S1 u5 u6 u7 hC
          obtain ⟨k1, z1, i23, h36, hU⟩ := id hC
          have hP1 := mP_o z1 (show p ≠ 8 by omega) (by omega) hP00
          have hQ1 := mP_o z1 (show r ≠ 8 by omega) (by omega) hQ00
          have hsw := hQ1.2.2 k hk
          have hww := hovr k hk
          have hrk' := hru k hk
          have hTs : ∀ i, cnT vs (ws.take (k + 1)) i = (cnT vs (ws.take k) i || decide (cnK vs (ws.getD k sv0) = i)) := fun i => cnT_s hk
          rw [cnF_s hk] at ih
          generalize hwk : ws.getD k sv0 = w at *
          obtain ⟨w1, ⟨w2, w3, w4⟩, ⟨w5, w6, w7⟩, -⟩ := id hsw
          generalize hl : (ws.take k).filterMap (cnO vs) = l at *
          have hok : ∀ w, w ∈ l → okP w.2.1 := fun w hw => cn1_p hovp hovr k w (by rw [hl]; exact hw)
          -- after the spare is laid
          have hto : ∀ S2 v (u6 u7 : Option Value), chQ Λ m n p r vs ws l (cnT vs (ws.take (k + 1))) S S2 → cnO vs w = some v → mS S2 m 217 v → ∀ (x6 x7 : Int32), xWp (xT0, xSp xT0 (d + 7), none, m_Mo_chain, post) 284 [some (.ref m), some (.int (nI p)), some (.int (nI r)), some (.int (bI (decide (l.length ≤ 24)))), some (.int (nI k)), some (.int (nI (24 * r + k))), some (.int x6), some (.int x7)] [] (yH Λ f0 S2) 0 0 := by
            intro S2 v u6 u7 hC2 ev hv x6 x7
            rw [ev] at ih
            refine b_Mo_chain_284 ?_
            unfold B_Mo_chain_284
            rw [nI_1 k]
            refine brB (fun e6 => ?_) (fun e6 => ⟨yex ho, chQ_to hC2 hL hv hok (cnO_p hovp hww ev) (of_decide_eq_true e6) (fun S4 hC4 => xviI (brB (fun e7 => ?_) (fun e7 => ?_)))⟩)
            · have := ih S2 (some (.int (nI (24 * r + k)))) (some (.int x6)) (some (.int x7)) (chQ_no hC2 (of_decide_eq_false e6))
              rw [decide_eq_false (fun w => by rw [List.length_append] at w; have := of_decide_eq_false e6; omega)] at this
              exact this
            · have := ih S4 (some (.int (nI (24 * r + k)))) (some (.int x6)) (some (.int x7)) hC4
              have e7' : decide ((l ++ (some v).toList).length ≤ 24) = false := e7
              rw [e7'] at this
              exact this
            · have := ih S4 (some (.int (nI (24 * r + k)))) (some (.int x6)) (some (.int x7)) hC4
              have e7' : decide ((l ++ (some v).toList).length ≤ 24) = true := e7
              rw [e7'] at this
              exact this
          have h242 : ∀ (x6 y : Int32) (u7 : Option Value), ¬ (¬ w.1 = 0 ∧ fTg vs w.2.2.1 < vs.length) → (y = if w.1 = 0 then drO vs p w.2.1 else -2) → xWp (xT0, xSp xT0 (d + 7), none, m_Mo_chain, post) 242 [some (.ref m), some (.int (nI p)), some (.int (nI r)), some (.int (bI (decide (l.length ≤ 24)))), some (.int (nI k)), some (.int (nI (24 * r + k))), some (.int x6), u7] [.int y] (yH Λ f0 S1) 0 0 := by
            intro x6 y u7 hn1 ey
            refine b_Mo_chain_242 ?_
            unfold B_Mo_chain_242
            by_cases c : w.1 = 0 ∧ fDr vs w.2.1 < vs.length
            · have ey2 : y = nI (24 * p + fDr vs w.2.1) := by rw [ey, if_pos c.1]; unfold drO; rw [if_pos c.2]
              have eK : cnK vs w = fDr vs w.2.1 := by unfold cnK; rw [if_neg hn1, if_pos c]
              have eO : cnO vs w = some (chgV (vs.getD (fDr vs w.2.1) sv0) w) := by unfold cnO; rw [if_neg hn1, if_pos c]
              rw [ey2, nI_sub24]
              refine ⟨fun z => absurd z (nI_n2 (by omega)), fun _ => ygr ho rfl (yas (mk36 hL) (yW_n hW (mk36 hL)) (vp_in_nI (by omega) (by omega)) ?_)⟩
              rw [nI_clamp (by omega)]
              have hC2 : chQ Λ m n p r vs ws l (cnT vs (ws.take (k + 1))) S (ywA S1 11 36 m (upd (yA S1 11 36 m) (fDr vs w.2.1) (bI true))) := chQ_36 hC (fun i => by
                rw [hTs i, eK]
                by_cases c : i = fDr vs w.2.1
                · rw [if_pos c, decide_eq_true c.symm, Bool.or_true]
                · rw [if_neg c, decide_eq_false (fun z => c z.symm), Bool.or_false])
              have kx : zX m (fun j => j = 36) S1 (ywA S1 11 36 m (upd (yA S1 11 36 m) (fDr vs w.2.1) (bI true))) := zX_wA rfl
              show (∃ fs, _) ∧ xSp xT0 (d + 7) j_Mo_changeBy [.ref m, .int (nI (24 * p + fDr vs w.2.1)), .int (nI (24 * r + k))] (yH Λ f0 (ywA S1 11 36 m (upd (yA S1 11 36 m) (fDr vs w.2.1) (bI true)))) _
              have hv2 := mS_x kx (fun j _ _ => by omega) (hP1.2.2 _ c.2)
              have hw2 := mS_x kx (fun j _ _ => by omega) hsw
              generalize ywA S1 11 36 m (upd (yA S1 11 36 m) (fDr vs w.2.1) (bI true)) = S2 at *
              exact ⟨yex ho, Mo_changeBy_sp hL (by omega) (by omega) hv2 hw2 (hovp _ c.2) (fDr_t c.2).1 (fun S3 k3 hq3 => xvvI (hto S3 _ none none (chQ_217 hC2 k3) eO hq3 _ _))⟩
            · have ey2 : y = -2 := by
                rw [ey]
                by_cases c0 : w.1 = 0
                · rw [if_pos c0]; unfold drO; rw [if_neg (fun z => c ⟨c0, z⟩)]
                · rw [if_neg c0]
              have eK : cnK vs w = vs.length := by unfold cnK; rw [if_neg hn1, if_neg c]
              have eO : cnO vs w = some w := by unfold cnO; rw [if_neg hn1, if_neg c]
              rw [ey2]
              have hC2 : chQ Λ m n p r vs ws l (cnT vs (ws.take (k + 1))) S S1 := ⟨k1, z1, i23, fun i hi => by rw [hTs i, eK, decide_eq_false (by omega), Bool.or_false]; exact h36 i hi, hU⟩
              exact ⟨fun _ => ⟨yex ho, Mo_moveStep_sp (t := 217) hL (by omega) (by omega) (by omega) hsw (fun S2 k2 hq2 => xvvI (hto S2 _ none none (chQ_217 hC2 k2) eO hq2 _ _))⟩, fun z => absurd rfl z⟩
          have h167 : ∀ (y : Int32) (u6 u7 : Option Value), (y = if ¬ w.1 = 0 then tgO vs p w.2.2.1 else -2) → xWp (xT0, xSp xT0 (d + 7), none, m_Mo_chain, post) 167 [some (.ref m), some (.int (nI p)), some (.int (nI r)), some (.int (bI (decide (l.length ≤ 24)))), some (.int (nI k)), some (.int (nI (24 * r + k))), u6, u7] [.int y] (yH Λ f0 S1) 0 0 := by
            intro y u6 u7 ey
            refine b_Mo_chain_167 ?_
            unfold B_Mo_chain_167
            rw [nI_1 k]
            by_cases c : ¬ w.1 = 0 ∧ fTg vs w.2.2.1 < vs.length
            · have ey2 : y = nI (24 * p + fTg vs w.2.2.1) := by rw [ey, if_pos c.1]; unfold tgO; rw [if_pos c.2]
              have eK : cnK vs w = fTg vs w.2.2.1 := by unfold cnK; rw [if_pos c]
              have eO : cnO vs w = if joLd (vs.getD (fTg vs w.2.2.1) sv0) w then some (joV (vs.getD (fTg vs w.2.2.1) sv0) w) else none := by unfold cnO; rw [if_pos c]
              rw [ey2, nI_sub24]
              refine ⟨fun z => absurd z (nI_n2 (by omega)), fun _ => ygr ho rfl (yas (mk36 hL) (yW_n hW (mk36 hL)) (vp_in_nI (by omega) (by omega)) ?_)⟩
              rw [nI_clamp (by omega)]
              have hC2 : chQ Λ m n p r vs ws l (cnT vs (ws.take (k + 1))) S (ywA S1 11 36 m (upd (yA S1 11 36 m) (fTg vs w.2.2.1) (bI true))) := chQ_36 hC (fun i => by
                rw [hTs i, eK]
                by_cases c : i = fTg vs w.2.2.1
                · rw [if_pos c, decide_eq_true c.symm, Bool.or_true]
                · rw [if_neg c, decide_eq_false (fun z => c z.symm), Bool.or_false])
              have kx : zX m (fun j => j = 36) S1 (ywA S1 11 36 m (upd (yA S1 11 36 m) (fTg vs w.2.2.1) (bI true))) := zX_wA rfl
              have hv2 := mS_x kx (fun j _ _ => by omega) (hP1.2.2 _ c.2)
              have hw2 := mS_x kx (fun j _ _ => by omega) hsw
              have hov1 := hovp _ c.2
              have hlen := okV_jo hov1 hww (fTg_t c.2).1 c.1 (cruB_g hrk' c.1 c.2)
              show xbr _ _ _
              have eS : ywA S1 11 36 m (upd (yA S1 11 36 m) (fTg vs w.2.2.1) 1) = ywA S1 11 36 m (upd (yA S1 11 36 m) (fTg vs w.2.2.1) (bI true)) := rfl
              rw [eS]
              generalize ywA S1 11 36 m (upd (yA S1 11 36 m) (fTg vs w.2.2.1) (bI true)) = S2 at *
              refine brB (fun e6 => ?_) (fun e6 => ⟨yex ho, Mo_joinSteps_sp hL (by omega) (by omega) hv2 hw2 hov1 hww hlen (fun hj S3 k3 hq3 => xviI ⟨fun z => absurd z (by decide), fun _ => ⟨yex ho, ?_⟩⟩) (fun hj S3 k3 => xviI ⟨fun _ => ?_, fun z => absurd rfl z⟩)⟩)
              · have hnl := of_decide_eq_false e6
                have hC3 : chQ Λ m n p r vs ws (l ++ (cnO vs w).toList) (cnT vs (ws.take (k + 1))) S S2 := by
                  cases cnO vs w with
                  | none => rw [show (none : Option Sv).toList = [] from rfl, List.append_nil]; exact hC2
                  | some x => exact chQ_no hC2 hnl
                have := ih S2 (some (.int (nI (24 * r + k)))) (some (.int (nI (24 * p + fTg vs w.2.2.1)))) u7 hC3
                rw [decide_eq_false (fun w => by rw [List.length_append] at w; omega)] at this
                exact this
              · rw [if_pos hj] at eO
                rw [eO] at ih
                refine chQ_to (chQ_217 hC2 k3) hL hq3 hok (cnO_p hovp hww eO) (of_decide_eq_true e6) (fun S4 hC4 => xviI (brB (fun e7 => ?_) (fun e7 => b_Mo_chain_211 ?_)))
                · have := ih S4 (some (.int (nI (24 * r + k)))) (some (.int (nI (24 * p + fTg vs w.2.2.1)))) u7 hC4
                  have e7' : decide ((l ++ (some (joV (vs.getD (fTg vs w.2.2.1) sv0) w)).toList).length ≤ 24) = false := e7
                  rw [e7'] at this
                  exact this
                · have := ih S4 (some (.int (nI (24 * r + k)))) (some (.int (nI (24 * p + fTg vs w.2.2.1)))) u7 hC4
                  have e7' : decide ((l ++ (some (joV (vs.getD (fTg vs w.2.2.1) sv0) w)).toList).length ≤ 24) = true := e7
                  rw [e7'] at this
                  unfold B_Mo_chain_211
                  rw [nI_1 k]
                  exact this
              · rw [if_neg hj] at eO
                rw [eO] at ih
                refine b_Mo_chain_211 ?_
                have := ih S3 (some (.int (nI (24 * r + k)))) (some (.int (nI (24 * p + fTg vs w.2.2.1)))) u7
                rw [show (none : Option Sv).toList = [] from rfl, List.append_nil, e6] at this
                unfold B_Mo_chain_211
                rw [nI_1 k]
                exact this (chQ_217 hC2 k3)
            · have ey2 : y = -2 := by
                rw [ey]
                by_cases c0 : w.1 = 0
                · rw [if_neg (fun z => z c0)]
                · rw [if_pos c0]; unfold tgO; rw [if_neg (fun z => c ⟨c0, z⟩)]
              rw [ey2]
              refine ⟨fun _ => ygr ho rfl (yal (mk11 hL) (vp_in_nI (by omega) (by omega)) ?_), fun z => absurd rfl z⟩
              rw [nI_clamp (by omega), w1]
              refine ⟨fun c0 => h242 _ _ _ c (by rw [if_neg c0]), fun c0 => ⟨yex ho, Mo_droppedAt_sp hL (by omega) hP1 (by omega) hsw (xviI (h242 _ _ _ c (by rw [if_pos (Classical.not_not.mp c0)])))⟩⟩
          refine b_Mo_chain_112 (ygr ho rfl (yal (mk22 hL) (vp_in_nI (by omega) (by omega)) ?_))
          rw [nI_clamp (by omega), hQ1.2.1, n24, n18]
          refine brle (by omega) (by omega) (fun z => by omega) (fun _ => ⟨yex ho, Mo_hasSource_sp hL (by omega) hsw (xviI (brB (fun e5 => h167 _ _ _ (by rw [if_neg (of_decide_eq_false e5)])) (fun e5 => ygr ho rfl (ygr ho rfl (yal (mk15 hL) (vp_in_nI (by omega) (by omega)) ?_)))))⟩)
          rw [nI_clamp (by omega), w5]
          exact ⟨yex ho, Mo_targetAt_sp hL (by omega) hP1 (mk14 hL) w7 (by omega) (by omega) (xviI (h167 _ _ _ (by rw [if_pos (of_decide_eq_true e5)])))⟩
      -- nothing is taken yet
      have h88 : cruA vs ws = 0 → (∀ i, i < ws.length → cruB vs ws (ws.getD i sv0) = 0) → ∀ k, k ≤ 24 → (∀ S1 (u4 u5 u6 u7 : Option Value), zX m Jp S S1 → zP m 8 S S1 → yI S1 11 23 m = nI n → mP S1 m 8 [] → (∀ i, i < k → yA S1 11 36 m i = 0) → xWp (xT0, xSp xT0 (d + 7), none, m_Mo_chain, post) 88 [some (.ref m), some (.int (nI p)), some (.int (nI r)), some (.int (nI k)), u4, u5, u6, u7] [] (yH Λ f0 S1) 0 0) := by
        intro hcr hru
        refine loopUp ?_ ?_
        · intro S1 u4 u5 u6 u7 k1 z1 i23 hU h36
          refine b_Mo_chain_88 (brle (a := 24) (by omega) (by omega) (fun _ => ?_) (fun w => by omega))
          have := h112 hcr hru 0 (Nat.zero_le _) S1 u5 u6 u7 ⟨k1, z1, i23, fun k hk => h36 k (by omega), fun _ => hU⟩
          exact this
        · intro k hk ih S1 u4 u5 u6 u7 k1 z1 i23 hU h36
          refine b_Mo_chain_88 (brle (a := 24) (by omega) (by omega) (fun w => by omega) (fun _ => ygr ho rfl (yas (mk36 hL) (yW_n hW (mk36 hL)) (vp_in_nI (by omega) (by omega)) ?_)))
          rw [nI_clamp (by omega), nI_1 k]
          have kx : zX m (fun j => j = 36) S1 (ywA S1 11 36 m (upd (yA S1 11 36 m) k 0)) := zX_wA rfl
          refine ih _ _ _ _ _ (zX_tr k1 (zX_mo kx (fun j z => by show Jp j; unfold Jp scr; omega))) (zP_tr z1 (zP_x kx (fun j _ _ => by omega))) i23 (mP_x kx (fun j _ _ => by omega) hU) (fun i hi => ?_)
          rw [yA_s]
          by_cases c : i = k
          · rw [c, pk_us]
          · rw [pk_un c]; exact h36 i (by omega)
      -- the rules
      have h37 : ∀ k, k ≤ ws.length → (∀ (u4 : Option Value), (∀ j, j < k → decide (¬ cruB vs ws (ws.getD j sv0) = 0) = false) → xWp (xT0, xSp xT0 (d + 7), none, m_Mo_chain, post) 37 [some (.ref m), some (.int (nI p)), some (.int (nI r)), some (.int (nI k)), u4, none, none, none] [] (yH Λ f0 (ywI S 11 0 m 0)) 0 0) := by
        have kz : zX m Jp S (ywI S 11 0 m 0) := zX_wI (by unfold Jp scr; omega)
        have zz : zP m 8 S (ywI S 11 0 m 0) := zP_x (J := fun j => j = 0) (zX_wI rfl) (fun j _ _ => by omega)
        refine loopUp ?_ ?_
        · intro u4 hg
          have ec : cruI vs ws = ws.length := fstI_eq (Nat.le_refl _) hg (Or.inl rfl)
          have hcr : cruA vs ws = 0 := by unfold cruA; rw [ec, if_neg (Nat.lt_irrefl _)]
          refine b_Mo_chain_37 (ygr ho rfl (yal (mk22 hL) (vp_in_nI (by omega) (by omega)) ?_))
          rw [nI_clamp (by omega), hQ0.2.1]
          refine brle (by omega) (by omega) (fun _ => ygr ho rfl (yas (mk22 hL) (yW_n hW (mk22 hL)) (vp_in_nI (n := 8) (by omega) (by omega)) ?_)) (fun w => by omega)
          rw [c8]
          refine h88 hcr (fun i hi => Classical.not_not.mp (of_decide_eq_false (hg i hi))) 0 (Nat.zero_le _) _ _ _ _ _ (zX_tr kz (zX_wA (by unfold Jp; omega))) (zP_tr zz zP_22) e23 ⟨by simp, by rw [yA_s, pk_us]; rfl, fun i hi => absurd hi (by simp)⟩ (fun i hi => absurd hi (Nat.not_lt_zero _))
        · intro k hk ih u4 hg
          have hcb := cruB_le vs ws (ws.getD k sv0)
          refine b_Mo_chain_37 (ygr ho rfl (yal (mk22 hL) (vp_in_nI (by omega) (by omega)) ?_))
          rw [nI_clamp (by omega), hQ0.2.1, nI_1 k, n24]
          refine brle (by omega) (by omega) (fun w => by omega) (fun _ => ⟨yex ho, Mo_chainRule_sp hL (by omega) (by omega) hP0 hQ0 (by omega) (hQ0.2.2 k hk) (xviI (brle (b := 0) (by omega) (by omega) (fun c => ih _ (fun j hj => ?_)) (fun c => ?_)))⟩)
          · by_cases z : j = k
            · rw [z]; exact decide_eq_false (fun w => w (by omega))
            · exact hg j (by omega)
          · have ec : cruI vs ws = k := fstI_eq (Nat.le_of_lt hk) hg (Or.inr (decide_eq_true (by omega)))
            have ea : cruA vs ws = cruB vs ws (ws.getD k sv0) := by unfold cruA; rw [ec, if_pos hk]
            rw [if_neg (by rw [ea]; omega), ea] at hp
            exact hp _ M0_Fr q'
      exact h37 0 (Nat.zero_le _) _ (fun i hi => absurd hi (Nat.not_lt_zero _))
    · rw [if_neg (by omega)] at hp
      exact hp _ M0_Fr q'
  · subst e1
    rw [e2] at hp
    dsimp only at hp
    rw [e3] at hp
    exact hp _ M0_Fr q'
  · rw [e1] at hp
    exact hp _ M0_Fr q'
end
