/-! 7k the other object: put, drop -/
section
variable {Λ : yL} {f0 : xH} {S S' S1 : yS} {m d t u f g : Nat} {J : Nat → Prop} {fs gs : List Fl} {ts : List (List Fl)} {bs cs : List Nat} {B : Ab} {x y a b c e z : Int32} {post : Option Value → xH → Prop}
/-- TREES and the tape have changed -/
theorem mQ_aT (k : zX m (fun j => Jt j ∨ j = 2) S S') (q : mQ Λ S m B) (ha : mTa S' m bs) (h : mTs S' m ts) : mQ Λ S' m (bs, B.2.1, ts, B.2.2.2) := by
  obtain ⟨q0, q1, q2, q3, q4, q5, q6⟩ := q
  exact ⟨q0, ha, mHa_x k (fun j _ _ => by unfold Jt scr; omega) q2, h, mPs_x k (fun j _ _ => by unfold Jt scr; omega) q4, mCo_x k (fun j _ _ => by unfold Jt scr; omega) q5, mDi_x k (fun j _ _ => by unfold Jt scr; omega) q6⟩
theorem M_put (q : mQ Λ S m B) (hok : ∀ t, t < (aT B).length → okT ((aT B).getD t [])) (hoh : okP B.2.1) (hp : ∀ S', yFr (A11 m) S S' → mQ Λ S' m (a_put B a).1 → post (some (.int (a_put B a).2)) (yH Λ f0 S')) : xSp xT0 (d + 8) j_Mo_put [.ref m, .int a] (yH Λ f0 S) post := by
  have hL := q.1
  have ho := hL.2.1
  have hl := q.2.2.2.1.1
  have q' := mQ_0 (x := 0) q
  have hTa := q'.2.1
  have hHa := q'.2.2.1
  have hl0 := hTa.1
  have hl1 := hHa.1
  unfold a_put at hp
  refine xSp_of (M := m_Mo_put) rfl (b_Mo_put_0 (ypf ho rfl ⟨yex ho, Mo_noTree_sp q' (fun i hi e1 e2 => xviI ⟨fun z => absurd rfl z, fun _ => ygi ho rfl ?_⟩) (fun e1 => xviI ⟨fun _ => ?_, fun z => absurd (by decide) z⟩)⟩))
  · subst e1
    rw [e2] at hp
    dsimp only at hp
    have hT := q'.2.2.2.1.2.2 i hi
    have hoki := hok i hi
    have hfl := hT.1
    rw [hHa.2.1]
    refine breq (b := 0) (by omega) (by omega) (fun c0 => ?_) (fun c0 => ygi ho rfl ?_)
    · rw [if_pos (Or.inl c0)] at hp
      exact hp _ M0_Fr q'
    · rw [hTa.2.1]
      refine brle (b := 48) (by omega) (by omega) (fun c48 => ygr ho rfl (ygi ho rfl ?_)) (fun c48 => ?_)
      · rw [if_neg (by omega)] at hp
        rw [hHa.2.1]
        refine ⟨yex ho, Mo_find_sp (p := 0) hL (by omega) hT (mk3 hL) hHa.2.2 (by omega) (by omega) (xviI (ygr ho rfl (ygi ho rfl ?_)))⟩
        rw [hHa.2.1]
        refine ⟨yex ho, Mo_isBlocked_sp (p := 0) hL (by omega) hT (mk3 hL) hHa.2.2 (by omega) (by omega) (xviI (brB (fun eb => ?_) (fun eb => ?_)))⟩
        · have h156 : ∀ (S1 : yS) (x2 : Int32) (gs : List Fl), tkT ((aT B).getD i []) (B.2.1, B.1) = some gs → zX m Jt (ywI S 11 0 m 0) S1 → zT m i (ywI S 11 0 m 0) S1 → mT S1 m i gs → yI S1 11 10 m = nI (aT B).length → xWp (xT0, xSp xT0 (d + 7), none, m_Mo_put, post) 156 [some (.ref m), some (.int (nI i)), some (.int x2)] [] (yH Λ f0 S1) 0 0 := by
            intro S1 x2 gs eg k1 z1 hT1 i10
            refine b_Mo_put_156 (ypf ho rfl (ygr ho rfl (yal (mk9 hL) (vp_in_nI (by omega) (by omega)) ?_)))
            rw [nI_clamp (by omega)]
            rw [eg] at hp
            dsimp only at hp
            have k2 : zX m (fun j => j = 2) S1 (ywI S1 11 2 m 0) := zX_wI rfl
            have e9 : yA (ywI S1 11 2 m 0) 11 9 m i = nI gs.length := hT1.2.1
            rw [e9]
            have k3 : zX m (fun j => Jt j ∨ j = 2) S (ywI S1 11 2 m 0) := zX_tr (zX_tr (zX_wI (Or.inl (by unfold Jt scr; omega))) (zX_mo k1 (fun _ z => Or.inl z))) (zX_mo k2 (fun _ z => Or.inr z))
            refine hp _ (zX_Fr k3) (mQ_aT k3 q ⟨by simp, ywI_s _ _ _ _ _, fun k hk => absurd hk (by simp)⟩ (mTs_set (zT_tr z1 (zT_x k2 (fun j _ _ => by omega))) ?_ (mT_x k2 (fun j _ _ => by omega) hT1) q'.2.2.2.1))
            rw [ywI_ne _ _ (by omega)]
            exact i10
          by_cases cf : fnd ((aT B).getD i []) B.2.1 < ((aT B).getD i []).length
          · have eg : tkT ((aT B).getD i []) (B.2.1, B.1) = some (((aT B).getD i []).set (fnd ((aT B).getD i []) B.2.1) (B.2.1, B.1)) := if_pos cf
            have hF := hT.2.2 _ cf
            have ep : (((aT B).getD i []).getD (fnd ((aT B).getD i []) B.2.1) fl0).1 = B.2.1 := of_decide_eq_true (fstI_t (p := fun i_1 => decide ((((aT B).getD i []).getD i_1 fl0).1 = B.2.1)) cf)
            rw [if_pos cf]
            generalize hk : fnd ((aT B).getD i []) B.2.1 = k at *
            refine ⟨fun _ => b_Mo_put_86 ⟨fun z => absurd z (fun z => nI_pos (n := k) (by omega) (by rw [z]; decide)), fun _ => ygr ho rfl (ygr ho rfl (Mo_at_sp (xviI (ygi ho rfl ?_))))⟩, fun z => absurd (fun w => nI_pos (n := k) (by omega) (by rw [show nI k = (-2) from w]; decide)) z⟩
            rw [hTa.2.1, n48]
            refine Mo_move_sp (p1 := 0) hL.1 (mk1 hL) (mk7 hL) (rg_id hTa.2.2) (by omega) (by omega) (by omega) (by omega) (Or.inl (by omega)) (xvvI (ygr ho rfl (Mo_at_sp (xviI (ygi ho rfl (yas (mk8 hL) (yW_n hL.1 (mk8 hL)) (vp_in_nI (by omega) (by omega)) ?_))))))
            have e2' : yI (ywA (ywI S 11 0 m 0) 11 7 m (va_cpy (yA (ywI S 11 0 m 0) 11 1 m) (yA (ywI S 11 0 m 0) 11 7 m) 0 (48 * (10 * i + k)) B.1.length)) 11 2 m = nI B.1.length := hTa.2.1
            rw [e2', nI_clamp (by omega)]
            have k1 : zS m 1 (fun z => z = 10 * i + k) (ywI S 11 0 m 0) (ywA (ywI S 11 0 m 0) 11 7 m (va_cpy (yA (ywI S 11 0 m 0) 11 1 m) (yA (ywI S 11 0 m 0) 11 7 m) 0 (48 * (10 * i + k)) B.1.length)) := zS_c (j := 7) (f := 10 * i + k) rfl rfl (by decide) (by show _ ≤ 48; omega)
            have k2 := zS_tr k1 (zS_u (j := 8) (i := 10 * i + k) (v := nI B.1.length) rfl (by show (10 * i + k) / 1 = _; rw [Nat.div_one]))
            have hnew : mF (ywA (ywA (ywI S 11 0 m 0) 11 7 m (va_cpy (yA (ywI S 11 0 m 0) 11 1 m) (yA (ywI S 11 0 m 0) 11 7 m) 0 (48 * (10 * i + k)) B.1.length)) 11 8 m (upd (yA (ywA (ywI S 11 0 m 0) 11 7 m (va_cpy (yA (ywI S 11 0 m 0) 11 1 m) (yA (ywI S 11 0 m 0) 11 7 m) 0 (48 * (10 * i + k)) B.1.length)) 11 8 m) (10 * i + k) (nI B.1.length))) m (10 * i + k) (B.2.1, B.1) := by
              obtain ⟨⟨a1, a2, a3⟩, -⟩ := hF
              rw [ep] at a1 a2 a3
              refine ⟨⟨?_, a2, ?_⟩, ?_, c48, ?_⟩
              · rw [yA_n _ _ (by omega), yA_n _ _ (by omega)]; exact a1
              · rw [yA_n _ _ (by omega), yA_n _ _ (by omega)]; exact a3
              · rw [yA_s, pk_us]
              · rw [yA_n _ _ (by omega), yA_s]; exact rg_cpy hTa.2.2 (Nat.le_refl _)
            generalize ywA (ywA (ywI S 11 0 m 0) 11 7 m (va_cpy (yA (ywI S 11 0 m 0) 11 1 m) (yA (ywI S 11 0 m 0) 11 7 m) 0 (48 * (10 * i + k)) B.1.length)) 11 8 m (upd (yA (ywA (ywI S 11 0 m 0) 11 7 m (va_cpy (yA (ywI S 11 0 m 0) 11 1 m) (yA (ywI S 11 0 m 0) 11 7 m) 0 (48 * (10 * i + k)) B.1.length)) 11 8 m) (10 * i + k) (nI B.1.length)) = S2 at *
            refine h156 S2 _ _ eg (zX_S k2 (fun j hj => Or.inl (by have := grp1 hj; omega))) (zT_S k2 (fun z e => by rw [show z = 10 * i + k from e]; exact ⟨by omega, by omega⟩)) ⟨by rw [List.length_set]; exact hfl, ?_, fun j hj => ?_⟩ (by rw [(k2.1 11 10 m).1]; exact q'.2.2.2.1.2.1)
            · rw [List.length_set, k2.2.1 11 9 m (fun z => absurd z.2.2 (by decide))]; exact hT.2.1
            · rw [List.length_set] at hj
              rw [setG cf]
              by_cases w : j = k
              · rw [if_pos w, w]; exact hnew
              · rw [if_neg w]
                exact mF_z k2 (fun _ z => by omega) (hT.2.2 j hj)
          · rw [if_neg cf]
            have e3 : tkT ((aT B).getD i []) (B.2.1, B.1) = if ((aT B).getD i []).length = 10 then none else some (insL ((aT B).getD i []) (insP B.2.1 ((aT B).getD i []) ((aT B).getD i []).length) (B.2.1, B.1)) := by
              unfold tkT
              dsimp only
              rw [if_neg cf, if_neg (show ¬ barT ((aT B).getD i []) B.2.1 = true by rw [eb]; decide)]
            refine ⟨fun z => absurd rfl z, fun _ => ygr ho rfl (yal (mk9 hL) (vp_in_nI (by omega) (by omega)) ?_)⟩
            rw [nI_clamp (by omega), hT.2.1]
            refine brne (b := 10) (by omega) (by omega) (fun c10 => b_Mo_put_86 ⟨fun _ => ygr ho rfl (ygi ho rfl ?_), fun z => absurd rfl z⟩) (fun c10 => ?_)
            · rw [if_neg c10] at e3
              rw [hHa.2.1]
              refine ygr ho rfl (ygi ho rfl ?_)
              rw [hTa.2.1]
              refine ⟨yex ho, Mo_addFile_sp (p := 0) (p2 := 0) hL (by omega) hT (by omega) hoki.1 hoh (mk3 hL) hHa.2.2 (by omega) (by omega) hl1 (fun z => absurd z (by decide)) (mk1 hL) hTa.2.2 (by omega) (by omega) c48 (fun z => absurd z (by decide)) (fun S1 k1 hF1 h91 hT1 => xvvI ?_)⟩
              exact h156 S1 _ _ e3 (zX_mo k1 (fun j z => Or.inl (by rcases z with z | z; have := grp1 z; omega; omega))) ⟨hF1, h91⟩ hT1 (by rw [(mX k1 (j := 10) (fun z => by rcases z with z | z; have := grp1 z; omega; omega)).1]; exact q'.2.2.2.1.2.1)
            · rw [if_pos c10] at e3
              rw [e3] at hp
              dsimp only at hp
              rw [if_neg (show ¬ barT ((aT B).getD i []) B.2.1 = true by rw [eb]; decide)] at hp
              exact hp _ M0_Fr q'
        · have cf : ¬ fnd ((aT B).getD i []) B.2.1 < ((aT B).getD i []).length := fun cf => by
            have ep : (((aT B).getD i []).getD (fnd ((aT B).getD i []) B.2.1) fl0).1 = B.2.1 := of_decide_eq_true (fstI_t (p := fun i_1 => decide ((((aT B).getD i []).getD i_1 fl0).1 = B.2.1)) cf)
            have := hoki.2.1 _ cf
            rw [ep, eb] at this
            cases this
          have e3 : tkT ((aT B).getD i []) (B.2.1, B.1) = none := by
            unfold tkT
            dsimp only
            rw [if_neg cf, if_pos eb]
          rw [e3] at hp
          dsimp only at hp
          rw [if_pos eb] at hp
          exact hp _ M0_Fr q'
      · rw [if_pos (Or.inr c48)] at hp
        exact hp _ M0_Fr q'
  · rw [e1] at hp
    exact hp _ M0_Fr q'
theorem M_drop (q : mQ Λ S m B) (hp : ∀ S', yFr (A11 m) S S' → mQ Λ S' m (a_drop B a).1 → post (some (.int (a_drop B a).2)) (yH Λ f0 S')) : xSp xT0 (d + 8) j_Mo_drop [.ref m, .int a] (yH Λ f0 S) post := by
  have hL := q.1
  have ho := hL.2.1
  have hl := q.2.2.2.1.1
  have q' := mQ_0 (x := 0) q
  have hHa := q'.2.2.1
  have hl1 := hHa.1
  unfold a_drop at hp
  refine xSp_of (M := m_Mo_drop) rfl (b_Mo_drop_0 (ypf ho rfl ⟨yex ho, Mo_noTree_sp q' (fun i hi e1 e2 => xviI ⟨fun z => absurd rfl z, fun _ => ygi ho rfl ?_⟩) (fun e1 => xviI ⟨fun _ => ?_, fun z => absurd (by decide) z⟩)⟩))
  · subst e1
    rw [e2] at hp
    dsimp only at hp
    have hT := q'.2.2.2.1.2.2 i hi
    have hfl := hT.1
    rw [hHa.2.1]
    refine brne (b := 0) (by omega) (by omega) (fun c0 => ygr ho rfl (ygi ho rfl ?_)) (fun c0 => ?_)
    · rw [if_neg c0] at hp
      rw [hHa.2.1]
      refine ⟨yex ho, Mo_find_sp (p := 0) hL (by omega) hT (mk3 hL) hHa.2.2 (by omega) (by omega) (xviI ?_)⟩
      by_cases cf : fnd ((aT B).getD i []) B.2.1 < ((aT B).getD i []).length
      · rw [if_pos cf]
        rw [if_pos cf] at hp
        generalize hk : fnd ((aT B).getD i []) B.2.1 = k at *
        generalize hfs : (aT B).getD i [] = fs at *
        refine ⟨fun _ => ygr ho rfl (yal (mk9 hL) (vp_in_nI (by omega) (by omega)) (yas (mk9 hL) (yW_n hL.1 (mk9 hL)) (vp_in_nI (by omega) (by omega)) ?_)), fun z => absurd (fun w => nI_pos (n := k) (by omega) (by rw [show nI k = (-2) from w]; decide)) z⟩
        have em : nI fs.length - 1 = nI (fs.length - 1) := pk_sub (b := 1) (by omega)
        rw [nI_clamp (by omega), hT.2.1, em]
        have hel : (fs.eraseIdx k).length = fs.length - 1 := List.length_eraseIdx_of_lt cf
        have hlo : ∀ j, j ≤ fs.length - 1 → (k ≤ j → ∀ S1, zX m Jt (ywI S 11 0 m 0) S1 → zT m i (ywI S 11 0 m 0) S1 → yI S1 11 10 m = nI (aT B).length → yA S1 11 9 m i = nI (fs.length - 1) → (∀ l, l < j → mF S1 m (10 * i + l) ((fs.eraseIdx k).getD l fl0)) → (∀ l, j ≤ l → l < fs.length → mF S1 m (10 * i + l) (fs.getD l fl0)) → xWp (xT0, xSp xT0 (d + 7), none, m_Mo_drop, post) 57 [some (.ref m), some (.int (nI i)), some (.int (nI k)), some (.int (nI j))] [] (yH Λ f0 S1) 0 0) := by
          refine loopUp ?_ ?_
          · intro hkj S1 k1 z1 i10 i9 hlow hup
            refine b_Mo_drop_57 (ygr ho rfl (yal (mk9 hL) (vp_in_nI (by omega) (by omega)) ?_))
            rw [nI_clamp (by omega), i9]
            refine brle (by omega) (by omega) (fun _ => ygr ho rfl (yal (mk9 hL) (vp_in_nI (by omega) (by omega)) ?_)) (fun c => by omega)
            rw [nI_clamp (by omega), i9]
            have k3 : zX m Jt S S1 := zX_tr (zX_wI (by unfold Jt scr; omega)) k1
            refine hp _ (zX_Fr k3) (mQ_T k3 q (mTs_set z1 i10 ⟨by rw [hel]; omega, by rw [hel]; exact i9, fun l hl' => hlow l (by omega)⟩ q'.2.2.2.1))
          · intro j hj ih hkj S1 k1 z1 i10 i9 hlow hup
            refine b_Mo_drop_57 (ygr ho rfl (yal (mk9 hL) (vp_in_nI (by omega) (by omega)) ?_))
            rw [nI_clamp (by omega), i9, nI_1]
            refine brle (by omega) (by omega) (fun c => by omega) (fun _ => Mo_at_sp (xviI (Mo_at_sp (xviI ⟨yex ho, Mo_moveFile_sp hL (by omega) (by omega) (by omega) (hup (j + 1) (by omega) (by omega)) (fun S2 k2 hq2 => xvvI ?_)⟩))))
            refine ih (by omega) S2 (zX_tr k1 (zX_S k2 (fun j hj => Or.inl (by have := grp1 hj; omega)))) (zT_tr z1 (zT_S k2 (fun z e => by rw [show z = 10 * i + j from e]; exact ⟨by omega, by omega⟩))) (by rw [(k2.1 11 10 m).1]; exact i10) (by rw [k2.2.1 11 9 m (fun z => absurd z.2.2 (by decide))]; exact i9) (fun l hl' => ?_) (fun l h1 h2 => mF_z k2 (fun _ z => by omega) (hup l (by omega) h2))
            by_cases w : l = j
            · rw [w, eraG, if_neg (by omega)]; exact hq2
            · exact mF_z k2 (fun _ z => by omega) (hlow l (by omega))
        have e9 : yA (ywI S 11 0 m 0) 11 9 m = yA S 11 9 m := rfl
        refine hlo k (by omega) (Nat.le_refl _) _ (zX_wA (by unfold Jt; omega)) zT_9 q'.2.2.2.1.2.1 (by rw [yA_s, pk_us]) (fun l hl' => ?_) (fun l h1 h2 => ?_)
        · rw [eraG, if_pos hl']
          exact mF_x (J := fun j => j = 9) (zX_wA rfl) (fun j _ _ => by omega) (hT.2.2 l (by omega))
        · exact mF_x (J := fun j => j = 9) (zX_wA rfl) (fun j _ _ => by omega) (hT.2.2 l h2)
      · rw [if_neg cf]
        rw [if_neg cf] at hp
        exact ⟨fun z => absurd rfl z, fun _ => hp _ M0_Fr q'⟩
    · rw [if_pos c0] at hp
      exact hp _ M0_Fr q'
  · rw [e1] at hp
    exact hp _ M0_Fr q'
end
