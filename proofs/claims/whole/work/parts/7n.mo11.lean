/-! 7n the other object: install -/
section
variable {Λ : yL} {f0 : xH} {S S' S1 : yS} {m d t u f g : Nat} {J F : Nat → Prop} {fs gs : List Fl} {ts : List (List Fl)} {bs cs : List Nat} {B : Ab} {D D' : Dv} {ch : Nat → Nat} {x y a b c e z : Int32} {post : Option Value → xH → Prop}
theorem mDi_f (h : mDi S m D) : mDf S m D := h.2.2
theorem mDi_w (h : mDi S m D) (k : zX m (fun j => 44 ≤ j ∧ j ≤ 46) S S') (e1 : D'.1 = D.1) (e2 : D'.2.1 = D.2.1) (hf : mDf S' m D') : mDi S' m D' := by
  refine ⟨fun s hs => ?_, fun i hi => ?_, hf⟩
  · rw [e1]; exact mSl_x k (fun j _ _ => by omega) (h.1 s hs)
  · rw [e2]; exact mLi_x k (fun j _ _ => by omega) (h.2.1 i hi)
abbrev Jd (j : Nat) : Prop := (37 ≤ j ∧ j ≤ 47) ∨ scr j
theorem mLi_S {i : Nat} {L : List Le} (k : zS m g F S S') (hg : g = 3) (h : mLi S m i L) : mLi S' m i L := by
  subst hg
  refine ⟨h.1, ?_, fun l hl => mLe_z k (fun z => absurd z (by decide)) (h.2.2 l hl)⟩
  rw [k.2.1 11 42 m (fun z => absurd z.2.2 (by decide))]
  exact h.2.1
theorem c1m {c : Nat} (h : c < 2) : (1 : Int32) - nI c = nI (1 - c) := by
  rcases Nat.lt_or_ge c 1 with z | z
  · rw [show c = 0 by omega]; decide
  · rw [show c = 1 by omega]; decide
theorem M_install (q : mQ Λ S m B) (hok : okD2 (aD B)) (hp : ∀ S', yFr (A11 m) S S' → mQ Λ S' m (a_install B a).1 → post (some (.int (a_install B a).2)) (yH Λ f0 S')) : xSp xT0 (d + 8) j_Mo_install [.ref m, .int a] (yH Λ f0 S) post := by
  have hL := q.1
  have hW := hL.1
  have ho := hL.2.1
  have hl := q.2.2.2.1.1
  have q' := mQ_0 (x := 0) q
  have hD := q'.2.2.2.2.2.2
  unfold a_install at hp
  refine xSp_of (M := m_Mo_install) rfl (b_Mo_install_0 (ypf ho rfl ⟨yex ho, Mo_noTree_sp q' (fun t ht e1 e2 => xviI ⟨fun _ => ygi ho rfl ?_, fun z => absurd rfl z⟩) (fun e1 => xviI ⟨fun z => absurd z (by decide), fun _ => ?_⟩)⟩))
  · subst e1
    rw [e2] at hp
    dsimp only at hp
    have hT := q'.2.2.2.1.2.2 t ht
    have hfl := hT.1
    generalize hfs : (aT B).getD t [] = fs at *
    have hfin : ∀ {S1 D1} {v : Int32}, zX m Jd (ywI S 11 0 m 0) S1 → mDi S1 m D1 → wrA fs (aD B) = (D1, v) → post (some (.int v)) (yH Λ f0 S1) := by
      intro S1 D1 v k1 hD1 ew
      rw [ew] at hp
      have k2 : zX m Jd S S1 := zX_tr (zX_wI (by unfold Jd scr; omega)) k1
      exact hp S1 (zX_Fr k2) (mQ_D k2 q hD1)
    rw [hD.2.2.2.2.2.1]
    refine brB (fun q0 => ygi ho rfl ?_) (fun q0 => hfin zX_rf hD ?_)
    · rw [hD.2.2.2.2.2.2]
      have ewA : wrA fs (aD B) = if (wrL fs (aD B) fs.length).2.2 = true then wrE fs (aD B).2.2.2.2.1 (wrL fs (aD B) fs.length) else ((wrL fs (aD B) fs.length).1, -4) := by
        unfold wrA
        rw [if_neg (by rw [q0]; decide)]
      have hlo : ∀ n, n ≤ fs.length → (∀ S1 (u4 u5 u6 : Option Value), (wrL fs (aD B) n).2.2 = true → zX m Jd (ywI S 11 0 m 0) S1 → mDi S1 m (wrL fs (aD B) n).1 → (∀ i, i < n → yA S1 11 47 m i = nI ((wrL fs (aD B) n).2.1 i) ∧ (wrL fs (aD B) n).2.1 i < 30) → xWp (xT0, xSp xT0 (d + 7), none, m_Mo_install, post) 32 [some (.ref m), some (.int (nI t)), some (.int (aD B).2.2.2.2.1), some (.int (nI n)), u4, u5, u6] [] (yH Λ f0 S1) 0 0) := by
        have hT1 : ∀ {S1}, zX m Jd (ywI S 11 0 m 0) S1 → mT S1 m t fs := fun k1 => mT_x k1 (fun j _ _ => by unfold Jd scr; omega) hT
        refine loopUp ?_ ?_
        · intro S1 u4 u5 u6 er k1 hD1 hch
          rw [if_pos er] at ewA
          generalize wrL fs (aD B) fs.length = R at *
          unfold wrE at ewA
          refine b_Mo_install_32 (ygr ho rfl (yal (mk9 hL) (vp_in_nI (by omega) (by omega)) ?_))
          rw [nI_clamp (by omega), (hT1 k1).2.1]
          refine brle (by omega) (by omega) (fun _ => ⟨yex ho, Mo_mayWrite_sp hL (mDi_f hD1) (fun S2 D2 es k2 hf2 => xviI ⟨fun _ => ygi ho rfl ?_, fun z => absurd (by decide) z⟩) (fun es S2 k2 hf2 => xviI ⟨fun z => absurd rfl z, fun _ => ?_⟩)⟩) (fun z => by omega)
          · rw [es] at ewA
            dsimp only at ewA
            have hsc := spD_c es
            have hD2 := mDi_w hD1 k2 hsc.2.2 hsc.1 hf2
            have k2' := zX_tr k1 (zX_mo k2 (fun j z => show Jd j by unfold Jd; omega))
            have hc2 := hf2.1
            have hT2 := hT1 k2'
            rw [hf2.2.1]
            refine ygr ho rfl (ygr ho rfl (yal (mk9 hL) (vp_in_nI (by omega) (by omega)) ?_))
            rw [nI_clamp (by omega), hT2.2.1, c1m hc2]
            refine yas (mk42 hL) (yW_n hW (mk42 hL)) (vp_in_nI (by omega) (by omega)) ?_
            rw [nI_clamp (by omega)]
            have hch2 : ∀ i, i < fs.length → yA S2 11 47 m i = nI (R.2.1 i) ∧ R.2.1 i < 30 := fun i hi => by
              rw [(mX k2 (j := 47) (by omega)).2]; exact hch i hi
            have hlo2 : ∀ i, i ≤ fs.length → (∀ S3 (u5 u6 : Option Value), zX m Jd (ywI S 11 0 m 0) S3 → (∀ s, s < 30 → mSl S3 m s (D2.1 s)) → mLi S3 m D2.2.2.1 (dL D2) → yA S3 11 42 m (1 - D2.2.2.1) = nI fs.length → mDf S3 m D2 → (∀ i, i < fs.length → yA S3 11 47 m i = nI (R.2.1 i)) → (∀ k, k < i → mLe S3 m (10 * (1 - D2.2.2.1) + k) ((mkL fs R.2.1).getD k le0)) → xWp (xT0, xSp xT0 (d + 7), none, m_Mo_install, post) 190 [some (.ref m), some (.int (nI t)), some (.int (aD B).2.2.2.2.1), some (.int (nI (1 - D2.2.2.1))), some (.int (nI i)), u5, u6] [] (yH Λ f0 S3) 0 0) := by
              refine loopUp ?_ ?_
              · intro S3 u5 u6 k3 hs3 hl3 h42 hf3 hch3 hle
                have hD3 : mDi S3 m (liD D2 (1 - D2.2.2.1) (mkL fs R.2.1)) := by
                  refine ⟨hs3, fun i hi => ?_, hf3⟩
                  show mLi S3 m i (if i = 1 - D2.2.2.1 then mkL fs R.2.1 else D2.2.1 i)
                  by_cases w : i = 1 - D2.2.2.1
                  · rw [if_pos w, w]
                    refine ⟨by rw [mkL_l]; exact hfl, by rw [mkL_l]; exact h42, fun k hk => ?_⟩
                    rw [mkL_l] at hk
                    exact hle k hk
                  · rw [if_neg w, show i = D2.2.2.1 by omega]
                    exact hl3
                refine b_Mo_install_190 (ygr ho rfl (yal (mk9 hL) (vp_in_nI (by omega) (by omega)) ?_))
                rw [nI_clamp (by omega), (hT1 k3).2.1]
                refine brle (by omega) (by omega) (fun _ => ⟨yex ho, Mo_mayWrite_sp hL (mDi_f hD3) (fun S4 D4 es4 k4 hf4 => xviI ⟨fun _ => ypf ho rfl (ygi ho rfl ?_), fun z => absurd (by decide) z⟩) (fun es4 S4 k4 hf4 => xviI ⟨fun z => absurd rfl z, fun _ => ?_⟩)⟩) (fun z => by omega)
                · rw [es4] at ewA
                  dsimp only at ewA
                  have hsc4 := spD_c es4
                  have hD4 := mDi_w hD3 k4 hsc4.2.2 hsc4.1 hf4
                  have ec : D4.2.2.1 = D2.2.2.1 := hsc4.2.1
                  rw [ywI_ne _ _ (by omega), hf4.2.2.2.2]
                  have k5 : zX m (fun j => j = 43) S4 (ywI S4 11 43 m (nI (1 - D2.2.2.1))) := zX_wI rfl
                  refine hfin (zX_tr (zX_tr k3 (zX_mo k4 (fun j z => show Jd j by unfold Jd; omega))) (zX_mo k5 (fun j z => show Jd j by unfold Jd; omega))) ?_ ewA
                  refine ⟨fun s hs => mSl_x k5 (fun j _ _ => by omega) (hD4.1 s hs), fun i hi => mLi_x k5 (fun j _ _ => by omega) (hD4.2.1 i hi), by show 1 - D4.2.2.1 < 2; omega, ?_, ?_, ?_, ?_⟩
                  · rw [ywI_s, ← ec]; rfl
                  · rw [ywI_ne _ _ (by omega)]; exact hf4.2.2.1
                  · rw [ywI_ne _ _ (by omega)]; exact hf4.2.2.2.1
                  · rw [ywI_ne _ _ (by omega)]; exact hf4.2.2.2.2
                · rw [es4] at ewA
                  dsimp only at ewA
                  exact hfin (zX_tr k3 (zX_mo k4 (fun j z => show Jd j by unfold Jd; omega))) (mDi_w (D' := dnD (liD D2 (1 - D2.2.2.1) (mkL fs R.2.1))) hD3 k4 rfl rfl hf4) ewA
              · intro i hi ih S3 u5 u6 k3 hs3 hl3 h42 hf3 hch3 hle
                have hF3 := (hT1 k3).2.2 i hi
                obtain ⟨⟨a1, a2, a3⟩, -⟩ := hF3
                refine b_Mo_install_190 (ygr ho rfl (yal (mk9 hL) (vp_in_nI (by omega) (by omega)) ?_))
                rw [nI_clamp (by omega), (hT1 k3).2.1, nI_1, n10]
                refine brle (by omega) (by omega) (fun z => by omega) (fun _ => Mo_at_sp (xviI (ygr ho rfl (ygr ho rfl (ygr ho rfl (yal (mk6 hL) (vp_in_nI (by omega) (by omega)) ?_))))))
                rw [nI_clamp (by omega), a1, n18, n18]
                refine Mo_move_sp hW (mk5 hL) (mk39 hL) (rg_id a3) (by omega) (by omega) (by omega) (by omega) (Or.inl (by omega)) (xvvI (ygr ho rfl (ygr ho rfl (yal (mk6 hL) (vp_in_nI (by omega) (by omega)) (yas (mk40 hL) (yW_n hW (mk40 hL)) (vp_in_nI (by omega) (by omega)) (ygr ho rfl (ygr ho rfl (yal (mk47 hL) (vp_in_nI (by omega) (by omega)) (yas (mk41 hL) (yW_n hW (mk41 hL)) (vp_in_nI (by omega) (by omega)) ?_)))))))))
                rw [nI_clamp (by omega), nI_clamp (by omega), nI_clamp (by omega)]
                have e6 : yA (ywA S3 11 39 m (va_cpy (yA S3 11 5 m) (yA S3 11 39 m) (18 * (10 * t + i)) (18 * (10 * (1 - D2.2.2.1) + i)) (fs.getD i fl0).1.length)) 11 6 m (10 * t + i) = nI (fs.getD i fl0).1.length := by rw [yA_n _ _ (by omega)]; exact a1
                rw [e6]
                have k4 : zS m 4 (fun z => z = 10 * (1 - D2.2.2.1) + i) S3 (ywA S3 11 39 m (va_cpy (yA S3 11 5 m) (yA S3 11 39 m) (18 * (10 * t + i)) (18 * (10 * (1 - D2.2.2.1) + i)) (fs.getD i fl0).1.length)) := zS_c (j := 39) (f := 10 * (1 - D2.2.2.1) + i) rfl rfl (by decide) (by show _ ≤ 18; omega)
                have k5 := zS_tr k4 (zS_u (j := 40) (i := 10 * (1 - D2.2.2.1) + i) (v := nI (fs.getD i fl0).1.length) rfl (by show (10 * (1 - D2.2.2.1) + i) / 1 = _; rw [Nat.div_one]))
                have e47 : yA (ywA (ywA S3 11 39 m (va_cpy (yA S3 11 5 m) (yA S3 11 39 m) (18 * (10 * t + i)) (18 * (10 * (1 - D2.2.2.1) + i)) (fs.getD i fl0).1.length)) 11 40 m (upd (yA (ywA S3 11 39 m (va_cpy (yA S3 11 5 m) (yA S3 11 39 m) (18 * (10 * t + i)) (18 * (10 * (1 - D2.2.2.1) + i)) (fs.getD i fl0).1.length)) 11 40 m) (10 * (1 - D2.2.2.1) + i) (nI (fs.getD i fl0).1.length))) 11 47 m i = nI (R.2.1 i) := by rw [yA_n _ _ (by omega), yA_n _ _ (by omega)]; exact hch3 i hi
                rw [e47]
                have h40 : yA (ywA (ywA S3 11 39 m (va_cpy (yA S3 11 5 m) (yA S3 11 39 m) (18 * (10 * t + i)) (18 * (10 * (1 - D2.2.2.1) + i)) (fs.getD i fl0).1.length)) 11 40 m (upd (yA (ywA S3 11 39 m (va_cpy (yA S3 11 5 m) (yA S3 11 39 m) (18 * (10 * t + i)) (18 * (10 * (1 - D2.2.2.1) + i)) (fs.getD i fl0).1.length)) 11 40 m) (10 * (1 - D2.2.2.1) + i) (nI (fs.getD i fl0).1.length))) 11 40 m (10 * (1 - D2.2.2.1) + i) = nI (fs.getD i fl0).1.length := by rw [yA_s, pk_us]
                have h39 : rg (yA (ywA (ywA S3 11 39 m (va_cpy (yA S3 11 5 m) (yA S3 11 39 m) (18 * (10 * t + i)) (18 * (10 * (1 - D2.2.2.1) + i)) (fs.getD i fl0).1.length)) 11 40 m (upd (yA (ywA S3 11 39 m (va_cpy (yA S3 11 5 m) (yA S3 11 39 m) (18 * (10 * t + i)) (18 * (10 * (1 - D2.2.2.1) + i)) (fs.getD i fl0).1.length)) 11 40 m) (10 * (1 - D2.2.2.1) + i) (nI (fs.getD i fl0).1.length))) 11 39 m) (18 * (10 * (1 - D2.2.2.1) + i)) (fs.getD i fl0).1 := by
                  rw [yA_n _ _ (by omega), yA_s]; exact rg_cpy a3 (Nat.le_refl _)
                generalize ywA (ywA S3 11 39 m (va_cpy (yA S3 11 5 m) (yA S3 11 39 m) (18 * (10 * t + i)) (18 * (10 * (1 - D2.2.2.1) + i)) (fs.getD i fl0).1.length)) 11 40 m (upd (yA (ywA S3 11 39 m (va_cpy (yA S3 11 5 m) (yA S3 11 39 m) (18 * (10 * t + i)) (18 * (10 * (1 - D2.2.2.1) + i)) (fs.getD i fl0).1.length)) 11 40 m) (10 * (1 - D2.2.2.1) + i) (nI (fs.getD i fl0).1.length)) = S5 at *
                have k6 := zS_tr k5 (zS_u (j := 41) (i := 10 * (1 - D2.2.2.1) + i) (v := nI (R.2.1 i)) rfl (by show (10 * (1 - D2.2.2.1) + i) / 1 = _; rw [Nat.div_one]))
                have k6x : zX m (fun j => 39 ≤ j ∧ j ≤ 41) S3 (ywA S5 11 41 m (upd (yA S5 11 41 m) (10 * (1 - D2.2.2.1) + i) (nI (R.2.1 i)))) := zX_S k6 (fun j hj => by
                  unfold grp at hj
                  split at hj
                  · omega
                  · split at hj
                    · omega
                    · split at hj
                      · omega
                      · split at hj <;> omega)
                refine ih _ _ _ (zX_tr k3 (zX_mo k6x (fun j z => show Jd j by unfold Jd; omega))) (fun s hs => mSl_x k6x (fun j _ _ => by omega) (hs3 s hs)) ⟨hl3.1, ?_, fun k hk => mLe_z k6 (fun _ z => ?_) (hl3.2.2 k hk)⟩ ?_ ?_ (fun l hl' => ?_) (fun k hk => ?_)
                · rw [(mX k6x (j := 42) (by omega)).2]; exact hl3.2.1
                · have z : 10 * D2.2.2.1 + k = 10 * (1 - D2.2.2.1) + i := z
                  have := hl3.1
                  omega
                · rw [(mX k6x (j := 42) (by omega)).2]; exact h42
                · refine ⟨hf3.1, ?_, ?_, ?_, ?_⟩
                  · rw [(mX k6x (j := 43) (by omega)).1]; exact hf3.2.1
                  · rw [(mX k6x (j := 44) (by omega)).1]; exact hf3.2.2.1
                  · rw [(mX k6x (j := 45) (by omega)).1]; exact hf3.2.2.2.1
                  · rw [(mX k6x (j := 46) (by omega)).1]; exact hf3.2.2.2.2
                · rw [(mX k6x (j := 47) (by omega)).2]; exact hch3 l hl'
                · by_cases w : k = i
                  · subst w
                    rw [mkL_g hi]
                    refine ⟨?_, a2, ?_, ?_, (hch2 k hi).2⟩
                    · rw [yA_n _ _ (by omega)]; exact h40
                    · rw [yA_n _ _ (by omega)]; exact h39
                    · rw [yA_s, pk_us]
                  · exact mLe_z k6 (fun _ z => by omega) (hle k (by omega))
            have k3x : zX m (fun j => j = 42) S2 (ywA S2 11 42 m (upd (yA S2 11 42 m) (1 - D2.2.2.1) (nI fs.length))) := zX_wA rfl
            refine hlo2 0 (Nat.zero_le _) _ _ _ (zX_tr k2' (zX_mo k3x (fun j z => show Jd j by unfold Jd; omega))) (fun s hs => mSl_x k3x (fun j _ _ => by omega) (hD2.1 s hs)) ?_ (by rw [yA_s, pk_us]) ⟨hf2.1, hf2.2.1, hf2.2.2.1, hf2.2.2.2.1, hf2.2.2.2.2⟩ (fun i hi => ?_) (fun k hk => absurd hk (Nat.not_lt_zero _))
            · have hlD := mDi_l hD2
              refine ⟨hlD.1, by rw [yA_s, pk_un (by omega)]; exact hlD.2.1, fun k hk => mLe_x k3x (fun j _ _ => by omega) (hlD.2.2 k hk)⟩
            · rw [yA_n _ _ (by omega)]; exact (hch2 i hi).1
          · rw [es] at ewA
            dsimp only at ewA
            exact hfin (zX_tr k1 (zX_mo k2 (fun j z => show Jd j by unfold Jd; omega))) (mDi_w (D' := dnD _) hD1 k2 rfl rfl hf2) ewA
        · intro n hn ih S1 u4 u5 u6 er k1 hD1 hch
          have hes := wrL_s fs (aD B) n
          rw [if_pos er] at hes
          have hokn : okD2 (wrL fs (aD B) n).1 := wrL_ok hok n
          have hfail : (wrL fs (aD B) (n + 1)).2.2 = false → wrL fs (aD B) fs.length = wrL fs (aD B) (n + 1) := by
            intro z
            have : ∀ l, n + 1 + l ≤ fs.length → wrL fs (aD B) (n + 1 + l) = wrL fs (aD B) (n + 1) := by
              intro l
              induction l with
              | zero => intro _; rfl
              | succ l ihl =>
                intro hl'
                rw [← Nat.add_assoc, wrL_s, ihl (by omega), if_neg (by rw [z]; decide)]
            have := this (fs.length - (n + 1)) (by omega)
            rw [show n + 1 + (fs.length - (n + 1)) = fs.length by omega] at this
            exact this
          have hF := (hT1 k1).2.2 n hn
          refine b_Mo_install_32 (ygr ho rfl (yal (mk9 hL) (vp_in_nI (by omega) (by omega)) ?_))
          rw [nI_clamp (by omega), (hT1 k1).2.1]
          unfold wrI at hes
          generalize hR : wrL fs (aD B) n = R at *
          have hlD := mDi_l hD1
          have hLl := hlD.1
          have hcR := hD1.2.2.1
          refine brle (by omega) (by omega) (fun z => by omega) (fun _ => Mo_at_sp (xviI ⟨yex ho, Mo_kept_sp hL hokn hcR hD1.2.2.2.1 hD1.1 hlD (by omega) hF (xviI ?_)⟩))
          have h144 : ∀ S2 s (u6 : Option Value) R2, wrL fs (aD B) (n + 1) = (R2, updN R.2.1 n s, true) → s < 30 → zX m Jd (ywI S 11 0 m 0) S2 → mDi S2 m R2 → (∀ i, i < n → yA S2 11 47 m i = nI (R.2.1 i)) → xWp (xT0, xSp xT0 (d + 7), none, m_Mo_install, post) 144 [some (.ref m), some (.int (nI t)), some (.int (aD B).2.2.2.2.1), some (.int (nI n)), some (.int (nI (10 * t + n))), some (.int (nI s)), u6] [] (yH Λ f0 S2) 0 0 := by
            intro S2 s u6 R2 e2 hs k2 hD2 hch2
            rw [e2] at ih
            refine b_Mo_install_144 (ygr ho rfl (yas (mk47 hL) (yW_n hW (mk47 hL)) (vp_in_nI (by omega) (by omega)) ?_))
            rw [nI_clamp (by omega), nI_1]
            have k3 : zX m (fun j => j = 47) S2 (ywA S2 11 47 m (upd (yA S2 11 47 m) n (nI s))) := zX_wA rfl
            refine ih _ _ _ _ rfl (zX_tr k2 (zX_mo k3 (fun j z => show Jd j by unfold Jd; omega))) (mDi_x k3 (fun j _ _ => by omega) hD2) (fun i hi => ?_)
            rw [yA_s]
            show _ = nI (if i = n then s else R.2.1 i) ∧ (if i = n then s else R.2.1 i) < 30
            by_cases w : i = n
            · rw [if_pos w, w, pk_us]; exact ⟨rfl, hs⟩
            · rw [if_neg w, pk_un w]; exact ⟨hch2 i (by omega), (hch i (by omega)).2⟩
          cases hh : hdS R.1 (fs.getD n fl0).1 (fs.getD n fl0).2 with
          | some s =>
            rw [hh] at hes
            have hes : wrL fs (aD B) (n + 1) = (R.1, updN R.2.1 n s, true) := hes
            have hs30 : s < 30 := by
              unfold hdS at hh
              split at hh
              · cases hh
              · next s' es' =>
                split at hh
                · have := Option.some.inj hh
                  rw [← this]
                  unfold slO at es'
                  split at es'
                  · next hlt =>
                    have := (hlD.2.2 _ hlt).2.2.2.2
                    rw [Option.some.inj es'] at this
                    exact this
                  · cases es'
                · cases hh
            exact ⟨fun _ => h144 S1 s _ _ hes hs30 k1 hD1 (fun i hi => (hch i hi).1), fun z => absurd (fun w => nI_pos (n := s) (by omega) (by rw [show nI s = (-2) from w]; decide)) z⟩
          | none =>
            rw [hh] at hes
            dsimp only at hes
            have hfr : fre (dL R.1) R.2.1 n < 30 := fre_lt hLl (by omega)
            refine ⟨fun z => absurd rfl z, fun _ => ?_⟩
            have h67 : ∀ s, s ≤ fre (dL R.1) R.2.1 n → xWp (xT0, xSp xT0 (d + 7), none, m_Mo_install, post) 67 [some (.ref m), some (.int (nI t)), some (.int (aD B).2.2.2.2.1), some (.int (nI n)), some (.int (nI (10 * t + n))), some (.int (nI s)), u6] [] (yH Λ f0 S1) 0 0 := by
              refine loopUp ?_ ?_
              · have hfree := fstI_t (p := fun s => !(usL (dL R.1) s || chO R.2.1 n s)) (n := 30) hfr
                have hfree : (!(usL (dL R.1) (fre (dL R.1) R.2.1 n) || chO R.2.1 n (fre (dL R.1) R.2.1 n))) = true := hfree
                generalize hs : fre (dL R.1) R.2.1 n = s at *
                refine b_Mo_install_67 ⟨yex ho, Mo_isInList_sp hL hD1.2.2.2.1 hcR hlD (by omega) (xviI (brBn (fun r => ?_) (fun r => ⟨yex ho, Mo_isChosen_sp hL (by omega) (by omega) hch (xviI (brB (fun r2 => ⟨yex ho, Mo_mayWrite_sp hL (mDi_f hD1) (fun S2 D2 es k2 hf2 => xviI ⟨fun _ => ?_, fun z => absurd (by decide) z⟩) (fun es S2 k2 hf2 => xviI ⟨fun z => absurd rfl z, fun _ => ?_⟩)⟩) (fun r2 => ?_)))⟩)))⟩
                · rw [r, Bool.true_or] at hfree; exact absurd hfree (by decide)
                · rw [es] at hes
                  have hes : wrL fs (aD B) (n + 1) = (slD D2 s (fs.getD n fl0).2, updN R.2.1 n s, true) := hes
                  have hsc := spD_c es
                  have hD2 := mDi_w hD1 k2 hsc.2.2 hsc.1 hf2
                  have k2' := zX_tr k1 (zX_mo k2 (fun j z => show Jd j by unfold Jd; omega))
                  obtain ⟨-, b1, b2, b3⟩ := (hT1 k2').2.2 n hn
                  refine ygr ho rfl (ygr ho rfl (ygr ho rfl (yal (mk8 hL) (vp_in_nI (by omega) (by omega)) ?_)))
                  rw [nI_clamp (by omega), b1, n48, n48]
                  refine Mo_move_sp hW (mk7 hL) (mk37 hL) (rg_id b3) (by omega) (by omega) (by omega) (by omega) (Or.inl (by omega)) (xvvI (ygr ho rfl (ygr ho rfl (yal (mk8 hL) (vp_in_nI (by omega) (by omega)) (yas (mk38 hL) (yW_n hW (mk38 hL)) (vp_in_nI hfr (by omega)) ?_)))))
                  rw [nI_clamp (by omega), nI_clamp (by omega)]
                  have e8 : yA (ywA S2 11 37 m (va_cpy (yA S2 11 7 m) (yA S2 11 37 m) (48 * (10 * t + n)) (48 * s) (fs.getD n fl0).2.length)) 11 8 m (10 * t + n) = nI (fs.getD n fl0).2.length := by rw [yA_n _ _ (by omega)]; exact b1
                  rw [e8]
                  have k4 : zS m 3 (fun z => z = s) S2 (ywA S2 11 37 m (va_cpy (yA S2 11 7 m) (yA S2 11 37 m) (48 * (10 * t + n)) (48 * s) (fs.getD n fl0).2.length)) := zS_c (j := 37) (f := s) rfl rfl (by decide) (by show _ ≤ 48; omega)
                  have k5 := zS_tr k4 (zS_u (j := 38) (i := s) (v := nI (fs.getD n fl0).2.length) rfl (by show s / 1 = _; rw [Nat.div_one]))
                  have hnew : mSl (ywA (ywA S2 11 37 m (va_cpy (yA S2 11 7 m) (yA S2 11 37 m) (48 * (10 * t + n)) (48 * s) (fs.getD n fl0).2.length)) 11 38 m (upd (yA (ywA S2 11 37 m (va_cpy (yA S2 11 7 m) (yA S2 11 37 m) (48 * (10 * t + n)) (48 * s) (fs.getD n fl0).2.length)) 11 38 m) s (nI (fs.getD n fl0).2.length))) m s (some (fs.getD n fl0).2) := by
                    refine ⟨?_, b2, ?_⟩
                    · rw [yA_s, pk_us]
                    · rw [yA_n _ _ (by omega), yA_s]; exact rg_cpy b3 (Nat.le_refl _)
                  generalize ywA (ywA S2 11 37 m (va_cpy (yA S2 11 7 m) (yA S2 11 37 m) (48 * (10 * t + n)) (48 * s) (fs.getD n fl0).2.length)) 11 38 m (upd (yA (ywA S2 11 37 m (va_cpy (yA S2 11 7 m) (yA S2 11 37 m) (48 * (10 * t + n)) (48 * s) (fs.getD n fl0).2.length)) 11 38 m) s (nI (fs.getD n fl0).2.length)) = S3 at *
                  have k5x : zX m (fun j => 37 ≤ j ∧ j ≤ 38) S2 S3 := zX_S k5 (fun j hj => by
                    unfold grp at hj
                    split at hj
                    · omega
                    · split at hj
                      · omega
                      · split at hj
                        · omega
                        · split at hj <;> omega)
                  refine h144 S3 s _ _ hes hfr (zX_tr k2' (zX_mo k5x (fun j z => show Jd j by unfold Jd; omega))) ⟨fun z hz => ?_, fun i hi => mLi_S k5 rfl (hD2.2.1 i hi), ?_⟩ (fun i hi => ?_)
                  · show mSl S3 m z (if z = s then some (fs.getD n fl0).2 else D2.1 z)
                    by_cases w : z = s
                    · rw [if_pos w, w]; exact hnew
                    · rw [if_neg w]; exact mSl_z k5 (fun _ e => w e) (hD2.1 z hz)
                  · refine ⟨hf2.1, ?_, ?_, ?_, ?_⟩
                    · rw [(mX k5x (j := 43) (by omega)).1]; exact hf2.2.1
                    · rw [(mX k5x (j := 44) (by omega)).1]; exact hf2.2.2.1
                    · rw [(mX k5x (j := 45) (by omega)).1]; exact hf2.2.2.2.1
                    · rw [(mX k5x (j := 46) (by omega)).1]; exact hf2.2.2.2.2
                  · rw [(mX k5x (j := 47) (by omega)).2, (mX k2 (j := 47) (by omega)).2]; exact (hch i hi).1
                · rw [es] at hes
                  have hes : wrL fs (aD B) (n + 1) = (dnD R.1, R.2.1, false) := hes
                  have hf := hfail (by rw [hes])
                  rw [hes] at hf
                  rw [hf, if_neg (show ¬ false = true by decide)] at ewA
                  exact hfin (zX_tr k1 (zX_mo k2 (fun j z => show Jd j by unfold Jd; omega))) (mDi_w (D' := dnD _) hD1 k2 rfl rfl hf2) ewA
                · rw [r, r2] at hfree; exact absurd hfree (by decide)
              · intro s hs ih2
                have hused := fstI_f (p := fun s => !(usL (dL R.1) s || chO R.2.1 n s)) (n := 30) (i := s) hs
                have hused : (!(usL (dL R.1) s || chO R.2.1 n s)) = false := hused
                refine b_Mo_install_67 ⟨yex ho, Mo_isInList_sp hL hD1.2.2.2.1 hcR hlD (by omega) (xviI ?_)⟩
                rw [nI_1]
                refine brBn (fun r => ih2) (fun r => ⟨yex ho, Mo_isChosen_sp hL (by omega) (by omega) hch (xviI (brB (fun r2 => ?_) (fun r2 => ih2)))⟩)
                rw [r, r2] at hused
                exact absurd hused (by decide)
            exact h67 0 (Nat.zero_le _)
      exact hlo 0 (Nat.zero_le _) _ none none none rfl zX_rf hD (fun i hi => absurd hi (Nat.not_lt_zero _))
    · unfold wrA
      rw [if_pos q0]
  · rw [e1] at hp
    exact hp _ M0_Fr q'
end
