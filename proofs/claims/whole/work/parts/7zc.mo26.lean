/-! 7zc the other object: apply -/
theorem apX {α : Type} (l : List α) (x w : α) {i : Nat} (h : i < l.length + 1) : (l ++ [x]).getD i w = if i < l.length then l.getD i w else x := by
  rw [List.getD_eq_getElem?_getD, List.getD_eq_getElem?_getD]
  by_cases c : i < l.length
  · rw [if_pos c, List.getElem?_append_left c]
  · rw [if_neg c, show i = l.length by omega, List.getElem?_append_right (Nat.le_refl _), Nat.sub_self]
    rfl
theorem cntB_1 : ∀ n, cntB (fun _ => true) n = n
  | 0 => rfl
  | n + 1 => by rw [cntB_s, cntB_1 n]; rfl
section
variable {Λ : yL} {f0 : xH} {S S' S1 : yS} {m d t u f g p : Nat} {J : Nat → Prop} {v : Sv} {vs : List Sv} {fs gs : List Fl} {ts : List (List Fl)} {bs cs : List Nat} {B : Ab} {x y a b c e z : Int32} {G : Nat → Bool} {cl : List (Nat × Nat)} {post : Option Value → xH → Prop}
abbrev Jk (j : Nat) : Prop := (32 ≤ j ∧ j ≤ 34) ∨ scr j
theorem mQ_C (k : zX m Jk S S') (q : mQ Λ S m B) (h : mCo S' m cl) : mQ Λ S' m (wC B cl) := by
  obtain ⟨q0, q1, q2, q3, q4, q5, q6⟩ := q
  exact ⟨q0, mTa_x k (fun j _ _ => by unfold Jk scr; omega) q1, mHa_x k (fun j _ _ => by unfold Jk scr; omega) q2, mTs_x k (fun j _ _ => by unfold Jk scr; omega) q3, mPs_x k (fun j _ _ => by unfold Jk scr; omega) q4, h, mDi_x k (fun j _ _ => by unfold Jk scr; omega) q6⟩
theorem mTs_k (h : zT m ts.length S S') (h10 : yI S' 11 10 m = nI ts.length) (q : mTs S m ts) : mTs S' m ts := ⟨q.1, h10, fun t ht => mT_o h (by omega) (q.2.2 t ht)⟩
theorem M_apply (q : mQ Λ S m B) {st : Bool} (hok : ∀ t, t < (aT B).length → okT ((aT B).getD t [])) (hov : ∀ p, p < (aP B).length → ∀ i, i < ((aP B).getD p []).length → okV (((aP B).getD p []).getD i sv0)) (hdis : ∀ t p, t < (aT B).length → p < (aP B).length → ∀ G, (∀ i, i < ((aP B).getD p []).length → G i = true → rulA ((aP B).getD p []) ((aT B).getD t []) G (((aP B).getD p []).getD i sv0) = 0) → dis (alL ((aT B).getD t []) ((aP B).getD p []) G)) (hp : ∀ S', yFr (A11 m) S S' → mQ Λ S' m (a_apply B a b st).1 → post (some (.int (a_apply B a b st).2)) (yH Λ f0 S')) : xSp xT0 (d + 8) j_Mo_apply [.ref m, .int a, .int b, .int (bI st)] (yH Λ f0 S) post := by
  have hL := q.1
  have hW := hL.1
  have ho := hL.2.1
  have hl := q.2.2.2.1.1
  have hpl := q.2.2.2.2.1.1
  have q' := mQ_0 (x := 0) q
  unfold a_apply at hp
  refine xSp_of (M := m_Mo_apply) rfl (b_Mo_apply_0 (ypf ho rfl ⟨yex ho, Mo_noPatch_sp q' (fun p hpk e1 e2 => xviI ⟨fun z => absurd rfl z, fun _ => ⟨yex ho, Mo_noTree_sp q' (fun t ht e3 e4 => xviI ⟨fun _ => ygi ho rfl ?_, fun z => absurd rfl z⟩) (fun e3 => xviI ⟨fun z => absurd z (by decide), fun _ => ?_⟩)⟩⟩) (fun e1 => xviI ⟨fun _ => ?_, fun z => absurd (by decide) z⟩)⟩))
  · subst e1
    subst e3
    rw [e2] at hp
    dsimp only at hp
    rw [e4] at hp
    dsimp only at hp
    have i10 := q'.2.2.2.1.2.1
    rw [i10]
    refine brne (b := 12) (by omega) (by omega) (fun c12 => ypf ho rfl ?_) (fun c12 => ?_)
    · rw [if_pos (by omega)] at hp
      have hP0 := q'.2.2.2.2.1.2.2 p hpk
      have hT0 := q'.2.2.2.1.2.2 t ht
      have hokt := hok t ht
      have hovp := hov p hpk
      have hdis' := hdis t p ht hpk
      generalize hvs : (aP B).getD p [] = vs at *
      generalize hfs : (aT B).getD t [] = fs at *
      have hvl := hP0.1
      have hfl := hT0.1
      have kA : zX m (fun j => Jk j) S (ywI (ywI S 11 0 m 0) 11 34 m 0) := zX_tr (zX_wI (by unfold Jk scr; omega)) (zX_wI (by unfold Jk; omega))
      have e34 : yI (ywI (ywI S 11 0 m 0) 11 34 m 0) 11 34 m = nI 0 := ywI_s _ _ _ _ _
      generalize ywI (ywI S 11 0 m 0) 11 34 m 0 = SA at *
      -- the end
      have hfin : ∀ S1 G1 cl1, zX m Jk S S1 → mGo S1 m vs.length G1 → mCo S1 m cl1 → misA vs fs G1 = vs.length → (G1, cl1, 0) = runA vs fs st → ∀ (u5 : Option Value), xWp (xT0, xSp xT0 (d + 7), none, m_Mo_apply, post) 67 [some (.ref m), some (.int (nI p)), some (.int (nI t)), some (.int (bI st)), some (.int (nI vs.length)), u5] [] (yH Λ f0 S1) 0 0 := by
        intro S1 G1 cl1 k1 hG1 hC1 hm e u5
        have hP1 := mP_x k1 (fun j _ _ => by unfold Jk scr; omega) (q.2.2.2.2.1.2.2 p hpk)
        have hT1 := mT_x k1 (fun j _ _ => by unfold Jk scr; omega) (q.2.2.2.1.2.2 t ht)
        rw [hvs] at hP1
        rw [hfs] at hT1
        have i10' : yI S1 11 10 m = nI (aT B).length := by rw [(mX k1 (j := 10) (by unfold Jk scr; omega)).1]; exact q.2.2.2.1.2.1
        have hfit : ∀ i, i < vs.length → G1 i = true → rulA vs fs G1 (vs.getD i sv0) = 0 := fun i hi hg => by
          have := fstI_f (p := fun i => G1 i && decide (¬ rulA vs fs G1 (vs.getD i sv0) = 0)) (n := vs.length) (i := i) (by show i < misA vs fs G1; rw [hm]; exact hi)
          rw [hg, Bool.true_and] at this
          exact Classical.not_not.mp (of_decide_eq_false this)
        have hd := hdis' G1 hfit
        have e1 : (runA vs fs st).1 = G1 := by rw [← e]
        have e2 : (runA vs fs st).2.1 = cl1 := by rw [← e]
        have e3 : (runA vs fs st).2.2 = 0 := by rw [← e]
        unfold runR runT at hp
        rw [e1, e2, e3, if_pos rfl] at hp
        have hq1 := mQ_C k1 q hC1
        refine b_Mo_apply_67 (ygr ho rfl (yal (mk22 hL) (vp_in_nI (by omega) (by omega)) ?_))
        rw [nI_clamp (by omega), hP1.2.1]
        refine brle (by omega) (by omega) (fun _ => ⟨yex ho, Mo_makeTree_sp hL (by omega) (by omega) (by omega) (show t ≠ (aT B).length by omega) hP1 hT1 hG1 i10' hokt.1 hovp hfit (fun S2 k2 z2 h10 hnb hU => xviI ⟨fun _ => ygi ho rfl (ypf ho rfl (ygi ho rfl ?_)), fun z => absurd (by decide) z⟩) (fun S2 k2 z2 hn => xviI ⟨fun z => absurd rfl z, fun _ => ?_⟩)⟩) (fun w => by omega)
        · rcases bd2_end hokt hfl hd with ⟨r1, r2, r3⟩ | ⟨r1, r3⟩
          · rw [r3] at hp
            dsimp only at hp
            rw [if_pos rfl] at hp
            have i10'' : yI S2 11 10 m = nI (aT B).length := by rw [(mX k2 (j := 10) (by unfold Jm; omega)).1]; exact i10'
            rw [i10'', nI_1, ywI_s, nI_pred]
            have k3 : zX m (fun j => j = 10) S2 (ywI S2 11 10 m (nI ((aT B).length + 1))) := zX_wI rfl
            have k23 : zX m Jt S1 (ywI S2 11 10 m (nI ((aT B).length + 1))) := zX_tr (zX_mo k2 (fun j z => by unfold Jm at z; unfold Jt scr; omega)) (zX_mo k3 (fun j z => by unfold Jt; omega))
            exact hp _ (yFr_tr (zX_Fr k1) (zX_Fr k23)) (mQ_T k23 hq1 (mTs_add (zT_tr z2 (zT_x k3 (fun j _ _ => by omega))) (by omega) (ywI_s _ _ _ _ _) (mT_x k3 (fun j _ _ => by omega) hU) hq1.2.2.2.1))
          · exact absurd ⟨h10, hnb⟩ r1
        · rcases bd2_end hokt hfl hd with ⟨r1, r2, r3⟩ | ⟨r1, r3⟩
          · exact absurd ⟨r1, r2⟩ hn
          · rw [r3] at hp
            dsimp only at hp
            rw [if_neg (by decide)] at hp
            have k12 : zX m Jt S1 S2 := zX_mo k2 (fun j z => by unfold Jm at z; unfold Jt scr; omega)
            exact hp _ (yFr_tr (zX_Fr k1) (zX_Fr k12)) (mQ_T (ts := aT B) k12 hq1 (mTs_k z2 (by rw [(mX k2 (j := 10) (by unfold Jm; omega)).1]; exact i10') hq1.2.2.2.1))
      -- the run
      have hmle : ∀ G1, misA vs fs G1 ≤ vs.length := fun G1 => fstI_le _ _
      have hwalk : ∀ G1 cl1, (∀ S1 (u5 : Option Value), zX m Jk S S1 → mGo S1 m vs.length G1 → mCo S1 m cl1 → xWp (xT0, xSp xT0 (d + 7), none, m_Mo_apply, post) 67 [some (.ref m), some (.int (nI p)), some (.int (nI t)), some (.int (bI st)), some (.int (nI (misA vs fs G1))), u5] [] (yH Λ f0 S1) 0 0) → ∀ k, k ≤ misA vs fs G1 → (∀ S1 (u5 : Option Value), zX m Jk S S1 → mGo S1 m vs.length G1 → mCo S1 m cl1 → xWp (xT0, xSp xT0 (d + 7), none, m_Mo_apply, post) 67 [some (.ref m), some (.int (nI p)), some (.int (nI t)), some (.int (bI st)), some (.int (nI k)), u5] [] (yH Λ f0 S1) 0 0) := by
        intro G1 cl1 hend
        have hm := hmle G1
        refine loopUp hend ?_
        intro k hk ih S1 u5 k1 hG1 hC1
        have hP1 := mP_x k1 (fun j _ _ => by unfold Jk scr; omega) (q.2.2.2.2.1.2.2 p hpk)
        have hT1 := mT_x k1 (fun j _ _ => by unfold Jk scr; omega) (q.2.2.2.1.2.2 t ht)
        rw [hvs] at hP1
        rw [hfs] at hT1
        have hf := fstI_f (p := fun i => G1 i && decide (¬ rulA vs fs G1 (vs.getD i sv0) = 0)) (n := vs.length) (i := k) hk
        have hnx : ∀ S2 (u5 : Option Value), zX m Jk S S2 → mGo S2 m vs.length G1 → mCo S2 m cl1 → xWp (xT0, xSp xT0 (d + 7), none, m_Mo_apply, post) 100 [some (.ref m), some (.int (nI p)), some (.int (nI t)), some (.int (bI st)), some (.int (nI k)), u5] [.int 0] (yH Λ f0 S2) 0 0 := fun S2 u5 k2 hG2 hC2 => by
          refine b_Mo_apply_100 ⟨fun _ => ?_, fun w => absurd (Int32.le_refl _) w⟩
          rw [nI_1 k]
          exact ih S2 _ k2 hG2 hC2
        refine b_Mo_apply_67 (ygr ho rfl (yal (mk22 hL) (vp_in_nI (by omega) (by omega)) ?_))
        rw [nI_clamp (by omega), hP1.2.1]
        refine brle (by omega) (by omega) (fun w => by omega) (fun _ => ygr ho rfl (yal (mk31 hL) (vp_in_nI (by omega) (by omega)) ?_))
        rw [nI_clamp (by omega), hG1 k (by omega)]
        refine brB (fun e1 => hnx S1 _ k1 hG1 hC1) (fun e1 => ⟨yex ho, Mo_ruleOf_sp hL (by omega) (by omega) hP1 hT1 hG1 (by omega) (hovp k (by omega)) (fun S2 k2 => xviI ?_)⟩)
        rw [e1, Bool.true_and] at hf
        rw [Classical.not_not.mp (of_decide_eq_false hf)]
        exact hnx S2 _ (zX_tr k1 (zX_mo k2 (fun j z => by unfold Jk scr; omega))) (by unfold mGo; rw [(mX k2 (j := 31) (by omega)).2]; exact hG1) (mCo_x k2 (fun j _ _ => by omega) hC1)
      have hrn : ∀ n G1 cl1, cntB G1 vs.length ≤ n → cl1.length + cntB G1 vs.length ≤ 24 → ∀ S1, zX m Jk S S1 → mGo S1 m vs.length G1 → mCo S1 m cl1 → rnA vs fs st n G1 cl1 = runA vs fs st → ∀ (u5 : Option Value), xWp (xT0, xSp xT0 (d + 7), none, m_Mo_apply, post) 67 [some (.ref m), some (.int (nI p)), some (.int (nI t)), some (.int (bI st)), some (.int (nI 0)), u5] [] (yH Λ f0 S1) 0 0 := by
        intro n
        induction n with
        | zero =>
          intro G1 cl1 hc h24 S1 k1 hG1 hC1 e u5
          have hm : misA vs fs G1 = vs.length := by
            have h1 := hmle G1
            by_cases w : misA vs fs G1 < vs.length
            · have := cntB_t (misA_t w).1 _ w
              omega
            · omega
          refine hwalk G1 cl1 (fun S2 u5 k2 hG2 hC2 => ?_) 0 (Nat.zero_le _) S1 u5 k1 hG1 hC1
          have := hfin S2 G1 cl1 k2 hG2 hC2 hm e u5
          rw [hm]; exact this
        | succ n ihn =>
          intro G1 cl1 hc h24 S1 k1 hG1 hC1 e u5
          unfold rnA at e
          have hmv := hmle G1
          by_cases w : misA vs fs G1 < vs.length
          · rw [if_pos w] at e
            have hcs := cntB_t (misA_t w).1 _ w
            have hgm := (misA_t w).1
            have hrm := (misA_t w).2
            have hr4 := rulA_le vs fs G1 (vs.getD (misA vs fs G1) sv0)
            refine hwalk G1 cl1 (fun S2 u5 k2 hG2 hC2 => ?_) 0 (Nat.zero_le _) S1 u5 k1 hG1 hC1
            have hP1 := mP_x k2 (fun j _ _ => by unfold Jk scr; omega) (q.2.2.2.2.1.2.2 p hpk)
            have hT1 := mT_x k2 (fun j _ _ => by unfold Jk scr; omega) (q.2.2.2.1.2.2 t ht)
            rw [hvs] at hP1
            rw [hfs] at hT1
            refine b_Mo_apply_67 (ygr ho rfl (yal (mk22 hL) (vp_in_nI (by omega) (by omega)) ?_))
            rw [nI_clamp (by omega), hP1.2.1]
            refine brle (by omega) (by omega) (fun w => by omega) (fun _ => ygr ho rfl (yal (mk31 hL) (vp_in_nI (by omega) (by omega)) ?_))
            rw [nI_clamp (by omega), hG2 _ w]
            refine brB (fun e1 => absurd (hgm.symm.trans e1) (by decide)) (fun e1 => ⟨yex ho, Mo_ruleOf_sp hL (by omega) (by omega) hP1 hT1 hG2 w (hovp _ w) (fun S3 k3 => xviI ?_)⟩)
            have hG3 : mGo S3 m vs.length G1 := by unfold mGo; rw [(mX k3 (j := 31) (by omega)).2]; exact hG2
            have hC3 := mCo_x k3 (fun j _ _ => by omega) hC2
            have k3' : zX m Jk S S3 := zX_tr k2 (zX_mo k3 (fun j z => by unfold Jk scr; omega))
            generalize hr : rulA vs fs G1 (vs.getD (misA vs fs G1) sv0) = r at *
            generalize hM : misA vs fs G1 = M at *
            refine b_Mo_apply_100 (brle (b := 0) (by omega) (by omega) (fun z => absurd z (by omega)) (fun _ => ygr ho rfl (ygi ho rfl ?_)))
            rw [hC3.2.1, nI_1 M, nI_pred]
            have hcl := hC3.1
            refine yas (mk32 hL) (yW_n hW (mk32 hL)) (vp_in_nI (by omega) (by omega)) (ygr ho rfl (ygi ho rfl ?_))
            have e34' : yI (ywA S3 11 32 m (upd (yA S3 11 32 m) (nI cl1.length).toNatClampNeg (nI M))) 11 34 m = nI cl1.length := hC3.2.1
            rw [e34']
            refine yas (mk33 hL) (yW_n hW (mk33 hL)) (vp_in_nI (by omega) (by omega)) (ygi ho rfl (ypf ho rfl (ygr ho rfl (yas (mk31 hL) (yW_n hW (mk31 hL)) (vp_in_nI (by omega) (by omega)) ?_))))
            rw [nI_clamp (by omega), nI_clamp (by omega)]
            have hv7 : yI (ywA (ywA S3 11 32 m (upd (yA S3 11 32 m) cl1.length (nI M))) 11 33 m (upd (yA (ywA S3 11 32 m (upd (yA S3 11 32 m) cl1.length (nI M))) 11 33 m) cl1.length (nI r))) 11 34 m = nI cl1.length := hC3.2.1
            rw [hv7, nI_1]
            have hlen : (cl1 ++ [(M, r)]).length = cl1.length + 1 := by rw [List.length_append]; rfl
            have k4 : zX m Jk S3 (ywA (ywI (ywA (ywA S3 11 32 m (upd (yA S3 11 32 m) cl1.length (nI M))) 11 33 m (upd (yA (ywA S3 11 32 m (upd (yA S3 11 32 m) cl1.length (nI M))) 11 33 m) cl1.length (nI r))) 11 34 m (nI (cl1.length + 1))) 11 31 m (upd (yA (ywI (ywA (ywA S3 11 32 m (upd (yA S3 11 32 m) cl1.length (nI M))) 11 33 m (upd (yA (ywA S3 11 32 m (upd (yA S3 11 32 m) cl1.length (nI M))) 11 33 m) cl1.length (nI r))) 11 34 m (nI (cl1.length + 1))) 11 31 m) M 0)) := zX_tr (zX_tr (zX_tr (zX_wA (by unfold Jk; omega)) (zX_wA (by unfold Jk; omega))) (zX_wI (by unfold Jk; omega))) (zX_wA (by unfold Jk scr; omega))
            have hC4 : mCo (ywA (ywI (ywA (ywA S3 11 32 m (upd (yA S3 11 32 m) cl1.length (nI M))) 11 33 m (upd (yA (ywA S3 11 32 m (upd (yA S3 11 32 m) cl1.length (nI M))) 11 33 m) cl1.length (nI r))) 11 34 m (nI (cl1.length + 1))) 11 31 m (upd (yA (ywI (ywA (ywA S3 11 32 m (upd (yA S3 11 32 m) cl1.length (nI M))) 11 33 m (upd (yA (ywA S3 11 32 m (upd (yA S3 11 32 m) cl1.length (nI M))) 11 33 m) cl1.length (nI r))) 11 34 m (nI (cl1.length + 1))) 11 31 m) M 0)) m (cl1 ++ [(M, r)]) := by
              refine ⟨by omega, by rw [hlen]; exact ywI_s _ _ _ _ _, fun i hi => ?_⟩
              rw [hlen] at hi
              rw [apX _ _ _ hi]
              rw [yA_n _ _ (by omega), yA_n _ _ (by omega)]
              show yA (ywA (ywA S3 11 32 m _) 11 33 m _) 11 32 m i = _ ∧ yA (ywA (ywA S3 11 32 m _) 11 33 m _) 11 33 m i = _
              rw [yA_n _ _ (by omega), yA_s, yA_s]
              by_cases c : i < cl1.length
              · rw [if_pos c, pk_un (by omega), pk_un (by omega)]; exact hC3.2.2 i c
              · rw [if_neg c, show i = cl1.length by omega, pk_us, pk_us]; exact ⟨rfl, rfl⟩
            have hG4 : mGo (ywA (ywI (ywA (ywA S3 11 32 m (upd (yA S3 11 32 m) cl1.length (nI M))) 11 33 m (upd (yA (ywA S3 11 32 m (upd (yA S3 11 32 m) cl1.length (nI M))) 11 33 m) cl1.length (nI r))) 11 34 m (nI (cl1.length + 1))) 11 31 m (upd (yA (ywI (ywA (ywA S3 11 32 m (upd (yA S3 11 32 m) cl1.length (nI M))) 11 33 m (upd (yA (ywA S3 11 32 m (upd (yA S3 11 32 m) cl1.length (nI M))) 11 33 m) cl1.length (nI r))) 11 34 m (nI (cl1.length + 1))) 11 31 m) M 0)) m vs.length (setB G1 M) := fun i hi => by
              rw [yA_s]
              by_cases c : i = M
              · rw [c, pk_us]; show _ = bI (if M = M then false else G1 M); rw [if_pos rfl]; rfl
              · rw [pk_un c]; show _ = bI (if i = M then false else G1 i); rw [if_neg c]; exact hG3 i hi
            generalize ywA (ywI (ywA (ywA S3 11 32 m (upd (yA S3 11 32 m) cl1.length (nI M))) 11 33 m (upd (yA (ywA S3 11 32 m (upd (yA S3 11 32 m) cl1.length (nI M))) 11 33 m) cl1.length (nI r))) 11 34 m (nI (cl1.length + 1))) 11 31 m (upd (yA (ywI (ywA (ywA S3 11 32 m (upd (yA S3 11 32 m) cl1.length (nI M))) 11 33 m (upd (yA (ywA S3 11 32 m (upd (yA S3 11 32 m) cl1.length (nI M))) 11 33 m) cl1.length (nI r))) 11 34 m (nI (cl1.length + 1))) 11 31 m) M 0) = S4 at *
            refine brB (fun es => ?_) (fun es => ?_)
            · rw [if_neg (by rw [es]; decide)] at e
              exact ihn _ _ (by omega) (by omega) S4 (zX_tr k3' k4) hG4 hC4 e _
            · rw [if_pos es] at e
              have e2 : (runA vs fs st).2.1 = cl1 ++ [(M, r)] := by rw [← e]
              have e3 : (runA vs fs st).2.2 = r := by rw [← e]
              unfold runR at hp
              rw [e2, e3, if_neg hrm, if_neg hrm] at hp
              exact hp _ (zX_Fr (zX_tr k3' k4)) (mQ_C (zX_tr k3' k4) q hC4)
          · rw [if_neg w] at e
            have hm : misA vs fs G1 = vs.length := by omega
            refine hwalk G1 cl1 (fun S2 u5 k2 hG2 hC2 => ?_) 0 (Nat.zero_le _) S1 u5 k1 hG1 hC1
            have := hfin S2 G1 cl1 k2 hG2 hC2 hm e u5
            rw [hm]; exact this
      have hl43 : ∀ k, k ≤ 24 → (∀ S1 (u5 : Option Value), zX m Jk S S1 → mCo S1 m [] → (∀ i, i < k → yA S1 11 31 m i = 1) → xWp (xT0, xSp xT0 (d + 7), none, m_Mo_apply, post) 43 [some (.ref m), some (.int (nI p)), some (.int (nI t)), some (.int (bI st)), some (.int (nI k)), u5] [] (yH Λ f0 S1) 0 0) := by
        refine loopUp ?_ ?_
        · intro S1 u5 k1 hC1 h31
          refine b_Mo_apply_43 (brle (a := 24) (by omega) (by omega) (fun _ => ?_) (fun w => by omega))
          exact hrn vs.length (fun _ => true) [] (by rw [cntB_1]; omega) (by rw [cntB_1]; simpa using hvl) S1 k1 (fun i hi => h31 i (by omega)) hC1 rfl _
        · intro k hk ih S1 u5 k1 hC1 h31
          refine b_Mo_apply_43 (brle (a := 24) (by omega) (by omega) (fun w => by omega) (fun _ => ygr ho rfl (yas (mk31 hL) (yW_n hW (mk31 hL)) (vp_in_nI (by omega) (by omega)) ?_)))
          rw [nI_clamp (by omega), nI_1 k]
          have k2 : zX m Jk S1 (ywA S1 11 31 m (upd (yA S1 11 31 m) k 1)) := zX_wA (by unfold Jk scr; omega)
          refine ih _ _ (zX_tr k1 k2) ⟨hC1.1, hC1.2.1, fun i hi => absurd hi (Nat.not_lt_zero _)⟩ (fun i hi => ?_)
          rw [yA_s]
          by_cases w : i = k
          · rw [w, pk_us]
          · rw [pk_un w]; exact h31 i (by omega)
      exact hl43 0 (Nat.zero_le _) SA none kA ⟨Nat.zero_le _, e34, fun i hi => absurd hi (Nat.not_lt_zero _)⟩ (fun i hi => absurd hi (Nat.not_lt_zero _))
    · rw [if_neg (by omega)] at hp
      exact hp _ M0_Fr q'
  · subst e1
    rw [e2] at hp
    dsimp only at hp
    rw [e3] at hp
    exact hp _ M0_Fr q'
  · rw [e1] at hp
    exact hp _ M0_Fr q'
end
