/-! 7m the other object: open, install -/
theorem barT_f {fs : List Fl} {bs : List Nat} (h : ∀ i, i < fs.length → abvB (fs.getD i fl0).1 bs = false ∧ abvB bs (fs.getD i fl0).1 = false) : barT fs bs = false := by
  unfold barT
  rw [List.any_eq_false]
  intro q hq
  obtain ⟨i, hi, e⟩ := List.mem_iff_getElem.mp hq
  have := h i hi
  rw [List.getD_eq_getElem?_getD, List.getElem?_eq_getElem hi] at this
  rw [← e]
  have h1 : abvB (fs[i]).1 bs = false := this.1
  have h2 : abvB bs (fs[i]).1 = false := this.2
  rw [h1, h2]
  decide
theorem barT_g {fs : List Fl} {bs : List Nat} (h : barT fs bs = false) {i : Nat} (hi : i < fs.length) : abvB (fs.getD i fl0).1 bs = false ∧ abvB bs (fs.getD i fl0).1 = false := by
  unfold barT at h
  rw [List.any_eq_false] at h
  have := h (fs[i]) (List.getElem_mem hi)
  rw [List.getD_eq_getElem?_getD, List.getElem?_eq_getElem hi]
  show abvB (fs[i]).1 bs = false ∧ abvB bs (fs[i]).1 = false
  cases h1 : abvB (fs[i]).1 bs <;> cases h2 : abvB bs (fs[i]).1 <;> simp_all
theorem tkT_ins {gs : List Fl} {f : Fl} (h1 : ∀ i, i < gs.length → (gs.getD i fl0).1 ≠ f.1) (h2 : ∀ i, i < gs.length → abvB (gs.getD i fl0).1 f.1 = false ∧ abvB f.1 (gs.getD i fl0).1 = false) (h3 : gs.length < 10) : tkT gs f = some (insL gs (insP f.1 gs gs.length) f) := by
  have e : fnd gs f.1 = gs.length := fstI_eq (Nat.le_refl _) (fun i hi => decide_eq_false (h1 i hi)) (Or.inl rfl)
  unfold tkT
  rw [e, if_neg (Nat.lt_irrefl _), barT_f h2, if_neg (by decide), if_neg (by omega)]
theorem insL_mem {gs : List Fl} {i : Nat} {f : Fl} (hi : i ≤ gs.length) {j : Nat} (hj : j < gs.length + 1) : (insL gs i f).getD j fl0 = f ∨ ∃ k, k < gs.length ∧ (insL gs i f).getD j fl0 = gs.getD k fl0 := by
  rw [insL_at hi]
  by_cases c : j < i
  · rw [if_pos c]; exact Or.inr ⟨j, by omega, rfl⟩
  · rw [if_neg c]
    by_cases c2 : j = i
    · rw [if_pos c2]; exact Or.inl rfl
    · rw [if_neg c2]; exact Or.inr ⟨j - 1, by omega, rfl⟩
theorem rdN_ok {D : Dv} (hok : okD2 D) (hl : (dL D).length ≤ 10) : ∀ n, n ≤ (dL D).length → (rdN D n).length = n ∧ (∀ i, i < n → ∃ k, k < n ∧ ((rdN D n).getD i fl0).1 = ((dL D).getD k le0).1) ∧ (n < (dL D).length → rdN D (n + 1) = insL (rdN D n) (insP ((dL D).getD n le0).1 (rdN D n) (rdN D n).length) (((dL D).getD n le0).1, (D.1 ((dL D).getD n le0).2).getD [])) := by
  have hst : ∀ n, n < (dL D).length → (rdN D n).length = n → (∀ i, i < n → ∃ k, k < n ∧ ((rdN D n).getD i fl0).1 = ((dL D).getD k le0).1) → rdN D (n + 1) = insL (rdN D n) (insP ((dL D).getD n le0).1 (rdN D n) (rdN D n).length) (((dL D).getD n le0).1, (D.1 ((dL D).getD n le0).2).getD []) := by
    intro n hn h1 h2
    have es : rdN D (n + 1) = (tkT (rdN D n) (((dL D).getD n le0).1, (D.1 ((dL D).getD n le0).2).getD [])).getD (rdN D n) := by unfold rdN; rw [rgF]
    rw [es, tkT_ins (fun i hi => ?_) (fun i hi => ?_) (by omega)]
    · rfl
    · obtain ⟨k, hk, e⟩ := h2 i (by omega)
      rw [e]
      intro z
      have := hok.2.2.1 k n (by omega) hn z
      omega
    · obtain ⟨k, hk, e⟩ := h2 i (by omega)
      rw [e]
      exact ⟨hok.2.2.2 k n (by omega) hn, hok.2.2.2 n k hn (by omega)⟩
  intro n
  induction n with
  | zero => intro _; exact ⟨rfl, fun i hi => absurd hi (Nat.not_lt_zero _), fun h => hst 0 h rfl (fun i hi => absurd hi (Nat.not_lt_zero _))⟩
  | succ n ih =>
    intro hn
    obtain ⟨h1, h2, h3⟩ := ih (by omega)
    have e := h3 (by omega)
    have hle := insP_le ((dL D).getD n le0).1 (rdN D n) (rdN D n).length
    have hl1 : (rdN D (n + 1)).length = n + 1 := by rw [e, insL_len hle, h1]
    have hm : ∀ i, i < n + 1 → ∃ k, k < n + 1 ∧ ((rdN D (n + 1)).getD i fl0).1 = ((dL D).getD k le0).1 := by
      intro i hi
      rw [e]
      rcases insL_mem hle (j := i) (f := (((dL D).getD n le0).1, (D.1 ((dL D).getD n le0).2).getD [])) (by omega) with z | ⟨k, hk, z⟩
      · rw [z]; exact ⟨n, by omega, rfl⟩
      · rw [z]
        obtain ⟨k', hk', e'⟩ := h2 k (by omega)
        exact ⟨k', by omega, e'⟩
    exact ⟨hl1, hm, fun h => hst (n + 1) h hl1 hm⟩
section
variable {Λ : yL} {f0 : xH} {S S' S1 : yS} {m d t u f g : Nat} {J F : Nat → Prop} {fs gs : List Fl} {ts : List (List Fl)} {bs cs : List Nat} {B : Ab} {D D' : Dv} {ch : Nat → Nat} {x y a b c e z : Int32} {post : Option Value → xH → Prop}
theorem mDi_l (h : mDi S m D) : mLi S m D.2.2.1 (dL D) := h.2.1 _ h.2.2.1
theorem M_opn (q : mQ Λ S m B) (hok : okD2 (aD B)) (hp : ∀ S', yFr (A11 m) S S' → mQ Λ S' m (a_opn B).1 → post (some (.int (a_opn B).2)) (yH Λ f0 S')) : xSp xT0 (d + 8) j_Mo_open [.ref m] (yH Λ f0 S) post := by
  have hL := q.1
  have ho := hL.2.1
  have hl := q.2.2.2.1.1
  have q' := mQ_0 (x := 0) q
  have hD := q'.2.2.2.2.2.2
  have hc := hD.2.2.1
  have hlc := mDi_l hD
  have hll := hlc.1
  have e10 := q'.2.2.2.1.2.1
  unfold a_opn at hp
  refine xSp_of (M := m_Mo_open) rfl (b_Mo_open_0 (ypf ho rfl (ygi ho rfl ?_)))
  rw [e10]
  refine brne (b := 12) (by omega) (by omega) (fun c12 => ygr ho rfl (ygi ho rfl ?_)) (fun c12 => ?_)
  · rw [if_pos (by omega)] at hp
    rw [e10]
    refine yas (mk9 hL) (yW_n hL.1 (mk9 hL)) (vp_in_nI (by omega) (by omega)) ?_
    rw [nI_clamp (by omega)]
    have hlo : ∀ k, k ≤ (dL (aD B)).length → (∀ S1 (u2 u3 : Option Value), zX m Jt (ywI S 11 0 m 0) S1 → zT m (aT B).length (ywI S 11 0 m 0) S1 → mT S1 m (aT B).length (rdN (aD B) k) → yI S1 11 10 m = nI (aT B).length → xWp (xT0, xSp xT0 (d + 7), none, m_Mo_open, post) 29 [some (.ref m), some (.int (nI k)), u2, u3] [] (yH Λ f0 S1) 0 0) := by
      have hd1 : ∀ {S1}, zX m Jt (ywI S 11 0 m 0) S1 → mDi S1 m (aD B) := fun k1 => mDi_x k1 (fun j _ _ => by unfold Jt scr; omega) hD
      refine loopUp ?_ ?_
      · intro S1 u2 u3 k1 z1 hT1 i10
        have hD1 := hd1 k1
        refine b_Mo_open_29 (ygr ho rfl (ygi ho rfl ?_))
        rw [hD1.2.2.2.1]
        refine yal (mk42 hL) (vp_in_nI hc (by omega)) ?_
        rw [nI_clamp (by omega), (mDi_l hD1).2.1]
        refine brle (by omega) (by omega) (fun _ => ypf ho rfl (ypf ho rfl (ygi ho rfl (ypf ho rfl (ygi ho rfl ?_))))) (fun z => by omega)
        have i10' : yI (ywI (ywI S1 11 44 m (-1)) 11 45 m 0) 11 10 m = nI (aT B).length := by rw [ywI_ne _ _ (by omega), ywI_ne _ _ (by omega)]; exact i10
        rw [ywI_s, i10', nI_1, nI_pred]
        have k2 : zX m (fun j => j = 44 ∨ j = 45 ∨ j = 10) S1 (ywI (ywI (ywI S1 11 44 m (-1)) 11 45 m 0) 11 10 m (nI ((aT B).length + 1))) := zX_tr (zX_tr (zX_wI (Or.inl rfl)) (zX_wI (Or.inr (Or.inl rfl)))) (zX_wI (Or.inr (Or.inr rfl)))
        have k3 : zX m (fun j => Jt j ∨ j = 44 ∨ j = 45) S (ywI (ywI (ywI S1 11 44 m (-1)) 11 45 m 0) 11 10 m (nI ((aT B).length + 1))) := zX_tr (zX_tr (zX_wI (Or.inl (by unfold Jt scr; omega))) (zX_mo k1 (fun _ z => Or.inl z))) (zX_mo k2 (fun j z => by unfold Jt; omega))
        obtain ⟨q0, q1, q2, q3, q4, q5, q6⟩ := q
        refine hp _ (zX_Fr k3) ⟨q0, mTa_x k3 (fun j _ _ => by unfold Jt scr; omega) q1, mHa_x k3 (fun j _ _ => by unfold Jt scr; omega) q2, mTs_add (zT_tr z1 (zT_x k2 (fun j _ _ => by omega))) (by omega) (ywI_s _ _ _ _ _) (mT_x k2 (fun j _ _ => by omega) hT1) q'.2.2.2.1, mPs_x k3 (fun j _ _ => by unfold Jt scr; omega) q4, mCo_x k3 (fun j _ _ => by unfold Jt scr; omega) q5, ?_⟩
        refine ⟨fun s hs => mSl_x k2 (fun j _ _ => by omega) (hD1.1 s hs), fun i hi => mLi_x k2 (fun j _ _ => by omega) (hD1.2.1 i hi), hc, ?_, ?_, ?_, ?_⟩
        · rw [ywI_ne _ _ (by omega), ywI_ne _ _ (by omega), ywI_ne _ _ (by omega)]; exact hD1.2.2.2.1
        · rw [ywI_ne _ _ (by omega), ywI_ne _ _ (by omega), ywI_s]; rfl
        · rw [ywI_ne _ _ (by omega), ywI_s]; rfl
        · rw [ywI_ne _ _ (by omega), ywI_ne _ _ (by omega), ywI_ne _ _ (by omega)]; exact hD1.2.2.2.2.2.2
      · intro k hk ih S1 u2 u3 k1 z1 hT1 i10
        have hD1 := hd1 k1
        obtain ⟨r1, r2, r3⟩ := rdN_ok hok hll k (by omega)
        have r3 := r3 hk
        obtain ⟨l1, l2, l3, l4, l5⟩ := (mDi_l hD1).2.2 k hk
        refine b_Mo_open_29 (ygr ho rfl (ygi ho rfl ?_))
        rw [hD1.2.2.2.1]
        refine yal (mk42 hL) (vp_in_nI hc (by omega)) ?_
        rw [nI_clamp (by omega), (mDi_l hD1).2.1, nI_1]
        refine brle (by omega) (by omega) (fun z => by omega) (fun _ => ygi ho rfl ?_)
        rw [hD1.2.2.2.1, n10]
        refine ygr ho rfl (yal (mk41 hL) (vp_in_nI (by omega) (by omega)) (ygi ho rfl (ygr ho rfl (ygr ho rfl (yal (mk40 hL) (vp_in_nI (by omega) (by omega)) (ygr ho rfl (ygr ho rfl ?_)))))))
        rw [nI_clamp (by omega), l1, l4, i10, n18, n48]
        have hsl := hD1.1 _ l5
        have hso := hok.1 k hk
        cases hb : (aD B).1 ((dL (aD B)).getD k le0).2 with
        | none => rw [hb] at hso; cases hso
        | some b =>
          rw [hb] at hsl r3
          obtain ⟨s1, s2, s3⟩ := hsl
          refine yal (mk38 hL) (vp_in_nI l5 (by omega)) ?_
          rw [nI_clamp (by omega), s1]
          refine ⟨yex ho, Mo_addFile_sp hL (by omega) hT1 (by omega) (fun i hi => ?_) (hok.2.1 k hk) (mk39 hL) l3 (by omega) (by omega) l2 (fun z => absurd z (by decide)) (mk37 hL) s3 (by omega) (by omega) s2 (fun z => absurd z (by decide)) (fun S2 k2 hF2 h92 hT2 => xvvI ?_)⟩
          · obtain ⟨k', hk', e'⟩ := r2 i (by omega)
            rw [e']
            exact hok.2.1 k' (by omega)
          · refine ih S2 _ _ (zX_tr k1 (zX_mo k2 (fun j z => Or.inl (by rcases z with z | z; have := grp1 z; omega; omega)))) (zT_tr z1 ⟨hF2, h92⟩) ?_ (by rw [(mX k2 (j := 10) (fun z => by rcases z with z | z; have := grp1 z; omega; omega)).1]; exact i10)
            rw [r3]
            exact hT2
    refine hlo 0 (Nat.zero_le _) _ none none (zX_wA (by unfold Jt; omega)) zT_9 ⟨by show 0 ≤ 10; omega, by rw [yA_s, pk_us]; rfl, fun i hi => absurd hi (Nat.not_lt_zero _)⟩ e10
  · rw [if_neg (by omega)] at hp
    exact hp _ M0_Fr q'
/-- the first part of install: the state after n FILES -/
theorem wrL_c (fs : List Fl) (D : Dv) : ∀ n, (wrL fs D n).1.2.1 = D.2.1 ∧ (wrL fs D n).1.2.2.1 = D.2.2.1
  | 0 => ⟨rfl, rfl⟩
  | n + 1 => by
    have ih := wrL_c fs D n
    rw [wrL_s]
    split
    · unfold wrI
      split
      · exact ih
      · split
        · exact ih
        · next D1 e1 =>
          have := spD_c e1
          exact ⟨this.1.trans ih.1, this.2.1.trans ih.2⟩
    · exact ih
/-- what a LIST tells stays written -/
theorem wrI_ok {D : Dv} (h : okD2 D) {ch : Nat → Nat} {i : Nat} {f : Fl} : okD2 (wrI D ch i f).1 := by
  unfold wrI
  split
  · exact h
  · split
    · exact h
    · next D1 e1 =>
      have hc := spD_c e1
      have hdl : dL (slD D1 (fre (dL D) ch i) f.2) = dL D := by
        show D1.2.1 D1.2.2.1 = D.2.1 D.2.2.1
        rw [hc.1, hc.2.1]
      refine ⟨fun k hk => ?_, by rw [hdl]; exact h.2⟩
      rw [hdl] at hk ⊢
      show (if ((dL D).getD k le0).2 = fre (dL D) ch i then some f.2 else D1.1 ((dL D).getD k le0).2).isSome = true
      split
      · rfl
      · rw [hc.2.2]; exact h.1 k hk
theorem wrL_ok {fs : List Fl} {D : Dv} (h : okD2 D) : ∀ n, okD2 (wrL fs D n).1
  | 0 => h
  | n + 1 => by
    rw [wrL_s]
    split
    · exact wrI_ok (wrL_ok h n)
    · exact wrL_ok h n
end
