/-! 7f the other object: a FILE into a TREE; frames -/
def zX (m : Nat) (J : Nat → Prop) (S S' : yS) : Prop := ∀ c j a, ¬ (c = 11 ∧ a = m ∧ J j) → yI S' c j a = yI S c j a ∧ yA S' c j a = yA S c j a ∧ yR S' c j a = yR S c j a
theorem zX_rf {m : Nat} {J : Nat → Prop} {S : yS} : zX m J S S := fun _ _ _ _ => ⟨rfl, rfl, rfl⟩
theorem zX_tr {m : Nat} {J : Nat → Prop} {S S1 S2 : yS} (h1 : zX m J S S1) (h2 : zX m J S1 S2) : zX m J S S2 := fun c j a q => by
  obtain ⟨a1, a2, a3⟩ := h1 c j a q
  obtain ⟨b1, b2, b3⟩ := h2 c j a q
  exact ⟨b1.trans a1, b2.trans a2, b3.trans a3⟩
theorem zX_mo {m : Nat} {J J' : Nat → Prop} {S S1 : yS} (h1 : zX m J S S1) (h : ∀ j, J j → J' j) : zX m J' S S1 := fun c j a q => h1 c j a (fun z => q ⟨z.1, z.2.1, h j z.2.2⟩)
theorem zX_wI {m j : Nat} {J : Nat → Prop} {S : yS} {v : Int32} (h : J j) : zX m J S (ywI S 11 j m v) := fun c k a q => ⟨ywI_ne _ _ (fun z => q ⟨z.1, z.2.2, by rw [z.2.1]; exact h⟩), rfl, rfl⟩
theorem zX_wA {m j : Nat} {J : Nat → Prop} {S : yS} {v : Nat → Int32} (h : J j) : zX m J S (ywA S 11 j m v) := fun c k a q => ⟨rfl, yA_n _ _ (fun z => q ⟨z.1, z.2.2, by rw [z.2.1]; exact h⟩), rfl⟩
theorem zX_S {m g : Nat} {F J : Nat → Prop} {S S' : yS} (h : zS m g F S S') (hJ : ∀ j, grp j = g → J j) : zX m J S S' := fun c j a q => ⟨(h.1 c j a).1, h.2.1 c j a (fun z => q ⟨z.1, z.2.1, hJ j z.2.2⟩), (h.1 c j a).2⟩
abbrev A11 (m : Nat) : Nat → Nat → Prop := fun c a => c = 11 ∧ a = m
theorem zX_Fr {m : Nat} {J : Nat → Prop} {S S' : yS} (h : zX m J S S') : yFr (A11 m) S S' := fun c j a q => h c j a (fun z => q ⟨z.1, z.2.1⟩)
/-- the places of a TREE -/
abbrev Ft (t : Nat) : Nat → Prop := fun i => 10 * t ≤ i ∧ i < 10 * t + 10
section
variable {Λ : yL} {f0 : xH} {S S' : yS} {m d t f g : Nat} {fl ql : Fl} {fs : List Fl} {bs cs : List Nat} {post : Option Value → xH → Prop}
theorem rg_z {F : Nat → Prop} {j p : Nat} (k : zS m g F S S') (hx : grp j = g → ∀ k, k < bs.length → ¬ F ((p + k) / wid j)) (h : rg (yA S 11 j m) p bs) : rg (yA S' 11 j m) p bs := by
  by_cases e : grp j = g
  · exact rg_e h (fun i hi => k.2.2 j _ e (hx e i hi))
  · rw [k.2.1 11 j m (fun z => e z.2.2)]; exact h
theorem Mo_addFile_sp (hL : mLay Λ m) (ht : t < 13) (hT : mT S m t fs) (hlt : fs.length < 10) (hok : ∀ i, i < fs.length → okP (fs.getD i fl0).1) (hob : okP bs) {r j n p : Nat} (hr : yn Λ r 11 j m 2 n) (hg : rg (yA S 11 j m) p bs) (hb : p + bs.length ≤ n) (hn : n < 2 ^ 30) (hb17 : bs.length ≤ 17) (hx : grp j = 1 → ∀ k, k < bs.length → ¬ Ft t ((p + k) / wid j)) {r2 j2 n2 p2 : Nat} (hr2 : yn Λ r2 11 j2 m 2 n2) (hg2 : rg (yA S 11 j2 m) p2 cs) (hb2 : p2 + cs.length ≤ n2) (hn2 : n2 < 2 ^ 30) (hc48 : cs.length ≤ 48) (hx2 : grp j2 = 1 → ∀ k, k < cs.length → ¬ Ft t ((p2 + k) / wid j2)) (hp : ∀ S', zX m (fun j => grp j = 1 ∨ j = 9) S S' → (∀ f q, ¬ Ft t f → mF S m f q → mF S' m f q) → (∀ t', t' ≠ t → yA S' 11 9 m t' = yA S 11 9 m t') → mT S' m t (insL fs (insP bs fs fs.length) (bs, cs)) → post none (yH Λ f0 S')) : xSp xT0 (d + 3) j_Mo_addFile [.ref m, .int (nI t), .ref r, .int (nI p), .int (nI bs.length), .ref r2, .int (nI p2), .int (nI cs.length)] (yH Λ f0 S) post := by
  have hW := hL.1
  have ho := hL.2.1
  have h75 : ∀ i, i ≤ fs.length → insP bs fs fs.length = i → ∀ S1 (u9 : Option Value), zS m 1 (Ft t) S S1 → (∀ k, k < i → mF S1 m (10 * t + k) (fs.getD k fl0)) → (∀ k, i < k → k ≤ fs.length → mF S1 m (10 * t + k) (fs.getD (k - 1) fl0)) → xWp (xT0, xSp xT0 (d + 2), none, m_Mo_addFile, post) 75 [some (.ref m), some (.int (nI t)), some (.ref r), some (.int (nI p)), some (.int (nI bs.length)), some (.ref r2), some (.int (nI p2)), some (.int (nI cs.length)), some (.int (nI i)), u9] [] (yH Λ f0 S1) 0 0 := by
    intro i hi ei S1 u9 k1 hlo hup
    have hF : Ft t (10 * t + i) := ⟨by omega, by omega⟩
    have hg1 := rg_z k1 hx hg
    refine b_Mo_addFile_75 (Mo_at_sp (xviI (ygr ho rfl ?_)))
    rw [n18, n48]
    refine Mo_move_sp hW hr (mk5 hL) (rg_id hg1) hb (by omega) hn (by omega) ?_ (xvvI (ygr ho rfl (yas (mk6 hL) (yW_n hW (mk6 hL)) (vp_in_nI (by omega) (by omega)) (ygr ho rfl ?_))))
    · by_cases e : j = 5
      · subst e
        refine Or.inr ?_
        rcases Nat.eq_zero_or_pos bs.length with z | z
        · omega
        · have hh : ∀ k, k < bs.length → ¬ (10 * t ≤ (p + k) / 18 ∧ (p + k) / 18 < 10 * t + 10) := hx rfl
          have h1 := hh 0 z
          have h2 := hh (bs.length - 1) (by omega)
          have h3 : ∀ k, k < bs.length → (p + k) / 18 ≠ 10 * t + i := fun k hk e => hh k hk (by omega)
          rcases Nat.lt_or_ge (p + bs.length - 1) (18 * (10 * t + i)) with w | w
          · omega
          · rcases Nat.lt_or_ge p (18 * (10 * t + i) + bs.length) with w2 | w2
            · exfalso
              rcases Nat.lt_or_ge p (18 * (10 * t + i)) with w3 | w3
              · exact h3 (18 * (10 * t + i) - p) (by omega) (by omega)
              · exact h3 0 z (by omega)
            · omega
      · exact Or.inl (fun z => e z.2.1)
    · rw [nI_clamp (by omega)]
      have k2 : zS m 1 (Ft t) S1 (ywA S1 11 5 m (va_cpy (yA S1 11 j m) (yA S1 11 5 m) p (18 * (10 * t + i)) bs.length)) := zS_c (j := 5) (f := 10 * t + i) rfl hF (by decide) (by show _ ≤ 18; omega)
      have k3 := zS_tr (zS_tr k1 k2) (zS_u (j := 6) (i := 10 * t + i) (v := nI bs.length) rfl (by show Ft t ((10 * t + i) / 1); rw [Nat.div_one]; exact hF))
      have hpa : yA (ywA (ywA S1 11 5 m (va_cpy (yA S1 11 j m) (yA S1 11 5 m) p (18 * (10 * t + i)) bs.length)) 11 6 m (upd (yA (ywA S1 11 5 m (va_cpy (yA S1 11 j m) (yA S1 11 5 m) p (18 * (10 * t + i)) bs.length)) 11 6 m) (10 * t + i) (nI bs.length))) 11 6 m (10 * t + i) = nI bs.length := by rw [yA_s, pk_us]
      have hpb : rg (yA (ywA (ywA S1 11 5 m (va_cpy (yA S1 11 j m) (yA S1 11 5 m) p (18 * (10 * t + i)) bs.length)) 11 6 m (upd (yA (ywA S1 11 5 m (va_cpy (yA S1 11 j m) (yA S1 11 5 m) p (18 * (10 * t + i)) bs.length)) 11 6 m) (10 * t + i) (nI bs.length))) 11 5 m) (18 * (10 * t + i)) bs := by
        rw [yA_n _ _ (by omega), yA_s]
        exact rg_cpy hg1 (Nat.le_refl _)
      have k23 : zS m 1 (fun z => z = 10 * t + i) S1 (ywA (ywA S1 11 5 m (va_cpy (yA S1 11 j m) (yA S1 11 5 m) p (18 * (10 * t + i)) bs.length)) 11 6 m (upd (yA (ywA S1 11 5 m (va_cpy (yA S1 11 j m) (yA S1 11 5 m) p (18 * (10 * t + i)) bs.length)) 11 6 m) (10 * t + i) (nI bs.length))) := zS_tr (zS_c (j := 5) (f := 10 * t + i) rfl rfl (by decide) (by show _ ≤ 18; omega)) (zS_u (j := 6) rfl (by show (10 * t + i) / 1 = _; rw [Nat.div_one]))
      generalize ywA (ywA S1 11 5 m (va_cpy (yA S1 11 j m) (yA S1 11 5 m) p (18 * (10 * t + i)) bs.length)) 11 6 m (upd (yA (ywA S1 11 5 m (va_cpy (yA S1 11 j m) (yA S1 11 5 m) p (18 * (10 * t + i)) bs.length)) 11 6 m) (10 * t + i) (nI bs.length)) = S3 at *
      have hg3 := rg_z k3 hx2 hg2
      refine Mo_move_sp hW hr2 (mk7 hL) (rg_id hg3) hb2 (by omega) hn2 (by omega) ?_ (xvvI (ygr ho rfl (yas (mk8 hL) (yW_n hW (mk8 hL)) (vp_in_nI (by omega) (by omega)) (ygr ho rfl (yal (mk9 hL) (vp_in_nI ht (by omega)) (yas (mk9 hL) (yW_n hW (mk9 hL)) (vp_in_nI ht (by omega)) ?_))))))
      · by_cases e : j2 = 7
        · subst e
          refine Or.inr ?_
          rcases Nat.eq_zero_or_pos cs.length with z | z
          · omega
          · have hh : ∀ k, k < cs.length → ¬ (10 * t ≤ (p2 + k) / 48 ∧ (p2 + k) / 48 < 10 * t + 10) := hx2 rfl
            have h3 : ∀ k, k < cs.length → (p2 + k) / 48 ≠ 10 * t + i := fun k hk e => hh k hk (by omega)
            rcases Nat.lt_or_ge (p2 + cs.length - 1) (48 * (10 * t + i)) with w | w
            · omega
            · rcases Nat.lt_or_ge p2 (48 * (10 * t + i) + cs.length) with w2 | w2
              · exfalso
                rcases Nat.lt_or_ge p2 (48 * (10 * t + i)) with w3 | w3
                · exact h3 (48 * (10 * t + i) - p2) (by omega) (by omega)
                · exact h3 0 z (by omega)
              · omega
        · exact Or.inl (fun z => e z.2.1)
      · rw [nI_clamp (by omega), nI_clamp (by omega)]
        have k4 : zS m 1 (fun z => z = 10 * t + i) S3 (ywA S3 11 7 m (va_cpy (yA S3 11 j2 m) (yA S3 11 7 m) p2 (48 * (10 * t + i)) cs.length)) := zS_c (j := 7) (f := 10 * t + i) rfl rfl (by decide) (by show _ ≤ 48; omega)
        have k5 := zS_tr k4 (zS_u (j := 8) (i := 10 * t + i) (v := nI cs.length) rfl (by show (10 * t + i) / 1 = _; rw [Nat.div_one]))
        have hnew : mF (ywA (ywA S3 11 7 m (va_cpy (yA S3 11 j2 m) (yA S3 11 7 m) p2 (48 * (10 * t + i)) cs.length)) 11 8 m (upd (yA (ywA S3 11 7 m (va_cpy (yA S3 11 j2 m) (yA S3 11 7 m) p2 (48 * (10 * t + i)) cs.length)) 11 8 m) (10 * t + i) (nI cs.length))) m (10 * t + i) (bs, cs) := by
          refine ⟨⟨?_, hb17, ?_⟩, ?_, hc48, ?_⟩
          · rw [yA_n _ _ (by omega), yA_n _ _ (by omega)]; exact hpa
          · rw [yA_n _ _ (by omega), yA_n _ _ (by omega)]; exact hpb
          · rw [yA_s, pk_us]
          · rw [yA_n _ _ (by omega), yA_s]; exact rg_cpy hg3 (Nat.le_refl _)
        generalize ywA (ywA S3 11 7 m (va_cpy (yA S3 11 j2 m) (yA S3 11 7 m) p2 (48 * (10 * t + i)) cs.length)) 11 8 m (upd (yA (ywA S3 11 7 m (va_cpy (yA S3 11 j2 m) (yA S3 11 7 m) p2 (48 * (10 * t + i)) cs.length)) 11 8 m) (10 * t + i) (nI cs.length)) = S5 at *
        have k15 : zS m 1 (fun z => z = 10 * t + i) S1 S5 := zS_tr k23 k5
        have k05 : zS m 1 (Ft t) S S5 := zS_tr k1 (zS_mo k15 (fun z e => by rw [show z = 10 * t + i from e]; exact hF))
        have e9 : yA S5 11 9 m = yA S 11 9 m := k05.2.1 11 9 m (fun z => absurd z.2.2 (by decide))
        rw [e9, hT.2.1, nI_1]
        have hFf : ∀ {f q}, mF S5 m f q → mF (ywA S5 11 9 m (upd (yA S 11 9 m) t (nI (fs.length + 1)))) m f q := fun h => by
          unfold mF
          rw [yA_n _ _ (by omega), yA_n _ _ (by omega), yA_n _ _ (by omega), yA_n _ _ (by omega)]
          exact h
        refine hp _ (zX_tr (zX_S k05 (fun _ h => Or.inl h)) (zX_wA (Or.inr rfl))) (fun f q hf hq => hFf (mF_z k05 (fun _ => hf) hq)) (fun t' h' => by rw [yA_s, pk_un h']) ⟨?_, ?_, fun k hk => ?_⟩
        · rw [insL_len (by omega)]; omega
        · rw [yA_s, pk_us, insL_len (by omega)]
        · rw [insL_len (by omega)] at hk
          rw [ei, insL_at hi]
          refine hFf ?_
          by_cases c1 : k < i
          · rw [if_pos c1]
            exact mF_z k15 (fun _ e => by omega) (hlo k c1)
          · rw [if_neg c1]
            by_cases c2 : k = i
            · rw [if_pos c2, c2]; exact hnew
            · rw [if_neg c2]
              exact mF_z k15 (fun _ e => by omega) (hup k (by omega) (by omega))
  have h8 : ∀ i, i ≤ fs.length → insP bs fs fs.length = insP bs fs i → ∀ S1 (u9 : Option Value), zS m 1 (Ft t) S S1 → (∀ k, k < i → mF S1 m (10 * t + k) (fs.getD k fl0)) → (∀ k, i < k → k ≤ fs.length → mF S1 m (10 * t + k) (fs.getD (k - 1) fl0)) → xWp (xT0, xSp xT0 (d + 2), none, m_Mo_addFile, post) 8 [some (.ref m), some (.int (nI t)), some (.ref r), some (.int (nI p)), some (.int (nI bs.length)), some (.ref r2), some (.int (nI p2)), some (.int (nI cs.length)), some (.int (nI i)), u9] [] (yH Λ f0 S1) 0 0 := by
    intro i
    induction i with
    | zero =>
      intro hi ei S1 u9 k1 hlo hup
      exact b_Mo_addFile_8 (brle (b := 0) (by omega) (by omega) (fun _ => h75 0 hi ei S1 u9 k1 hlo hup) (fun c => by omega))
    | succ i ih =>
      intro hi ei S1 u9 k1 hlo hup
      obtain ⟨⟨a1, a2, a3⟩, -⟩ := hlo i (by omega)
      rw [insP_s] at ei
      refine b_Mo_addFile_8 (brle (b := 0) (by omega) (by omega) (fun c => by omega) (fun _ => ygr ho rfl ?_))
      rw [nI_pred]
      refine Mo_at_sp (xviI (ygr ho rfl (Mo_at_sp (xviI (yal (mk6 hL) (vp_in_nI (by omega) (by omega)) ?_)))))
      rw [nI_clamp (by omega), a1, n18]
      refine Mo_order_sp (mk5 hL) hr a3 (rg_z k1 hx hg) (by omega) hb (by omega) hn (xviI ?_)
      have hop := ordM_p (hok i (by omega)) hob
      by_cases c : ordV bs (fs.getD i fl0).1 < 0
      · rw [if_pos c] at ei
        have c1 := hop.mpr c
        refine ⟨fun z => absurd (Int32.lt_of_lt_of_le c1 z) Int32.lt_irrefl, fun _ => Mo_at_sp (xviI (Mo_at_sp (xviI ⟨yex ho, Mo_moveFile_sp hL (by omega) (by omega) (by omega) (hlo i (by omega)) (fun S2 k2 hq2 => xvvI ?_)⟩)))⟩
        rw [pk_m1]
        refine ih (by omega) ei S2 u9 (zS_tr k1 (zS_mo k2 (fun z e => by rw [show z = 10 * t + (i + 1) from e]; exact ⟨by omega, by omega⟩))) (fun k hk => mF_z k2 (fun _ e => by omega) (hlo k (by omega))) (fun k h1 h2 => ?_)
        by_cases e : k = i + 1
        · rw [e]; exact hq2
        · exact mF_z k2 (fun _ e => by omega) (hup k (by omega) h2)
      · rw [if_neg c] at ei
        refine ⟨fun _ => h75 (i + 1) hi ei S1 u9 k1 hlo hup, fun z => absurd ?_ z⟩
        have c1 : ¬ 0 < ordM (fs.getD i fl0).1 bs := fun z => c (hop.mp z)
        exact Int32.not_lt.mp c1
  refine xSp_of (M := m_Mo_addFile) rfl (b_Mo_addFile_0 (ygr ho rfl (yal (mk9 hL) (vp_in_nI ht (by omega)) ?_)))
  rw [nI_clamp (by omega), hT.2.1]
  exact h8 fs.length (Nat.le_refl _) rfl S none zS_rf hT.2.2 (fun k h1 h2 => by omega)
end
