/-! 65 Weaver: tellChosen, weave -/
abbrev A3 (o : Nat) : Nat → Nat → Prop := fun c a => c = 3 ∧ a = o
abbrev A36 (o : Nat) : Nat → Nat → Prop := fun c a => c = 6 ∨ (c = 3 ∧ a = o)
section
variable {Λ : yL} {f0 : xH} {S S' : yS} {w a b o cap capx capy d : Nat} {R C L P : Nat → Int32} {xs ys suf : List Nat} {zs : List Int32} {x : Int32} {post : Option Value → xH → Prop}
theorem yWv_D {g : Nat → Int32} {n : Int32} (h : yWv S w R C L P) : yWv (yDw S o g n) w R C L P :=
  ⟨(by rw [yDw_A, if_neg (by omega)]; exact h.1), (by rw [yDw_A, if_neg (by omega)]; exact h.2.1), (by rw [yDw_A, if_neg (by omega)]; exact h.2.2.1), (by rw [yDw_A, if_neg (by omega)]; exact h.2.2.2)⟩
theorem wvG_0 (xs : List Nat) (p y : Nat) (r : List Nat) : wvG xs 0 p (y :: r) = if cl xs (y :: r) = 0 then (nI y ^^^ (-1)) :: wvG xs 0 (cp xs (y :: r)) r else nI (cp xs (y :: r)) :: wvG xs (cl xs (y :: r) - 1) (cp xs (y :: r) + 1) r := by
  conv => lhs; unfold wvG
theorem wvG_s (xs : List Nat) (c p y : Nat) (r : List Nat) : wvG xs (c + 1) p (y :: r) = nI p :: wvG xs c (p + 1) r := rfl
theorem We_tellChosen_sp (hW : yW Λ) (hw : yWe Λ w) (hv : yWv S w R C L P) (hY : yB Λ a capy) (hy : yBv S a capy ys) (hyl : ys.length ≤ 48) (hO : yD Λ o) (hL : ∀ j, j < ys.length → L j = nI (cl xs (ys.drop j)) ∧ P j = nI (cp xs (ys.drop j))) (h : ∀ S', yFr (A3 o) S S' → yDv S' o (wv xs ys) → post none (yH Λ f0 S')) : xSp xT0 (d + 3) j_We_tellChosen [.ref w, .ref a, .int (nI ys.length), .ref o] (yH Λ f0 S) post := by
  refine xSp_of (M := m_We_tellChosen) rfl (b_We_tellChosen_0 ⟨yex hO.1, De_empty_sp hO ?_⟩)
  show xWp _ _ _ _ _ _ _
  have hcl : ∀ j, cl xs (ys.drop j) ≤ 48 := fun j => Nat.le_trans (cl_b _ _) (by rw [List.length_drop]; omega)
  have hl : ∀ j, j ≤ ys.length → (∀ S1 c p ds, c ≤ 48 → yFr (A3 o) S S1 → yWv S1 w R C L P → yDv S1 o ds → ds.length = j → ds ++ wvG xs c p (ys.drop j) = wv xs ys → xWp (xT0, xSp xT0 (d + 2), none, m_We_tellChosen, post) 13 [some (.ref w), some (.ref a), some (.int (nI ys.length)), some (.ref o), some (.int (nI c)), some (.int (nI p)), some (.int (nI j))] [] (yH Λ f0 S1) 0 0) := by
    refine loopUp ?_ ?_
    · intro S1 c p ds hc k1 v1 d1 hd he
      refine b_We_tellChosen_13 (brle (by omega) (by omega) (fun _ => h S1 k1 ?_) (fun q => absurd q (by omega)))
      rw [List.drop_of_length_le (Nat.le_refl _)] at he
      have : wvG xs c p [] = [] := by cases c <;> rfl
      rw [this, List.append_nil] at he
      rw [← he]
      exact d1
    · intro j hj ih S1 c p ds hc k1 v1 d1 hd he
      have hyb := hy.2.2 j hj
      rw [dropG hj] at he
      have h42 : ∀ c p, c ≤ 48 → ds ++ (if c = 0 then (nI (ys.getD j 0) ^^^ (-1)) :: wvG xs 0 p (ys.drop (j + 1)) else nI p :: wvG xs (c - 1) (p + 1) (ys.drop (j + 1))) = wv xs ys → xWp (xT0, xSp xT0 (d + 2), none, m_We_tellChosen, post) 42 [some (.ref w), some (.ref a), some (.int (nI ys.length)), some (.ref o), some (.int (nI c)), some (.int (nI p)), some (.int (nI j))] [] (yH Λ f0 S1) 0 0 := by
        intro c p hc he
        refine b_We_tellChosen_42 (brne (b := 0) (by omega) (by omega) (fun q => ?_) (fun q => ?_))
        · rw [if_neg q] at he
          obtain ⟨c', rfl⟩ : ∃ c', c = c' + 1 := ⟨c - 1, by omega⟩
          refine ⟨yex hO.1, De_addPlace_sp hW hO d1 (by omega) (fun g v hg => ?_)⟩
          show xWp _ _ _ _ _ _ _
          rw [pk_m1, nI_1, nI_1]
          refine ih _ c' (p + 1) _ (by omega) (yFr_tr k1 (yFr_Dw ⟨rfl, rfl⟩)) (yWv_D v1) hg (by simp [hd]) ?_
          rw [List.append_assoc]
          exact he
        · subst q
          rw [if_pos rfl] at he
          refine ⟨yex hY.1, By_at_sp hY (yFr_Bv k1 (fun z => absurd z.1 (by decide)) hy) (fun i hi e => ?_) (fun q => ?_)⟩
          · have e : j = i := (nI_eq (by omega) (by omega)).mp e
            subst e
            refine ⟨yex hO.1, De_addTold_sp hW hO d1 (by omega) (fun g v hg => ?_)⟩
            show xWp _ _ _ _ _ _ _
            rw [nI_1]
            refine ih _ 0 p _ (by omega) (yFr_tr k1 (yFr_Dw ⟨rfl, rfl⟩)) (yWv_D v1) hg (by simp [hd]) ?_
            rw [List.append_assoc]
            exact he
          · exact absurd q (by
              intro q
              rcases q with q | q
              · exact nI_pos (by omega) q
              · exact absurd ((leI (by omega) (by omega)).mp q) (by omega))
      refine b_We_tellChosen_13 (brle (by omega) (by omega) (fun q => absurd q (by omega)) (fun _ => brne (b := 0) (by omega) (by omega) (fun q => ?_) (fun q => ?_)))
      · refine h42 c p hc ?_
        rw [if_neg q]
        obtain ⟨c', rfl⟩ : ∃ c', c = c' + 1 := ⟨c - 1, by omega⟩
        exact he
      · subst q
        refine ygr hw.1 rfl (yal hw.2.2.2.1 (vp_in_nI (by omega) (by omega)) (ygr hw.1 rfl (yal hw.2.2.2.2 (vp_in_nI (by omega) (by omega)) ?_)))
        rw [nI_clamp (by omega), v1.2.2.1, v1.2.2.2, (hL j hj).1, (hL j hj).2]
        refine h42 _ _ (hcl j) ?_
        rw [wvG_0, ← dropG hj] at he
        exact he
  exact hl 0 (Nat.zero_le _) _ 0 0 [] (by omega) (yFr_wI ⟨rfl, rfl⟩) hv yDv_e rfl rfl
theorem We_weave_sp (hW : yW Λ) (hw : yWe Λ w) (hX : yB Λ b capx) (hx : yBv S b capx xs) (hxl : xs.length ≤ 48) (hY : yB Λ a capy) (hy : yBv S a capy ys) (hyl : ys.length ≤ 48) (hO : yD Λ o) (h : ∀ S', yFr (A36 o) S S' → yDv S' o (wv xs ys) → post none (yH Λ f0 S')) : xSp xT0 (d + 4) j_We_weave [.ref w, .ref b, .ref a, .ref o] (yH Λ f0 S) post := by
  refine xSp_of (M := m_We_weave) rfl (b_We_weave_0 ⟨yex hY.1, By_size_sp hY hy ?_⟩)
  show xWp _ _ _ _ _ _ _
  rw [min48 hyl]
  have h2 : ∀ k, k ≤ ys.length → ∀ S1 R C L P (u : Option Value), yFr A6 S S1 → yWv S1 w R C L P → (∀ i, i < 49 → R i = nI (cpl (xs.drop i) (ys.drop k))) → (∀ m, m ≤ ys.length - k → C (k + m) = nI ((cw xs (ys.drop k)).getD m 0)) → (∀ j, k ≤ j → j < ys.length → L j = nI (cl xs (ys.drop j)) ∧ P j = nI (cp xs (ys.drop j))) → xWp (xT0, xSp xT0 (d + 3), none, m_We_weave, post) 49 [some (.ref w), some (.ref b), some (.ref a), some (.ref o), some (.int (nI ys.length)), some (.int (nI k - 1)), u] [] (yH Λ f0 S1) 0 0 := by
    intro k
    induction k with
    | zero =>
      intro _ S1 R C L P u k1 v1 r1 c1 l1
      refine b_We_weave_49 ⟨fun _ => ⟨yex hw.1, We_tellChosen_sp hW hw v1 hY (yFr_Bv k1 (show ¬ (1 = 6) by decide) hy) hyl hO (fun j hj => l1 j (Nat.zero_le _) hj) (fun S2 k2 hd => h S2 (yFr_tr (yFr_mo k1 (fun _ _ z => Or.inl z)) (yFr_mo k2 (fun _ _ z => Or.inr z))) hd)⟩, fun q => absurd (by decide) q⟩
    | succ k ih =>
      intro hk S1 R C L P u k1 v1 r1 c1 l1
      have hk' : k < ys.length := by omega
      rw [nI_pred]
      have hyb := hy.2.2 k hk'
      have hdl : (ys.drop (k + 1)).length = ys.length - (k + 1) := List.length_drop
      refine b_We_weave_49 ⟨fun q => absurd q (nI_pos (by omega)), fun _ => ⟨yex hY.1, By_at_sp hY (yFr_Bv k1 (show ¬ (1 = 6) by decide) hy) (fun i hi e => ?_) (fun q => ?_)⟩⟩
      · have e : k = i := (nI_eq (by omega) (by omega)).mp e
        subst e
        refine ⟨yex hw.1, We_lengthenRuns_sp hW hw hX (yFr_Bv k1 (show ¬ (1 = 6) by decide) hx) hxl v1 r1 (by omega) hyb.2 (fun S2 R2 k2 v2 r2 => ⟨yex hw.1, ?_⟩)⟩
        have hlr : lng xs (ys.getD k 0 :: ys.drop (k + 1)) ≤ ys.length - k := Nat.le_trans (lng_r _ _) (by simp; omega)
        rw [pk_sub (by omega), minI (by omega) (by omega), Nat.min_eq_left hlr]
        refine We_choose_sp hW hw v2 (by omega) (fun i hi => r2 i (by omega)) (fun m hm => ?_) (fun S3 C3 L3 P3 k3 v3 c3 l3 p3 o3 => ?_)
        · exact c1 m (by omega)
        · show xWp _ _ _ _ _ _ _
          have e1 : nI k + (-1) = nI k - 1 := (Int32.sub_eq_add_neg _ _).symm
          rw [e1]
          rw [← dropG hk'] at r2 c3 l3 p3
          refine ih (by omega) S3 R2 C3 L3 P3 _ (yFr_tr k1 (yFr_tr k2 k3)) v3 r2 (fun m hm => c3 m (by omega)) (fun j hj1 hj2 => ?_)
          by_cases z : j = k
          · subst z; exact ⟨l3, p3⟩
          · rw [(o3 j z).1, (o3 j z).2]; exact l1 j (by omega) hj2
      · exact absurd q (by
          intro q
          rcases q with q | q
          · exact nI_pos (by omega) q
          · exact absurd ((leI (by omega) (by omega)).mp q) (by omega))
  have h1 : ∀ k, k ≤ 49 → (∀ S1 R C L P, yFr A6 S S1 → yWv S1 w R C L P → (∀ i, i < k → R i = 0) → xWp (xT0, xSp xT0 (d + 3), none, m_We_weave, post) 14 [some (.ref w), some (.ref b), some (.ref a), some (.ref o), some (.int (nI ys.length)), some (.int (nI k)), none] [] (yH Λ f0 S1) 0 0) := by
    refine loopUp ?_ ?_
    · intro S1 R C L P k1 v1 r1
      refine b_We_weave_14 (brlt (a := 48) (by omega) (by omega) (fun _ => ygr hw.1 rfl (yas hw.2.2.1 (yW_n hW hw.2.2.1) (vp_in_nI (by omega) (by omega)) ?_)) (fun q => absurd q (by omega)))
      rw [nI_clamp (by omega)]
      refine h2 ys.length (Nat.le_refl _) _ R _ L P none (yFr_tr k1 (yFr_wA rfl)) (yWv_1 v1) (fun i hi => ?_) (fun m hm => ?_) (fun j h1 h2 => absurd h1 (by omega))
      · rw [List.drop_of_length_le (Nat.le_refl _), cpl_nr]; exact r1 i hi
      · have : m = 0 := by omega
        subst this
        rw [List.drop_of_length_le (Nat.le_refl _), Nat.add_zero, pk_us]
        rfl
    · intro k hk ih S1 R C L P k1 v1 r1
      refine b_We_weave_14 (brlt (a := 48) (by omega) (by omega) (fun q => absurd q (by omega)) (fun _ => ygr hw.1 rfl (yas hw.2.1 (yW_n hW hw.2.1) (vp_in_nI (by omega) (by omega)) ?_)))
      rw [nI_clamp (by omega), nI_1]
      refine ih _ _ C L P (yFr_tr k1 (yFr_wA rfl)) (yWv_0 v1) (fun i hi => ?_)
      by_cases z : i = k
      · rw [z]; exact pk_us
      · rw [pk_un z, v1.1]; exact r1 i (by omega)
  exact h1 0 (by omega) S _ _ _ _ yFr_rf ⟨rfl, rfl, rfl, rfl⟩ (fun i hi => absurd hi (Nat.not_lt_zero _))
end
