/-! 7j the other object: put, drop, byteOf, same, count, conflict -/
section
variable {Λ : yL} {f0 : xH} {S S' S1 : yS} {m d t u f g : Nat} {J : Nat → Prop} {fs gs : List Fl} {ts : List (List Fl)} {v : Sv} {vs : List Sv} {ps : List (List Sv)} {cl : List (Nat × Nat)} {D : Dv} {bs cs : List Nat} {B : Ab} {x y a b c e z : Int32} {post : Option Value → xH → Prop}
theorem rg_at {A : Nat → Int32} {p k : Nat} (h : rg A p bs) (hk : k < bs.length) : A (p + k) &&& 255 = nI (bs.getD k 0) ∧ (okP bs → A (p + k) = nI (bs.getD k 0)) := by
  have := h k hk
  rw [this.1]
  refine ⟨sb_and this.2, fun ho => sb_lo (ho _ ?_)⟩
  rw [List.getD_eq_getElem?_getD, List.getElem?_eq_getElem hk]
  exact List.getElem_mem hk
theorem M_byteOf (q : mQ Λ S m B) (hok : ∀ t, t < (aT B).length → okT ((aT B).getD t [])) (hp : ∀ S', yFr (A11 m) S S' → mQ Λ S' m B → post (some (.int (a_byteOf B a b c e))) (yH Λ f0 S')) : xSp xT0 (d + 8) j_Mo_byteOf [.ref m, .int a, .int b, .int c, .int e] (yH Λ f0 S) post := by
  have hL := q.1
  have ho := hL.2.1
  have hl := q.2.2.2.1.1
  have q' := mQ_0 (x := 0) q
  replace hp := hp _ M0_Fr q'
  unfold a_byteOf at hp
  refine xSp_of (M := m_Mo_byteOf) rfl (b_Mo_byteOf_0 (ypf ho rfl ⟨yex ho, Mo_noTree_sp q' (fun i hi e1 e2 => xviI ⟨fun z => absurd rfl z, fun _ => ygr ho rfl (brT (n := 12) (by omega) rfl (fun e3 => ?_) (fun w hw ew e3 => ?_))⟩) (fun e => xviI ⟨fun _ => ?_, fun z => absurd (by decide) z⟩)⟩))
  · rw [e1, tIx_s (by omega) (by omega)] at e3; cases e3
  · clear w hw ew e3
    subst e1
    rw [e2] at hp
    dsimp only at hp
    have hT := q'.2.2.2.1.2.2 i hi
    have hfl := hT.1
    refine yal (mk9 hL) (vp_in_nI (by omega) (by omega)) ?_
    rw [nI_clamp (by omega), hT.2.1]
    refine brT (by omega) (L_n (by omega)) (fun e4 => ?_) (fun k hk ek e4 => ?_)
    · rw [e4] at hp; exact hp
    · subst ek
      rw [e4] at hp
      dsimp only at hp
      obtain ⟨⟨a1, a2, a3⟩, b1, b2, b3⟩ := hT.2.2 k hk
      refine brTn (n := 2) (by omega) rfl (fun e5 => ?_) (fun w hw ew e5 => Mo_at_sp (xviI ⟨fun c0 => ygr ho rfl (yal (mk6 hL) (vp_in_nI (by omega) (by omega)) ?_), fun c0 => ygr ho rfl (yal (mk8 hL) (vp_in_nI (by omega) (by omega)) ?_)⟩))
      · have hn : ∀ w, w < 2 → ¬ c = nI w := fun w hw z => by rw [z, tIx_s (by omega) hw] at e5; cases e5
        rw [if_neg (show ¬ c = 0 from hn 0 (by omega)), if_neg (show ¬ c = 1 from hn 1 (by omega))] at hp
        exact hp
      · have c1 : c = 1 := by
          have h0 : w ≠ 0 := fun z => c0 (by rw [ew, z]; rfl)
          rw [ew, show w = 1 by omega]; rfl
        rw [if_neg c0, if_pos c1] at hp
        unfold bAt at hp
        rw [nI_clamp (by omega), a1, n18]
        refine brT (by omega) (L_n (by omega)) (fun e6 => ?_) (fun j hj ej e6 => ygr ho rfl ?_)
        · rw [e6] at hp; exact hp
        · rw [e6] at hp
          rw [ej, nI_add]
          refine yal (mk5 hL) (vp_in_nI (by omega) (by omega)) ?_
          rw [nI_clamp (by omega), (rg_at a3 hj).2 ((hok i hi).1 k hk)]
          exact hp
      · rw [if_pos (Classical.not_not.mp c0)] at hp
        unfold bAt at hp
        rw [nI_clamp (by omega), b1, n48]
        refine brT (by omega) (L_n (by omega)) (fun e6 => ?_) (fun j hj ej e6 => ygr ho rfl ?_)
        · rw [e6] at hp; exact hp
        · rw [e6] at hp
          rw [ej, nI_add]
          refine yal (mk7 hL) (vp_in_nI (by omega) (by omega)) ?_
          rw [nI_clamp (by omega), (rg_at b3 hj).1]
          exact hp
  · rw [e] at hp; exact hp
theorem Mo_isAlike_sp (hL : mLay Λ m) (hf : f < 130) (hg : g < 130) {p r : Fl} (h1 : mF S m f p) (h2 : mF S m g r) (hp : post (some (.int (bI (decide (p.2 = r.2))))) (yH Λ f0 S)) : xSp xT0 (d + 2) j_Mo_isAlike [.ref m, .int (nI f), .int (nI g)] (yH Λ f0 S) post := by
  have ho := hL.2.1
  obtain ⟨-, b1, b2, b3⟩ := h1
  obtain ⟨-, c1, c2, c3⟩ := h2
  refine xSp_of (M := m_Mo_isAlike) rfl (b_Mo_isAlike_0 (ygr ho rfl (ygr ho rfl (yal (mk8 hL) (vp_in_nI hf (by omega)) (ygr ho rfl (ygr ho rfl (yal (mk8 hL) (vp_in_nI hg (by omega)) ?_)))))))
  rw [nI_clamp (by omega), nI_clamp (by omega), b1, c1, n48, n48]
  refine Mo_order_sp (mk7 hL) (mk7 hL) b3 c3 (by omega) (by omega) (by omega) (by omega) (xviI ⟨fun z => ?_, fun z => ?_⟩)
  · rw [decide_eq_false (fun w => z (ordM_0.mpr w))] at hp; exact hp
  · rw [decide_eq_true (ordM_0.mp (Classical.not_not.mp z))] at hp; exact hp
theorem M_same (q : mQ Λ S m B) (hp : ∀ S', yFr (A11 m) S S' → mQ Λ S' m B → post (some (.int (a_same B a b))) (yH Λ f0 S')) : xSp xT0 (d + 8) j_Mo_same [.ref m, .int a, .int b] (yH Λ f0 S) post := by
  have hL := q.1
  have ho := hL.2.1
  have hl := q.2.2.2.1.1
  have q' := mQ_0 (x := 0) q
  replace hp := hp _ M0_Fr q'
  unfold a_same at hp
  refine xSp_of (M := m_Mo_same) rfl (b_Mo_same_0 (ypf ho rfl ⟨yex ho, Mo_noTree_sp q' (fun i hi e1 e2 => xviI ⟨fun z => absurd rfl z, fun _ => ⟨yex ho, Mo_noTree_sp q' (fun j hj e3 e4 => xviI ⟨fun _ => ?_, fun z => absurd rfl z⟩) (fun e3 => xviI ⟨fun z => absurd z (by decide), fun _ => ?_⟩)⟩⟩) (fun e => xviI ⟨fun _ => ?_, fun z => absurd (by decide) z⟩)⟩))
  · subst e1; subst e3
    rw [e2, e4] at hp
    dsimp only at hp
    have hT := q'.2.2.2.1.2.2 i hi
    have hU := q'.2.2.2.1.2.2 j hj
    generalize (aT B).getD i [] = fs at *
    generalize (aT B).getD j [] = gs at *
    have hfl := hT.1
    have hgl := hU.1
    have h139 : ∀ (bb : Bool) (x4 : Int32) (u5 u6 : Option Value), (bb = true ↔ fs = gs) → xWp (xT0, xSp xT0 (d + 7), none, m_Mo_same, post) 139 [some (.ref m), some (.int (nI i)), some (.int (nI j)), some (.int (bI bb)), some (.int x4), u5, u6] [] (yH Λ f0 (ywI S 11 0 m 0)) 0 0 := by
      intro bb x4 u5 u6 hb
      refine b_Mo_same_139 (brB (fun r => ?_) (fun r => ?_))
      · rw [if_neg (fun z => by rw [hb.mpr z] at r; cases r)] at hp; exact hp
      · rw [if_pos (hb.mp r)] at hp; exact hp
    have hlo : ∀ k, k ≤ fs.length → (∀ (bb : Bool) (u5 u6 : Option Value), (bb = true ↔ (fs.length = gs.length ∧ ∀ l, l < k → fs.getD l fl0 = gs.getD l fl0)) → xWp (xT0, xSp xT0 (d + 7), none, m_Mo_same, post) 47 [some (.ref m), some (.int (nI i)), some (.int (nI j)), some (.int (bI bb)), some (.int (nI k)), u5, u6] [] (yH Λ f0 (ywI S 11 0 m 0)) 0 0) := by
      refine loopUp ?_ ?_
      · intro bb u5 u6 hb
        refine b_Mo_same_47 (ygr ho rfl (yal (mk9 hL) (vp_in_nI (by omega) (by omega)) ?_))
        rw [nI_clamp (by omega), hT.2.1]
        refine brle (by omega) (by omega) (fun _ => h139 bb _ _ _ ⟨fun z => fl_ext (hb.mp z).1 (hb.mp z).2, fun z => hb.mpr (by rw [z]; exact ⟨rfl, fun _ _ => rfl⟩)⟩) (fun c => by omega)
      · intro k hk ih bb u5 u6 hb
        refine b_Mo_same_47 (ygr ho rfl (yal (mk9 hL) (vp_in_nI (by omega) (by omega)) ?_))
        rw [nI_clamp (by omega), hT.2.1, nI_1]
        refine brle (by omega) (by omega) (fun c => by omega) (fun _ => brB (fun r => ?_) (fun r => ?_))
        · rw [r]
          exact h139 false _ _ _ ⟨fun z => absurd z (by decide), fun z => by rw [hb.mpr (by rw [z]; exact ⟨rfl, fun _ _ => rfl⟩)] at r; cases r⟩
        · obtain ⟨hlen, hbe⟩ := hb.mp r
          have hF := hT.2.2 k hk
          have hG := hU.2.2 k (by omega)
          obtain ⟨⟨a1, a2, a3⟩, b1, b2, b3⟩ := id hF
          obtain ⟨⟨a1', a2', a3'⟩, b1', b2', b3'⟩ := id hG
          refine Mo_at_sp (xviI (Mo_at_sp (xviI (ygr ho rfl (ygr ho rfl (yal (mk6 hL) (vp_in_nI (by omega) (by omega)) (ygr ho rfl (ygr ho rfl (yal (mk6 hL) (vp_in_nI (by omega) (by omega)) ?_)))))))))
          rw [nI_clamp (by omega), nI_clamp (by omega), a1, a1', n18, n18]
          have hst : ∀ bb' : Bool, (bb' = true ↔ fs.getD k fl0 = gs.getD k fl0) → (bb' = true ↔ (fs.length = gs.length ∧ ∀ l, l < k + 1 → fs.getD l fl0 = gs.getD l fl0)) := fun bb' h' => ⟨fun z => ⟨hlen, fun l hlk => by
              by_cases w : l = k
              · rw [w]; exact h'.mp z
              · exact hbe l (by omega)⟩, fun z => h'.mpr (z.2 k (by omega))⟩
          refine Mo_order_sp (mk5 hL) (mk5 hL) a3 a3' (by omega) (by omega) (by omega) (by omega) (xviI ⟨fun z => ?_, fun z => ⟨yex ho, Mo_isAlike_sp hL (by omega) (by omega) hF hG (xviI (brB (fun w => ?_) (fun w => ?_)))⟩⟩)
          · exact ih false _ _ (hst false ⟨fun w => absurd w (by decide), fun w => absurd (ordM_0.mpr (by rw [w])) z⟩)
          · exact ih false _ _ (hst false ⟨fun w => absurd w (by decide), fun w2 => absurd (by rw [w2]) (of_decide_eq_false w)⟩)
          · exact ih true _ _ (hst true ⟨fun _ => Prod.ext (ordM_0.mp (Classical.not_not.mp z)) (of_decide_eq_true w), fun _ => rfl⟩)
    refine ygr ho rfl (yal (mk9 hL) (vp_in_nI (by omega) (by omega)) (ygr ho rfl (yal (mk9 hL) (vp_in_nI (by omega) (by omega)) ?_)))
    rw [nI_clamp (by omega), nI_clamp (by omega), hT.2.1, hU.2.1]
    exact brne (by omega) (by omega) (fun c => hlo 0 (Nat.zero_le _) false _ _ ⟨fun z => absurd z (by decide), fun z => absurd z.1 c⟩) (fun c => hlo 0 (Nat.zero_le _) true _ _ ⟨fun _ => ⟨c, fun l hl => absurd hl (Nat.not_lt_zero _)⟩, fun _ => rfl⟩)
  · rw [e2, e3] at hp; exact hp
  · rw [e] at hp; exact hp
theorem M_count (q : mQ Λ S m B) (hp : ∀ S', yFr (A11 m) S S' → mQ Λ S' m B → post (some (.int (a_count B a))) (yH Λ f0 S')) : xSp xT0 (d + 8) j_Mo_count [.ref m, .int a] (yH Λ f0 S) post := by
  have hL := q.1
  have ho := hL.2.1
  have q' := mQ_0 (x := 0) q
  replace hp := hp _ M0_Fr q'
  have hD := q'.2.2.2.2.2.2
  have hc := hD.2.2.1
  unfold a_count at hp
  refine xSp_of (M := m_Mo_count) rfl (b_Mo_count_0 (ypf ho rfl ⟨fun n0 => ygi ho rfl ?_, fun n0 => ⟨fun n1 => ygi ho rfl ?_, fun n1 => ⟨fun n2 => ygi ho rfl ?_, fun n2 => ⟨fun n3 => ygi ho rfl ?_, fun n3 => ⟨fun n4 => ygr ho rfl (ygi ho rfl ?_), fun n4 => ⟨fun n5 => ygi ho rfl ?_, fun n5 => ⟨fun n6 => ygi ho rfl ?_, fun n6 => ⟨fun n7 => ygi ho rfl ?_, fun n7 => ?_⟩⟩⟩⟩⟩⟩⟩⟩))
  · rw [if_pos n0] at hp; rw [q'.2.2.2.1.2.1]; exact hp
  · rw [if_neg n0, if_pos n1] at hp; rw [q'.2.2.2.2.1.2.1]; exact hp
  · rw [if_neg n0, if_neg n1, if_pos n2] at hp; rw [q'.2.1.2.1]; exact hp
  · rw [if_neg n0, if_neg n1, if_neg n2, if_pos n3] at hp; rw [q'.2.2.1.2.1]; exact hp
  · rw [if_neg n0, if_neg n1, if_neg n2, if_neg n3, if_pos n4] at hp
    rw [hD.2.2.2.1]
    refine yal (mk42 hL) (vp_in_nI hc (by omega)) ?_
    rw [nI_clamp (by omega), (hD.2.1 _ hc).2.1]
    exact hp
  · rw [if_neg n0, if_neg n1, if_neg n2, if_neg n3, if_neg n4, if_pos n5] at hp; rw [hD.2.2.2.2.2.2]; exact hp
  · rw [if_neg n0, if_neg n1, if_neg n2, if_neg n3, if_neg n4, if_neg n5, if_pos n6] at hp
    rw [hD.2.2.2.2.2.1]
    refine brB (fun r => ?_) (fun r => ?_)
    · rw [r] at hp; exact hp
    · rw [r] at hp; exact hp
  · rw [if_neg n0, if_neg n1, if_neg n2, if_neg n3, if_neg n4, if_neg n5, if_neg n6, if_pos n7] at hp; rw [hD.2.2.2.1]; exact hp
  · rw [if_neg n0, if_neg n1, if_neg n2, if_neg n3, if_neg n4, if_neg n5, if_neg n6, if_neg n7] at hp; exact hp
theorem M_conflict (q : mQ Λ S m B) (hp : ∀ S', yFr (A11 m) S S' → mQ Λ S' m B → post (some (.int (a_conflict B a b))) (yH Λ f0 S')) : xSp xT0 (d + 8) j_Mo_conflict [.ref m, .int a, .int b] (yH Λ f0 S) post := by
  have hL := q.1
  have ho := hL.2.1
  have q' := mQ_0 (x := 0) q
  replace hp := hp _ M0_Fr q'
  have hC := q'.2.2.2.2.2.1
  have hl := hC.1
  unfold a_conflict tellC at hp
  have h19 : ¬ (a = -1 ∧ b = 0) → xWp (xT0, xSp xT0 (d + 7), none, m_Mo_conflict, post) 19 [some (.ref m), some (.int a), some (.int b)] [] (yH Λ f0 (ywI S 11 0 m 0)) 0 0 := by
    intro hn
    rw [if_neg hn] at hp
    refine b_Mo_conflict_19 (ygi ho rfl ?_)
    rw [hC.2.1]
    refine brT (by omega) (L_n (by omega)) (fun e4 => ?_) (fun k hk ek e4 => ?_)
    · rcases tIx_c B.2.2.2.2.1.length (by omega) a with ⟨r, r2⟩ | ⟨k, hk, ek, ek2⟩
      · rw [if_pos r2] at hp; exact hp
      · rw [ek2] at e4; cases e4
    · subst ek
      have hx : ¬ (nI k < 0 ∨ nI B.2.2.2.2.1.length ≤ nI k) := fun z => z.elim (nI_pos (by omega)) (fun z => absurd ((leI (by omega) (by omega)).mp z) (by omega))
      rw [if_neg hx, nI_clamp (by omega)] at hp
      refine brT (n := 2) (by omega) rfl (fun e5 => ?_) (fun w hw ew e5 => ⟨fun c0 => ygr ho rfl (yal (mk33 hL) (vp_in_nI (by omega) (by omega)) ?_), fun c0 => ygr ho rfl (yal (mk32 hL) (vp_in_nI (by omega) (by omega)) ?_)⟩)
      · have hn : ∀ w, w < 2 → ¬ b = nI w := fun w hw z => by rw [z, tIx_s (by omega) hw] at e5; cases e5
        rw [if_neg (show ¬ b = 0 from hn 0 (by omega)), if_neg (show ¬ b = 1 from hn 1 (by omega))] at hp
        exact hp
      · have c1 : b = 1 := by
          have h0 : w ≠ 0 := fun z => c0 (by rw [ew, z]; rfl)
          rw [ew, show w = 1 by omega]; rfl
        rw [if_neg c0, if_pos c1] at hp
        rw [nI_clamp (by omega), (hC.2.2 k hk).2]; exact hp
      · rw [if_pos (Classical.not_not.mp c0)] at hp
        rw [nI_clamp (by omega), (hC.2.2 k hk).1]; exact hp
  refine xSp_of (M := m_Mo_conflict) rfl (b_Mo_conflict_0 (ypf ho rfl ⟨fun c1 => h19 (fun z => c1 z.1), fun c1 => ⟨fun c2 => h19 (fun z => c2 z.2), fun c2 => ygi ho rfl ?_⟩⟩))
  rw [if_pos ⟨Classical.not_not.mp c1, Classical.not_not.mp c2⟩] at hp
  rw [hC.2.1]
  exact hp
end
