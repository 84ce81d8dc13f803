/-! 7ze the other object: two STEPS joined -/
theorem allN_f {p : Nat → Bool} {k : Nat} : ∀ {n : Nat}, k ≤ n → allN p k = false → allN p n = false
  | 0, h, e => by rw [show k = 0 by omega] at e; exact e
  | n + 1, h, e => by
    by_cases w : k = n + 1
    · rw [← w]; exact e
    · rw [allN_s, allN_f (n := n) (by omega) e]; rfl
section
variable {Λ : yL} {f0 : xH} {S S' S1 S2 : yS} {m d s t u f g p : Nat} {J F : Nat → Prop} {v w : Sv} {vs ws : List Sv} {zs ys : List Int32} {bs cs : List Nat} {B : Ab} {x y a b c e z : Int32} {post : Option Value → xH → Prop}
theorem Mo_join_sp (hL : mLay Λ m) {jd : Nat} (hd : yn Λ (Λ.2.1 11 jd m) 11 jd m 0 10560) (hgr : grp jd = 2) (hwd : wid jd = 48) (hs : s < 217) (ht : t < 217) (hy : rz (yA S 11 jd m) (48 * s) ys) (hz : rz (yA S 11 jd m) (48 * t) zs) (hyl : ys.length ≤ 48) (hzl : zs.length ≤ 48) (hO : okO zs ys.length) (hp : ∀ S', zS m 2 (fun i => i = 217) S S' → (∀ k, k ≠ jd → yA S' 11 k m = yA S 11 k m) → rz (yA S' 11 jd m) 10416 (joinD ys zs) → post none (yH Λ f0 S')) : xSp xT0 (d + 1) j_Mo_join [.ref (Λ.2.1 11 jd m), .int (nI (48 * s)), .ref (Λ.2.1 11 jd m), .int (nI (48 * t)), .int (nI zs.length), .ref (Λ.2.1 11 jd m), .int 10416] (yH Λ f0 S) post := by
  refine xSp_of (M := m_Mo_join) rfl (b_Mo_join_0 ?_)
  have hlo : ∀ k, k ≤ zs.length → (∀ S1 (u8 : Option Value), zS m 2 (fun i => i = 217) S S1 → (∀ k, k ≠ jd → yA S1 11 k m = yA S 11 k m) → (∀ i, i < k → yA S1 11 jd m (10416 + i) = (joinD ys zs).getD i 0) → xWp (xT0, xSp xT0 d, none, m_Mo_join, post) 3 [some (.ref (Λ.2.1 11 jd m)), some (.int (nI (48 * s))), some (.ref (Λ.2.1 11 jd m)), some (.int (nI (48 * t))), some (.int (nI zs.length)), some (.ref (Λ.2.1 11 jd m)), some (.int 10416), some (.int (nI k)), u8] [] (yH Λ f0 S1) 0 0) := by
    refine loopUp ?_ ?_
    · intro S1 u8 k1 ho hg
      refine b_Mo_join_3 (brle (by omega) (by omega) (fun _ => hp S1 k1 ho (fun k hk => ?_)) (fun w => by omega))
      rw [joinD_l hyl hO] at hk
      exact hg k hk
    · intro k hk ih S1 u8 k1 ho hg
      have hsame : ∀ i, i / 48 ≠ 217 → yA S1 11 jd m i = yA S 11 jd m i := fun i hi => k1.2.2 jd i hgr (by rw [hwd]; exact hi)
      have e1 : (10416 : Int32) + nI k = nI (10416 + k) := nI_add 10416 k
      refine b_Mo_join_3 ?_
      unfold B_Mo_join_3
      rw [e1, nI_1 k, nI_add]
      have hend : ∀ w (u8 : Option Value), w = (joinD ys zs).getD k 0 → xas (yH Λ f0 S1) (Λ.2.1 11 jd m) 0 (nI (10416 + k)) w (fun f3 => xWp (xT0, xSp xT0 d, none, m_Mo_join, post) 3 [some (.ref (Λ.2.1 11 jd m)), some (.int (nI (48 * s))), some (.ref (Λ.2.1 11 jd m)), some (.int (nI (48 * t))), some (.int (nI zs.length)), some (.ref (Λ.2.1 11 jd m)), some (.int 10416), some (.int (nI (k + 1))), u8] [] f3 0 0) := by
        intro w u8 ew
        refine yas hd (yW_n hL.1 hd) (vp_in_nI (by omega) (by omega)) ?_
        rw [nI_clamp (by omega)]
        refine ih _ _ (zS_tr k1 (zS_u hgr (by rw [hwd]; omega))) (fun j hj => by rw [yA_n _ _ (by omega)]; exact ho j hj) (fun i hi => ?_)
        rw [yA_s]
        by_cases c : i = k
        · rw [c, pk_us]; exact ew
        · rw [pk_un (by omega)]; exact hg i (by omega)
      refine brle (by omega) (by omega) (fun w => by omega) (fun _ => yal hd (vp_in_nI (by omega) (by omega)) ?_)
      rw [nI_clamp (by omega), hsame _ (by omega), hz k hk]
      have hj := joinD_g hyl hO hk
      rcases hO k hk with z | ⟨i, hi, ez⟩
      · have n0 := (told_n z).1
        rw [if_neg n0] at hj
        exact ⟨fun w => absurd w n0, fun _ => hend _ _ hj.symm⟩
      · rw [ez] at hj ⊢
        rw [if_pos (nI_pos' (by omega)), nI_clamp (by omega)] at hj
        refine ⟨fun _ => ?_, fun w => absurd (nI_pos' (by omega)) w⟩
        rw [nI_add]
        refine yal hd (vp_in_nI (by omega) (by omega)) ?_
        rw [nI_clamp (by omega), hsame _ (by omega), hy i hi]
        exact hend _ _ hj.symm
  exact hlo 0 (Nat.zero_le _) S none zS_rf (fun _ _ => rfl) (fun i hi => absurd hi (Nat.not_lt_zero _))
theorem Mo_isWhole_sp (hL : mLay Λ m) (hs : s < 220) (h18 : yA S 11 18 m s = nI zs.length) (h16 : yA S 11 16 m s = x) (hz : rz (yA S 11 20 m) (48 * s) zs) (hl : zs.length ≤ 48) (hp : post (some (.int (bI (decide (nI zs.length = x ∧ zs = whoD zs.length))))) (yH Λ f0 S)) : xSp xT0 (d + 1) j_Mo_isWhole [.ref m, .int (nI s)] (yH Λ f0 S) post := by
  have ho := hL.2.1
  have hfin : (decide (nI zs.length = x) && allN (fun i => decide (zs.getD i 0 = nI i)) zs.length) = decide (nI zs.length = x ∧ zs = whoD zs.length) := by
    by_cases c1 : nI zs.length = x
    · rw [decide_eq_true c1, Bool.true_and]
      by_cases c2 : zs = whoD zs.length
      · rw [decide_eq_true ⟨c1, c2⟩]
        exact allN_i.mpr (fun i hi => decide_eq_true ((whoD_i zs).mp c2 i hi))
      · rw [decide_eq_false (fun w => c2 w.2)]
        cases hh : allN (fun i => decide (zs.getD i 0 = nI i)) zs.length with
        | false => rfl
        | true => exact absurd ((whoD_i zs).mpr (fun i hi => of_decide_eq_true (allN_i.mp hh i hi))) c2
    · rw [decide_eq_false c1, decide_eq_false (fun w => c1 w.1)]; rfl
  rw [← hfin] at hp
  have hlo : ∀ k, k ≤ zs.length → xWp (xT0, xSp xT0 d, none, m_Mo_isWhole, post) 23 [some (.ref m), some (.int (nI s)), some (.int (bI (decide (nI zs.length = x) && allN (fun i => decide (zs.getD i 0 = nI i)) k))), some (.int (nI k))] [] (yH Λ f0 S) 0 0 := by
    have hb : ∀ b : Bool, bI b = 0 ∨ bI b = 1 := fun b => by cases b; exact Or.inl rfl; exact Or.inr rfl
    refine loopUp ?_ ?_
    · refine b_Mo_isWhole_23 (ygr ho rfl (yal (mk18 hL) (vp_in_nI hs (by omega)) ?_))
      rw [nI_clamp (by omega), h18]
      exact brle (by omega) (by omega) (fun _ => ⟨hb _, hp⟩) (fun w => by omega)
    · intro k hk ih
      refine b_Mo_isWhole_23 (ygr ho rfl (yal (mk18 hL) (vp_in_nI hs (by omega)) ?_))
      rw [nI_clamp (by omega), h18, nI_1 k, n48, nI_add]
      refine brle (by omega) (by omega) (fun w => by omega) (fun _ => brB (fun e1 => ⟨hb _, ?_⟩) (fun e1 => ygr ho rfl (yal (mk20 hL) (vp_in_nI (by omega) (by omega)) ?_)))
      · have : (decide (nI zs.length = x) && allN (fun i => decide (zs.getD i 0 = nI i)) zs.length) = false := by
          cases hd : decide (nI zs.length = x) with
          | false => rfl
          | true =>
            rw [hd, Bool.true_and] at e1
            rw [Bool.true_and]
            exact allN_f (by omega) e1
        rw [this] at hp
        rw [e1]
        exact hp
      · have e2 := Bool.and_eq_true_iff.mp e1
        rw [nI_clamp (by omega), hz k hk]
        rw [allN_s, e2.1, e2.2, Bool.true_and, Bool.true_and] at ih
        refine ⟨fun c => ?_, fun c => ?_⟩
        · rw [decide_eq_false c] at ih; exact ih
        · rw [decide_eq_true (Classical.not_not.mp c)] at ih; exact ih
  refine xSp_of (M := m_Mo_isWhole) rfl (b_Mo_isWhole_0 (ygr ho rfl (yal (mk18 hL) (vp_in_nI hs (by omega)) (ygr ho rfl (yal (mk16 hL) (vp_in_nI hs (by omega)) ?_)))))
  rw [nI_clamp (by omega), h18, h16]
  have h0 := hlo 0 (Nat.zero_le _)
  refine ⟨fun c => ?_, fun c => ?_⟩
  · rw [decide_eq_false c] at h0; exact h0
  · rw [decide_eq_true (Classical.not_not.mp c)] at h0; exact h0
theorem okV_jo {v w : Sv} (hv : okV v) (hw : okV w) (h1 : ¬ v.1 = 1) (h0 : ¬ w.1 = 0) (hg : goV v w) : v.2.2.2.2.2.2.2.1.length = w.2.2.2.2.2.2.2.2.length := by
  have e1 := hv.2.2.1.2 h1
  have e2 := hw.2.2.2.1.2 h0
  have l1 := hv.2.2.2.2.1.1
  have l2 := hw.2.2.2.2.1.2
  have := hg.1
  rw [e1, e2] at this
  exact (nI_eq (by omega) (by omega)).mp this
theorem Mo_toChain_sp (hL : mLay Λ m) (hP : mP S m 8 vs) (hv : mS S m 217 v) (hok : ∀ i, i < vs.length → okP (vs.getD i sv0).2.1) (hov : okP v.2.1) (h1 : vs.length < 24 → ∀ S', zX m (fun j => grp j = 2 ∨ j = 22) S S' → zP m 8 S S' → mP S' m 8 (addV vs v) → post (some (.int 1)) (yH Λ f0 S')) (h0 : ¬ vs.length < 24 → post (some (.int 0)) (yH Λ f0 S)) : xSp xT0 (d + 4) j_Mo_toChain [.ref m] (yH Λ f0 S) post := by
  have ho := hL.2.1
  have hvl := hP.1
  refine xSp_of (M := m_Mo_toChain) rfl (b_Mo_toChain_0 (ygr ho rfl (yal (mk22 hL) (vp_in_nI (n := 8) (by omega) (by omega)) ?_)))
  have c8 : (8 : Int32).toNatClampNeg = 8 := nI_clamp (n := 8) (by omega)
  rw [c8, hP.2.1]
  refine brne (b := 24) (by omega) (by omega) (fun c => ⟨yex ho, Mo_addSpare_sp (p := 8) hL (by omega) hP (by omega) hv hok hov (fun S5 k5 hs5 h225 hU5 => xvvI (h1 (by omega) S5 k5 ⟨fun s q a _ b => hs5 s q a b, h225⟩ hU5))⟩) (fun c => h0 (by omega))
end
