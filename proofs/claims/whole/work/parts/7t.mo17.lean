/-! 7t the other object: DELTAS of least COST -/
theorem cw_drop (xs : List Nat) : ∀ (ys : List Nat) (k : Nat), k ≤ ys.length → (cw xs ys).getD k 0 = (cw xs (ys.drop k)).getD 0 0
  | ys, 0, _ => by rw [List.drop_zero]
  | [], k + 1, h => absurd h (by simp)
  | y :: r, k + 1, h => by
    rw [cw_c]
    show (cw xs r).getD k 0 = (cw xs (r.drop k)).getD 0 0
    exact cw_drop xs r k (by rw [List.length_cons] at h; omega)
theorem pl_lng {xs suf : List Nat} {n : Nat} (hn : 0 < n) : plO xs suf n < xs.length + 1 - n ↔ n ≤ lng xs suf := by
  rw [lng_iff xs suf hn]
  refine ⟨fun h => ?_, fun ⟨i, hi, h⟩ => ?_⟩
  · have := of_decide_eq_true (fstI_t (p := fun i => decide (n ≤ cpl (xs.drop i) suf)) h)
    exact ⟨plO xs suf n, by omega, this⟩
  · have h1 := (cpl_iff.mp h).1
    rw [List.length_drop] at h1
    have hle := fstI_le (fun i => decide (n ≤ cpl (xs.drop i) suf)) (xs.length + 1 - n)
    rcases Nat.lt_or_ge (plO xs suf n) (xs.length + 1 - n) with c | c
    · exact c
    · have := fstI_f (p := fun i => decide (n ≤ cpl (xs.drop i) suf)) (n := xs.length + 1 - n) (i := i) (by show i < plO xs suf n; omega)
      exact absurd h (of_decide_eq_false this)
theorem pl_cp {xs suf : List Nat} (hx : xs.length ≤ 48) (hc : 0 < cl xs suf) : plO xs suf (cl xs suf) < xs.length + 1 - cl xs suf ∧ plO xs suf (cl xs suf) = cp xs suf := by
  have h := (pl_lng hc).mpr (cl_lng xs suf)
  refine ⟨h, ?_⟩
  unfold cp
  rw [if_neg (by omega)]
  symm
  exact fstI_eq (by omega) (fun i hi => fstI_f (p := fun i => decide (cl xs suf ≤ cpl (xs.drop i) suf)) hi) (Or.inr (fstI_t (p := fun i => decide (cl xs suf ≤ cpl (xs.drop i) suf)) h))
theorem zdG {zs r : List Int32} {z : Int32} {p : Nat} (h : zs.drop p = z :: r) : zs.getD p 0 = z ∧ zs.drop (p + 1) = r := by
  have hp : p < zs.length := by
    rcases Nat.lt_or_ge p zs.length with c | c
    · exact c
    · rw [List.drop_of_length_le c] at h; cases h
  rw [zG hp] at h
  have := List.cons.inj h
  exact this
section
variable {Λ : yL} {f0 : xH} {S S' S1 S2 : yS} {m d s t u f g : Nat} {J F : Nat → Prop} {v w : Sv} {zs : List Int32} {xs ys bs cs : List Nat} {B : Ab} {x y a b c e z : Int32} {post : Option Value → xH → Prop}
abbrev Jf (jd : Nat) : Nat → Prop := fun j => j = 24 ∨ j = 25 ∨ j = jd
theorem Mo_findDelta_sp (hL : mLay Λ m) {jd : Nat} (hjd : jd = 20 ∨ jd = 21) (hd : yn Λ (Λ.2.1 11 jd m) 11 jd m 0 10560) {p1 p2 : Nat} (g1 : rg (yA S 11 7 m) p1 xs) (g2 : rg (yA S 11 7 m) p2 ys) (b1 : p1 + xs.length ≤ 6240) (b2 : p2 + ys.length ≤ 6240) (hxl : xs.length ≤ 48) (hyl : ys.length ≤ 48) (hp : ∀ S', zX m (Jf jd) S S' → (∀ i, i / 48 ≠ 217 → yA S' 11 jd m i = yA S 11 jd m i) → rz (yA S' 11 jd m) 10416 (wv xs ys) → post none (yH Λ f0 S')) : xSp xT0 (d + 3) j_Mo_findDelta [.ref m, .ref (Λ.2.1 11 7 m), .int (nI p1), .int (nI xs.length), .ref (Λ.2.1 11 7 m), .int (nI p2), .int (nI ys.length), .ref (Λ.2.1 11 jd m), .int 10416] (yH Λ f0 S) post := by
  have hW := hL.1
  have ho := hL.2.1
  have hft : (ftg 11)[jd]? = some true := by rcases hjd with h | h <;> (rw [h]; rfl)
  have hg7 : ∀ {S1}, zX m (Jf jd) S S1 → yA S1 11 7 m = yA S 11 7 m := fun k => (mX k (j := 7) (by unfold Jf; omega)).2
  have hwl := wv_l xs ys
  -- the second loop: what was chosen is told
  have h141 : ∀ r p, ys.length - p ≤ r → p ≤ ys.length → ∀ S1 (u10 u11 u12 : Option Value) q, zX m (Jf jd) S S1 → (∀ i, i / 48 ≠ 217 → yA S1 11 jd m i = yA S 11 jd m i) → (∀ k, k < ys.length → yA S1 11 25 m k = nI (cl xs (ys.drop k))) → (∀ k, k < p → yA S1 11 jd m (10416 + k) = (wv xs ys).getD k 0) → (wv xs ys).drop p = wvG xs 0 q (ys.drop p) → xWp (xT0, xSp xT0 (d + 2), none, m_Mo_findDelta, post) 141 [some (.ref m), some (.ref (Λ.2.1 11 7 m)), some (.int (nI p1)), some (.int (nI xs.length)), some (.ref (Λ.2.1 11 7 m)), some (.int (nI p2)), some (.int (nI ys.length)), some (.ref (Λ.2.1 11 jd m)), some (.int 10416), some (.int (nI p)), u10, u11, u12] [] (yH Λ f0 S1) 0 0 := by
    intro r
    induction r with
    | zero =>
      intro p hr hpl S1 u10 u11 u12 q k1 hs1 ht1 hf1 hd1
      refine b_Mo_findDelta_141 (brle (by omega) (by omega) (fun _ => hp S1 k1 hs1 (fun k hk => ?_)) (fun w => by omega))
      rw [hwl] at hk
      exact hf1 k (by omega)
    | succ r ih =>
      intro p hr hpl S1 u10 u11 u12 q k1 hs1 ht1 hf1 hd1
      refine b_Mo_findDelta_141 (brle (by omega) (by omega) (fun _ => hp S1 k1 hs1 (fun k hk => ?_)) (fun hlt => ygr ho rfl (yal (mk25 hL) (vp_in_nI (by omega) (by omega)) ?_)))
      · rw [hwl] at hk
        exact hf1 k (by omega)
      · have hy := g2 p hlt
        have hcb := cl_b xs (ys.drop p)
        rw [List.length_drop] at hcb
        rw [nI_clamp (by omega), ht1 p hlt]
        have hyd : ys.drop p = ys.getD p 0 :: ys.drop (p + 1) := dropG hlt
        have hw0 : wvG xs 0 q (ys.drop p) = if cl xs (ys.drop p) = 0 then (nI (ys.getD p 0) ^^^ (-1)) :: wvG xs 0 (cp xs (ys.drop p)) (ys.drop (p + 1)) else nI (cp xs (ys.drop p)) :: wvG xs (cl xs (ys.drop p) - 1) (cp xs (ys.drop p) + 1) (ys.drop (p + 1)) := by
          rw [hyd, wvG_0]
        refine brne (b := 0) (by omega) (by omega) (fun c0 => ygr ho rfl (yal (mk25 hL) (vp_in_nI (by omega) (by omega)) ?_)) (fun c0 => ?_)
        · rw [nI_clamp (by omega), ht1 p hlt, nI_add]
          have g1' : rg (yA S1 11 7 m) p1 xs := by rw [hg7 k1]; exact g1
          have g2' : rg (yA S1 11 7 m) (p2 + p) (ys.drop p) := fun i hi => by
            rw [List.length_drop] at hi
            rw [hg7 k1, dropD, show p2 + p + i = p2 + (p + i) by omega]
            exact g2 (p + i) (by omega)
          obtain ⟨hpl1, hpl2⟩ := pl_cp (suf := ys.drop p) hxl (by omega)
          refine Mo_placeOf_sp (mk7 hL) (mk7 hL) g1' g2' (by omega) (by rw [List.length_drop]; omega) (by omega) (by omega) (by rw [List.length_drop]; omega) (xviI ?_)
          rw [if_pos hpl1, hpl2]
          rw [hpl2] at hpl1
          generalize hn : cl xs (ys.drop p) = n at *
          generalize hq : cp xs (ys.drop p) = pl at *
          rw [if_neg c0] at hw0
          have h215 : ∀ k, k ≤ n → (∀ S2, zX m (Jf jd) S S2 → (∀ i, i / 48 ≠ 217 → yA S2 11 jd m i = yA S 11 jd m i) → (∀ k, k < ys.length → yA S2 11 25 m k = nI (cl xs (ys.drop k))) → (∀ i, i < p + k → yA S2 11 jd m (10416 + i) = (wv xs ys).getD i 0) → (wv xs ys).drop (p + k) = wvG xs (n - k) (pl + k) (ys.drop (p + k)) → xWp (xT0, xSp xT0 (d + 2), none, m_Mo_findDelta, post) 215 [some (.ref m), some (.ref (Λ.2.1 11 7 m)), some (.int (nI p1)), some (.int (nI xs.length)), some (.ref (Λ.2.1 11 7 m)), some (.int (nI p2)), some (.int (nI ys.length)), some (.ref (Λ.2.1 11 jd m)), some (.int 10416), some (.int (nI p)), some (.int (nI n)), some (.int (nI pl)), some (.int (nI k))] [] (yH Λ f0 S2) 0 0) := by
            refine loopUp ?_ ?_
            · intro S2 k2 hs2 ht2 hf2 hd2
              refine b_Mo_findDelta_215 (brle (by omega) (by omega) (fun _ => ?_) (fun w => by omega))
              rw [nI_add]
              rw [Nat.sub_self] at hd2
              exact ih (p + n) (by omega) (by omega) S2 _ _ _ _ k2 hs2 ht2 hf2 hd2
            · intro k hk ih2 S2 k2 hs2 ht2 hf2 hd2
              have e1 : (10416 : Int32) + nI p + nI k = nI (10416 + p + k) := by
                have : (10416 : Int32) + nI p = nI (10416 + p) := nI_add 10416 p
                rw [this, nI_add]
              refine b_Mo_findDelta_215 ?_
              unfold B_Mo_findDelta_215
              rw [e1, nI_add, nI_add, nI_1]
              refine brle (by omega) (by omega) (fun w => by omega) (fun _ => yas hd (yW_n hW hd) (vp_in_nI (by omega) (by omega)) ?_)
              rw [nI_clamp (by omega)]
              have hyd2 : ys.drop (p + k) = ys.getD (p + k) 0 :: ys.drop (p + k + 1) := dropG (by omega)
              rw [hyd2, show n - k = (n - (k + 1)) + 1 by omega, wvG_s] at hd2
              obtain ⟨hz1, hz2⟩ := zdG hd2
              refine ih2 _ (zX_tr k2 (zX_wA (Or.inr (Or.inr rfl)))) (fun i hi => ?_) (fun l hl => ?_) (fun i hi => ?_) ?_
              · rw [yA_s, pk_un (fun e => hi (by rw [e]; omega))]; exact hs2 i hi
              · rw [yA_n _ _ (by omega)]; exact ht2 l hl
              · rw [yA_s]
                by_cases w : i = p + k
                · rw [w, show 10416 + (p + k) = 10416 + p + k by omega, pk_us, hz1]
                · rw [pk_un (by omega)]; exact hf2 i (by omega)
              · rw [show p + (k + 1) = p + k + 1 by omega, hz2, show pl + (k + 1) = pl + k + 1 by omega]
          refine h215 0 (Nat.zero_le _) S1 k1 hs1 ht1 (fun i hi => hf1 i (by omega)) ?_
          rw [Nat.add_zero, Nat.add_zero, Nat.sub_zero, hd1, hw0, hyd, show n = (n - 1) + 1 by omega, wvG_s]
          rfl
        · rw [if_pos c0] at hw0
          rw [hw0] at hd1
          obtain ⟨hz1, hz2⟩ := zdG hd1
          have e1 : (10416 : Int32) + nI p = nI (10416 + p) := nI_add 10416 p
          rw [nI_add, e1, nI_1]
          refine yal (mk7 hL) (vp_in_nI (by omega) (by omega)) (yas hd (yW_n hW hd) (vp_in_nI (by omega) (by omega)) ?_)
          rw [nI_clamp (by omega), nI_clamp (by omega), hg7 k1, hy.1, sb_and hy.2, notI]
          refine ih (p + 1) (by omega) (by omega) _ _ _ _ _ (zX_tr k1 (zX_wA (Or.inr (Or.inr rfl)))) (fun i hi => ?_) (fun l hl => ?_) (fun i hi => ?_) hz2
          · rw [yA_s, pk_un (fun e => hi (by rw [e]; omega))]; exact hs1 i hi
          · rw [yA_n _ _ (by omega)]; exact ht1 l hl
          · rw [yA_s]
            by_cases w : i = p
            · rw [w, pk_us, hz1]
            · rw [pk_un (by omega)]; exact hf1 i (by omega)
  -- the first loop: least COSTS, from the end
  have h14 : ∀ p, p ≤ ys.length → ∀ S1 (u10 u11 u12 : Option Value), zX m (fun j => j = 24 ∨ j = 25) S S1 → (∀ k, p ≤ k → k ≤ ys.length → yA S1 11 24 m k = nI ((cw xs (ys.drop k)).getD 0 0)) → (∀ k, p ≤ k → k < ys.length → yA S1 11 25 m k = nI (cl xs (ys.drop k))) → xWp (xT0, xSp xT0 (d + 2), none, m_Mo_findDelta, post) 14 [some (.ref m), some (.ref (Λ.2.1 11 7 m)), some (.int (nI p1)), some (.int (nI xs.length)), some (.ref (Λ.2.1 11 7 m)), some (.int (nI p2)), some (.int (nI ys.length)), some (.ref (Λ.2.1 11 jd m)), some (.int 10416), some (.int (nI p - 1)), u10, u11, u12] [] (yH Λ f0 S1) 0 0 := by
    intro p
    induction p with
    | zero =>
      intro _ S1 u10 u11 u12 k1 hc1 ht1
      have e : nI 0 - 1 = (-1 : Int32) := by decide
      rw [e]
      refine b_Mo_findDelta_14 ⟨fun _ => ?_, fun w => absurd (by decide) w⟩
      exact h141 _ 0 (Nat.le_refl _) (Nat.zero_le _) S1 _ _ _ 0 (zX_mo k1 (fun j w => by unfold Jf; omega)) (fun i _ => by rw [(mX k1 (j := jd) (by omega)).2]) (fun k hk => ht1 k (Nat.zero_le _) hk) (fun k hk => absurd hk (Nat.not_lt_zero _)) (by rw [List.drop_zero, List.drop_zero]; rfl)
    | succ p ih =>
      intro hpl S1 u10 u11 u12 k1 hc1 ht1
      have hyd : ys.drop p = ys.getD p 0 :: ys.drop (p + 1) := dropG (by omega)
      have hcb : ∀ k l, (cw xs (ys.drop k)).getD l 0 ≤ 96 := fun k l => by
        have := cw_b xs (ys.drop k) l
        rw [List.length_drop] at this
        omega
      rw [nI_pred]
      refine b_Mo_findDelta_14 ⟨fun w => absurd w (nI_pos (by omega)), fun _ => ygr ho rfl (ygr ho rfl ?_)⟩
      rw [nI_1]
      refine yal (mk24 hL) (vp_in_nI (by omega) (by omega)) (yas (mk24 hL) (yW_n hW (mk24 hL)) (vp_in_nI (by omega) (by omega)) (ygr ho rfl (yas (mk25 hL) (yW_n hW (mk25 hL)) (vp_in_nI (by omega) (by omega)) ?_)))
      have e2 : (2 : Int32) + nI ((cw xs (ys.drop (p + 1))).getD 0 0) = nI (2 + (cw xs (ys.drop (p + 1))).getD 0 0) := nI_add 2 _
      rw [nI_clamp (by omega), nI_clamp (by omega), hc1 (p + 1) (by omega) (by omega), e2]
      have hlr := lng_r xs (ys.drop p)
      rw [List.length_drop] at hlr
      have h48 : ∀ n, n ≤ lng xs (ys.drop p) → (∀ S2 (u11 u12 : Option Value), zX m (fun j => j = 24 ∨ j = 25) S S2 → (∀ k, p + 1 ≤ k → k ≤ ys.length → yA S2 11 24 m k = nI ((cw xs (ys.drop k)).getD 0 0)) → (∀ k, p + 1 ≤ k → k < ys.length → yA S2 11 25 m k = nI (cl xs (ys.drop k))) → yA S2 11 24 m p = nI (pick (cw xs (ys.drop (p + 1))) n).1 → yA S2 11 25 m p = nI (pick (cw xs (ys.drop (p + 1))) n).2 → xWp (xT0, xSp xT0 (d + 2), none, m_Mo_findDelta, post) 48 [some (.ref m), some (.ref (Λ.2.1 11 7 m)), some (.int (nI p1)), some (.int (nI xs.length)), some (.ref (Λ.2.1 11 7 m)), some (.int (nI p2)), some (.int (nI ys.length)), some (.ref (Λ.2.1 11 jd m)), some (.int 10416), some (.int (nI p)), some (.int (nI (n + 1))), u11, u12] [] (yH Λ f0 S2) 0 0) := by
        have hg7' : ∀ {S2}, zX m (fun j => j = 24 ∨ j = 25) S S2 → yA S2 11 7 m = yA S 11 7 m := fun k => (mX k (j := 7) (by omega)).2
        have hG : ∀ {S2}, zX m (fun j => j = 24 ∨ j = 25) S S2 → rg (yA S2 11 7 m) p1 xs ∧ rg (yA S2 11 7 m) (p2 + p) (ys.drop p) := fun {S2} k2 => by
          refine ⟨by rw [hg7' k2]; exact g1, fun i hi => ?_⟩
          rw [List.length_drop] at hi
          rw [hg7' k2, dropD, show p2 + p + i = p2 + (p + i) by omega]
          exact g2 (p + i) (by omega)
        refine loopUp ?_ ?_
        · intro S2 u11 u12 k2 hc2 ht2 hcp htp
          have hstop : xWp (xT0, xSp xT0 (d + 2), none, m_Mo_findDelta, post) 14 [some (.ref m), some (.ref (Λ.2.1 11 7 m)), some (.int (nI p1)), some (.int (nI xs.length)), some (.ref (Λ.2.1 11 7 m)), some (.int (nI p2)), some (.int (nI ys.length)), some (.ref (Λ.2.1 11 jd m)), some (.int 10416), some (.int (nI p + (-1))), some (.int (nI (lng xs (ys.drop p) + 1))), u11, u12] [] (yH Λ f0 S2) 0 0 := by
            have := ih (by omega) S2 (some (.int (nI (lng xs (ys.drop p) + 1)))) u11 u12 k2 (fun k h1 h2 => ?_) (fun k h1 h2 => ?_)
            · have e : nI p - 1 = nI p + (-1) := by rw [Int32.sub_eq_add_neg]
              rw [e] at this
              exact this
            · by_cases w : k = p
              · rw [w, hcp, hyd, cw_c]; rfl
              · exact hc2 k (by omega) h2
            · by_cases w : k = p
              · rw [w, htp, hyd, cl_c]
              · exact ht2 k (by omega) h2
          refine b_Mo_findDelta_48 ?_
          unfold B_Mo_findDelta_48
          rw [nI_add, nI_add]
          refine brlt (by omega) (by omega) (fun _ => hstop) (fun hle => ?_)
          obtain ⟨g1', g2'⟩ := hG k2
          refine Mo_placeOf_sp (mk7 hL) (mk7 hL) g1' g2' (by omega) (by rw [List.length_drop]; omega) (by omega) (by omega) (by rw [List.length_drop]; omega) (xviI ?_)
          rw [if_neg (fun w => by have := (pl_lng (by omega)).mp w; omega)]
          exact ⟨fun _ => hstop, fun w => absurd (by decide) w⟩
        · intro n hn ih2 S2 u11 u12 k2 hc2 ht2 hcp htp
          rw [pick_s] at ih2
          have hpk := pick_le (cw xs (ys.drop (p + 1))) n
          have hcb0 := hcb (p + 1) 0
          have hcbn := hcb (p + 1) n
          have ecn : yA S2 11 24 m (p + (n + 1)) = nI ((cw xs (ys.drop (p + 1))).getD n 0) := by
            rw [hc2 (p + (n + 1)) (by omega) (by omega), cw_drop xs (ys.drop (p + 1)) n (by rw [List.length_drop]; omega), List.drop_drop, show p + 1 + n = p + (n + 1) by omega]
          have e5 : (5 : Int32) + nI ((cw xs (ys.drop (p + 1))).getD n 0) = nI (5 + (cw xs (ys.drop (p + 1))).getD n 0) := nI_add 5 _
          refine b_Mo_findDelta_48 ?_
          unfold B_Mo_findDelta_48
          rw [nI_add, nI_add, nI_1]
          refine brlt (by omega) (by omega) (fun w => by omega) (fun hle => ?_)
          obtain ⟨g1', g2'⟩ := hG k2
          have hpl1 : plO xs (ys.drop p) (n + 1) < xs.length + 1 - (n + 1) := (pl_lng (by omega)).mpr (by omega)
          refine Mo_placeOf_sp (mk7 hL) (mk7 hL) g1' g2' (by omega) (by rw [List.length_drop]; omega) (by omega) (by omega) (by rw [List.length_drop]; omega) (xviI ?_)
          rw [if_pos hpl1]
          refine ⟨fun w => absurd w (nI_pos (by omega)), fun _ => ygr ho rfl (yal (mk24 hL) (vp_in_nI (by omega) (by omega)) (ygr ho rfl (yal (mk24 hL) (vp_in_nI (by omega) (by omega)) ?_)))⟩
          rw [nI_clamp (by omega), nI_clamp (by omega), ecn, hcp, e5]
          refine brlt (by omega) (by omega) (fun w => ?_) (fun w => ygr ho rfl (ygr ho rfl (yal (mk24 hL) (vp_in_nI (by omega) (by omega)) (yas (mk24 hL) (yW_n hW (mk24 hL)) (vp_in_nI (by omega) (by omega)) (ygr ho rfl (yas (mk25 hL) (yW_n hW (mk25 hL)) (vp_in_nI (by omega) (by omega)) ?_))))))
          · rw [if_neg (by omega)] at ih2
            exact ih2 S2 _ _ k2 hc2 ht2 hcp htp
          · rw [if_pos w] at ih2
            rw [nI_clamp (by omega), nI_clamp (by omega), ecn, e5]
            refine ih2 _ _ _ (zX_tr (zX_tr k2 (zX_wA (Or.inl rfl))) (zX_wA (Or.inr rfl))) (fun k h1 h2 => ?_) (fun k h1 h2 => ?_) ?_ ?_
            · rw [yA_n _ _ (by omega), yA_s, pk_un (by omega)]; exact hc2 k h1 h2
            · rw [yA_s, pk_un (by omega), yA_n _ _ (by omega)]; exact ht2 k h1 h2
            · rw [yA_n _ _ (by omega), yA_s, pk_us]
            · rw [yA_s, pk_us]
      refine h48 0 (Nat.zero_le _) _ _ _ (zX_tr (zX_tr k1 (zX_wA (Or.inl rfl))) (zX_wA (Or.inr rfl))) (fun k h1 h2 => ?_) (fun k h1 h2 => ?_) ?_ ?_
      · rw [yA_n _ _ (by omega), yA_s, pk_un (by omega)]; exact hc1 k h1 h2
      · rw [yA_s, pk_un (by omega), yA_n _ _ (by omega)]; exact ht1 k h1 h2
      · rw [yA_n _ _ (by omega), yA_s, pk_us]; rfl
      · rw [yA_s, pk_us]; rfl
  refine xSp_of (M := m_Mo_findDelta) rfl (b_Mo_findDelta_0 (ygr ho rfl (yas (mk24 hL) (yW_n hW (mk24 hL)) (vp_in_nI (by omega) (by omega)) ?_)))
  rw [nI_clamp (by omega)]
  refine h14 ys.length (Nat.le_refl _) _ _ _ _ (zX_wA (Or.inl rfl)) (fun k h1 h2 => ?_) (fun k h1 h2 => by omega)
  rw [yA_s, show k = ys.length by omega, pk_us, List.drop_of_length_le (Nat.le_refl _)]
  rfl
end
