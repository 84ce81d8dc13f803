/-! 7s the other object: inverse; where bytes stand -/
theorem mapG {vs : List Sv} {h : Sv → Sv} {k : Nat} (hk : k < vs.length) : (vs.map h).getD k sv0 = h (vs.getD k sv0) := by
  rw [List.getD_eq_getElem?_getD, List.getElem?_map, List.getD_eq_getElem?_getD, List.getElem?_eq_getElem hk]
  rfl
section
variable {Λ : yL} {f0 : xH} {S S' S1 S2 : yS} {m d s t u f g : Nat} {J F : Nat → Prop} {v w : Sv} {vs : List Sv} {ps : List (List Sv)} {zs : List Int32} {xs ys bs cs : List Nat} {B : Ab} {x y a b c e z : Int32} {post : Option Value → xH → Prop}
theorem zX_217 (k : zS m 2 F S S') : zX m Jp S S' := zX_S k (fun j hj => Or.inl (by have := grp2 hj; omega))
theorem M_inverse (q : mQ Λ S m B) (hok : ∀ p, p < (aP B).length → ∀ i, i < ((aP B).getD p []).length → okV (((aP B).getD p []).getD i sv0)) (hp : ∀ S', yFr (A11 m) S S' → mQ Λ S' m (a_inverse B a).1 → post (some (.int (a_inverse B a).2)) (yH Λ f0 S')) : xSp xT0 (d + 8) j_Mo_inverse [.ref m, .int a] (yH Λ f0 S) post := by
  have hL := q.1
  have hW := hL.1
  have ho := hL.2.1
  have hl := q.2.2.2.2.1.1
  have q' := mQ_0 (x := 0) q
  have e23 := q'.2.2.2.2.1.2.1
  unfold a_inverse at hp
  refine xSp_of (M := m_Mo_inverse) rfl (b_Mo_inverse_0 (ypf ho rfl ⟨yex ho, Mo_noPatch_sp q' (fun p hpl e1 e2 => xviI ⟨fun _ => ygi ho rfl ?_, fun z => absurd rfl z⟩) (fun e1 => xviI ⟨fun z => absurd z (by decide), fun _ => ?_⟩)⟩))
  · subst e1
    rw [e2] at hp
    dsimp only at hp
    rw [e23]
    refine brne (b := 8) (by omega) (by omega) (fun c8 => ygi ho rfl ?_) (fun c8 => ?_)
    · rw [if_pos (by omega)] at hp
      have hP := q'.2.2.2.2.1.2.2 p hpl
      have hokp := hok p hpl
      generalize hvs : (aP B).getD p [] = vs at *
      have hvl := hP.1
      rw [e23]
      refine ygr ho rfl (yas (mk22 hL) (yW_n hW (mk22 hL)) (vp_in_nI (by omega) (by omega)) ?_)
      rw [nI_clamp (by omega)]
      have hml : (vs.map invV).length = vs.length := List.length_map _
      have hlo : ∀ i, i ≤ vs.length → (∀ S1 (u4 : Option Value), zX m Jp (ywI S 11 0 m 0) S1 → zP m (aP B).length (ywI S 11 0 m 0) S1 → yI S1 11 23 m = nI (aP B).length → mP S1 m (aP B).length (stV ((vs.map invV).take i)) → xWp (xT0, xSp xT0 (d + 7), none, m_Mo_inverse, post) 41 [some (.ref m), some (.int (nI p)), some (.int (nI (aP B).length)), some (.int (nI i)), u4] [] (yH Λ f0 S1) 0 0) := by
        refine loopUp ?_ ?_
        · intro S1 u4 k1 z1 i23 hU
          have hP1 := mP_o z1 (show p ≠ (aP B).length by omega) (by omega) hP
          refine b_Mo_inverse_41 (ygr ho rfl (yal (mk22 hL) (vp_in_nI (by omega) (by omega)) ?_))
          rw [nI_clamp (by omega), hP1.2.1]
          refine brle (by omega) (by omega) (fun _ => ygi ho rfl (ypf ho rfl ?_)) (fun z => by omega)
          rw [i23, nI_1]
          rw [← hml, List.take_length, ← invP_st] at hU
          have k2 : zX m (fun j => j = 23) S1 (ywI S1 11 23 m (nI ((aP B).length + 1))) := zX_wI rfl
          have k3 : zX m Jp S (ywI S1 11 23 m (nI ((aP B).length + 1))) := zX_tr (zX_tr (zX_wI (by unfold Jp scr; omega)) k1) (zX_mo k2 (fun j z => show Jp j by unfold Jp; omega))
          exact hp _ (zX_Fr k3) (mQ_P k3 q (mPs_add (zP_tr z1 (zP_x k2 (fun j _ _ => by omega))) (by omega) (ywI_s _ _ _ _ _) (mP_x k2 (fun j _ _ => by omega) hU) q'.2.2.2.2.1))
        · intro i hi ih S1 u4 k1 z1 i23 hU
          have hP1 := mP_o z1 (show p ≠ (aP B).length by omega) (by omega) hP
          have hsl : (stV ((vs.map invV).take i)).length = i := by rw [stV_l, List.length_take, hml]; omega
          have hov := hokp i hi
          have est : stV ((vs.map invV).take (i + 1)) = addV (stV ((vs.map invV).take i)) (invV (vs.getD i sv0)) := by
            rw [tkG (by rw [hml]; exact hi), stV_a, mapG hi]
          rw [est] at ih
          refine b_Mo_inverse_41 (ygr ho rfl (yal (mk22 hL) (vp_in_nI (by omega) (by omega)) ?_))
          rw [nI_clamp (by omega), hP1.2.1, n24, nI_1]
          refine brle (by omega) (by omega) (fun z => by omega) (fun _ => ⟨yex ho, Mo_moveStep_sp (t := 217) hL (by omega) (by omega) (by omega) (hP1.2.2 i hi) (fun S2 k2 hq2 => xvvI ⟨yex ho, Mo_swapSides_sp hL hq2 (fun S3 k3 hq3 => xvvI (ygr ho rfl (yal (mk11 hL) (vp_in_nI (n := 217) (by omega) (by omega)) (ygr ho rfl ?_))))⟩)⟩)
          have c217 : (217 : Int32).toNatClampNeg = 217 := nI_clamp (n := 217) (by omega)
          have k13 := zS_tr k2 k3
          have z3 : zP m (aP B).length (ywI S 11 0 m 0) S3 := zP_tr z1 (zP_S k13 (fun i e => Or.inr e))
          have x3 : zX m Jp (ywI S 11 0 m 0) S3 := zX_tr k1 (zX_217 k13)
          have i3 : yI S3 11 23 m = nI (aP B).length := by rw [(k13.1 11 23 m).1]; exact i23
          have hU3 : mP S3 m (aP B).length (stV ((vs.map invV).take i)) := by
            refine ⟨hU.1, by rw [k13.2.1 11 22 m (fun z => absurd z.2.2 (by decide))]; exact hU.2.1, fun k hk => mS_z k13 (fun _ e => ?_) (hU.2.2 k hk)⟩
            have e : 24 * (aP B).length + k = 217 := e
            omega
          rw [c217, hq3.1]
          have hend : ∀ (w : Int32) (u4 : Option Value), w = (invV (vs.getD i sv0)).1 → xas (yH Λ f0 S3) (Λ.2.1 11 11 m) 0 217 w (fun f12 => (∃ fs, f12 m = some (xO 11 fs)) ∧ xSp xT0 (d + 7) j_Mo_addSpare [.ref m, .int (nI (aP B).length)] f12 (fun w13 f14 => xvv w13 (xWp (xT0, xSp xT0 (d + 7), none, m_Mo_inverse, post) 41 [some (.ref m), some (.int (nI p)), some (.int (nI (aP B).length)), some (.int (nI (i + 1))), u4] [] f14 0 0))) := by
            intro w u4 ew
            refine yas (mk11 hL) (yW_n hW (mk11 hL)) (vp_in_nI (n := 217) (by omega) (by omega)) ⟨yex ho, ?_⟩
            rw [c217]
            have k4 : zS m 2 (fun i => i = 217) S3 (ywA S3 11 11 m (upd (yA S3 11 11 m) 217 w)) := zS_u rfl rfl
            have hx4 : zX m (fun j => j = 11) S3 (ywA S3 11 11 m (upd (yA S3 11 11 m) 217 w)) := zX_wA rfl
            have hU4 : mP (ywA S3 11 11 m (upd (yA S3 11 11 m) 217 w)) m (aP B).length (stV ((vs.map invV).take i)) := by
              refine ⟨hU3.1, by rw [k4.2.1 11 22 m (fun z => absurd z.2.2 (by decide))]; exact hU3.2.1, fun k hk => mS_z k4 (fun _ e => ?_) (hU3.2.2 k hk)⟩
              have e : 24 * (aP B).length + k = 217 := e
              omega
            have hv4 : mS (ywA S3 11 11 m (upd (yA S3 11 11 m) 217 w)) m 217 (invV (vs.getD i sv0)) := by
              obtain ⟨s1, s2, s3, s4, s5, s6⟩ := hq3
              have e : ∀ k, k ≠ 11 → yA (ywA S3 11 11 m (upd (yA S3 11 11 m) 217 w)) 11 k m = yA S3 11 k m := fun k hk => by rw [yA_n _ _ (by omega)]
              refine ⟨by rw [yA_s, pk_us]; exact ew, ?_, ?_, ?_, ?_, ?_⟩
              · rw [e 13 (by decide), e 12 (by decide)]; exact s2
              · rw [e 15 (by decide), e 14 (by decide)]; exact s3
              · rw [e 16 (by decide), e 17 (by decide), e 18 (by decide), e 19 (by decide)]; exact s4
              · rw [e 20 (by decide)]; exact s5
              · rw [e 21 (by decide)]; exact s6
            refine Mo_addSpare_sp hL (by omega) hU4 (by omega) hv4 (fun k hk => ?_) hov.2.1.2.1 (fun S5 k5 hs5 h225 hU5 => xvvI ?_)
            · rw [hsl] at hk
              obtain ⟨k', hk', e'⟩ := stV_mem (vs.map invV) i (by rw [hml]; omega) k hk
              rw [e', mapG (by omega)]
              exact (hokp k' (by omega)).2.1.2.1
            · refine ih S5 _ (zX_tr (zX_tr x3 (zX_217 k4)) (zX_mo k5 (fun j z => Or.inl (by rcases z with z | z; have := grp2 z; omega; omega)))) (zP_tr (zP_tr z3 (zP_S k4 (fun i e => Or.inr e))) ⟨fun s q a _ b => hs5 s q a b, h225⟩) ?_ hU5
              rw [(mX k5 (j := 23) (fun z => by rcases z with z | z; have := grp2 z; omega; omega)).1]
              exact i3
          refine ⟨fun c0 => ⟨fun c1 => hend _ _ ?_, fun c1 => hend _ _ ?_⟩, fun c0 => hend _ _ ?_⟩
          · show (vs.getD i sv0).1 = if (vs.getD i sv0).1 = 0 then 1 else if (vs.getD i sv0).1 = 1 then 0 else (vs.getD i sv0).1
            rw [if_neg c0, if_neg c1]
          · show (0 : Int32) = if (vs.getD i sv0).1 = 0 then 1 else if (vs.getD i sv0).1 = 1 then 0 else (vs.getD i sv0).1
            rw [if_neg c0, if_pos (Classical.not_not.mp c1)]
          · show (1 : Int32) = if (vs.getD i sv0).1 = 0 then 1 else if (vs.getD i sv0).1 = 1 then 0 else (vs.getD i sv0).1
            rw [if_pos (Classical.not_not.mp c0)]
      exact hlo 0 (Nat.zero_le _) _ none (zX_wA (by unfold Jp; omega)) zP_22 e23 ⟨by show 0 ≤ 24; omega, by rw [yA_s, pk_us]; rfl, fun i hi => absurd hi (Nat.not_lt_zero _)⟩
    · rw [if_neg (by omega)] at hp
      exact hp _ M0_Fr q'
  · rw [e1] at hp
    exact hp _ M0_Fr q'
/-- how far two rows of bytes are the same -/
theorem cpl_iff : ∀ {xs ys : List Nat} {n : Nat}, n ≤ cpl xs ys ↔ (n ≤ xs.length ∧ n ≤ ys.length ∧ ∀ k, k < n → xs.getD k 0 = ys.getD k 0)
  | [], ys, n => by
    rw [cpl_nl]
    exact ⟨fun h => ⟨by simp; omega, by omega, fun k hk => by omega⟩, fun h => by have := h.1; simp at this; omega⟩
  | x :: xs, [], n => by
    rw [cpl_nr]
    exact ⟨fun h => ⟨by simp; omega, by simp; omega, fun k hk => by omega⟩, fun h => by have := h.2.1; simp at this; omega⟩
  | x :: xs, y :: ys, n => by
    rw [cpl_c]
    cases n with
    | zero => exact ⟨fun _ => ⟨Nat.zero_le _, Nat.zero_le _, fun k hk => absurd hk (Nat.not_lt_zero _)⟩, fun _ => Nat.zero_le _⟩
    | succ n =>
      have ih := cpl_iff (xs := xs) (ys := ys) (n := n)
      by_cases c : x = y
      · rw [if_pos c]
        refine ⟨fun h => ?_, fun h => ?_⟩
        · have h' := ih.mp (by omega)
          refine ⟨by rw [List.length_cons]; omega, by rw [List.length_cons]; omega, fun k hk => ?_⟩
          cases k with
          | zero => exact c
          | succ k => exact h'.2.2 k (by omega)
        · have : n ≤ cpl xs ys := ih.mpr ⟨by have := h.1; rw [List.length_cons] at this; omega, by have := h.2.1; rw [List.length_cons] at this; omega, fun k hk => h.2.2 (k + 1) (by omega)⟩
          omega
      · rw [if_neg c]
        exact ⟨fun h => by omega, fun h => absurd (h.2.2 0 (by omega)) c⟩
theorem dropD {xs : List Nat} {i k : Nat} : (xs.drop i).getD k 0 = xs.getD (i + k) 0 := by
  rw [List.getD_eq_getElem?_getD, List.getElem?_drop, ← List.getD_eq_getElem?_getD]
theorem Mo_stands_sp {r q c1 j1 o1 c2 j2 o2 n1 n2 p1 p2 : Nat} (h1 : yn Λ r c1 j1 o1 2 n1) (h2 : yn Λ q c2 j2 o2 2 n2) (g1 : rg (yA S c1 j1 o1) p1 xs) (g2 : rg (yA S c2 j2 o2) p2 ys) (b1 : p1 + xs.length ≤ n1) (b2 : p2 + ys.length ≤ n2) (m1 : n1 < 2 ^ 29) (m2 : n2 < 2 ^ 29) {i n : Nat} (hi : i ≤ xs.length) (hn : n ≤ ys.length) (hp : post (some (.int (bI (decide (n ≤ cpl (xs.drop i) ys))))) (yH Λ f0 S)) : xSp xT0 (d + 1) j_Mo_stands [.ref r, .int (nI p1), .int (nI xs.length), .int (nI i), .ref q, .int (nI p2), .int (nI n)] (yH Λ f0 S) post := by
  have hdl : (xs.drop i).length = xs.length - i := List.length_drop
  refine xSp_of (M := m_Mo_stands) rfl (b_Mo_stands_0 ?_)
  unfold B_Mo_stands_0
  rw [nI_add]
  refine brle (by omega) (by omega) (fun c => ?_) (fun c => ?_)
  · have hlo : ∀ k, k ≤ n → ((∀ l, l < k → (xs.drop i).getD l 0 = ys.getD l 0) → xWp (xT0, xSp xT0 d, none, m_Mo_stands, post) 13 [some (.ref r), some (.int (nI p1)), some (.int (nI xs.length)), some (.int (nI i)), some (.ref q), some (.int (nI p2)), some (.int (nI n)), some (.int (nI k))] [] (yH Λ f0 S) 0 0) := by
      refine loopUp ?_ ?_
      · intro hg
        refine b_Mo_stands_13 (brle (by omega) (by omega) (fun _ => ?_) (fun z => by omega))
        rw [decide_eq_true (cpl_iff.mpr ⟨by omega, hn, hg⟩)] at hp
        exact hp
      · intro k hk ih hg
        refine b_Mo_stands_13 (brle (by omega) (by omega) (fun z => by omega) (fun _ => ?_))
        have hx := g1 (i + k) (by omega)
        have hy := g2 k (by omega)
        rw [nI_add, nI_add, nI_add, nI_1]
        refine yal h1 (vp_in_nI (by omega) (by omega)) (yal h2 (vp_in_nI (by omega) (by omega)) ?_)
        rw [nI_clamp (by omega), nI_clamp (by omega), show p1 + i + k = p1 + (i + k) by omega, hx.1, hy.1]
        refine ⟨fun z => ih (fun l hl => ?_), fun z => ?_⟩
        · by_cases w : l = k
          · rw [w, dropD]; exact sb_inj hx.2 hy.2 z
          · exact hg l (by omega)
        · rw [decide_eq_false (fun w => z (by rw [← dropD, (cpl_iff.mp w).2.2 k hk]))] at hp
          exact hp
    exact hlo 0 (Nat.zero_le _) (fun l hl => absurd hl (Nat.not_lt_zero _))
  · rw [decide_eq_false (fun w => by have := (cpl_iff.mp w).1; omega)] at hp
    exact hp
/-- the first place where n bytes stand -/
def plO (xs ys : List Nat) (n : Nat) : Nat := fstI (fun i => decide (n ≤ cpl (xs.drop i) ys)) (xs.length + 1 - n)
theorem Mo_placeOf_sp {r q c1 j1 o1 c2 j2 o2 n1 n2 p1 p2 : Nat} (h1 : yn Λ r c1 j1 o1 2 n1) (h2 : yn Λ q c2 j2 o2 2 n2) (g1 : rg (yA S c1 j1 o1) p1 xs) (g2 : rg (yA S c2 j2 o2) p2 ys) (b1 : p1 + xs.length ≤ n1) (b2 : p2 + ys.length ≤ n2) (m1 : n1 < 2 ^ 29) (m2 : n2 < 2 ^ 29) {n : Nat} (hn : n ≤ ys.length) (hp : post (some (.int (if plO xs ys n < xs.length + 1 - n then nI (plO xs ys n) else -2))) (yH Λ f0 S)) : xSp xT0 (d + 2) j_Mo_placeOf [.ref r, .int (nI p1), .int (nI xs.length), .ref q, .int (nI p2), .int (nI n)] (yH Λ f0 S) post := by
  refine xSp_of (M := m_Mo_placeOf) rfl (b_Mo_placeOf_0 ?_)
  have hlo : ∀ i, i ≤ xs.length + 1 - n → ((∀ l, l < i → decide (n ≤ cpl (xs.drop l) ys) = false) → xWp (xT0, xSp xT0 (d + 1), none, m_Mo_placeOf, post) 3 [some (.ref r), some (.int (nI p1)), some (.int (nI xs.length)), some (.ref q), some (.int (nI p2)), some (.int (nI n)), some (.int (nI i))] [] (yH Λ f0 S) 0 0) := by
    refine loopUp ?_ ?_
    · intro hg
      refine b_Mo_placeOf_3 ?_
      unfold B_Mo_placeOf_3
      rw [nI_add]
      have e : plO xs ys n = xs.length + 1 - n := fstI_eq (Nat.le_refl _) hg (Or.inl rfl)
      rw [e, if_neg (Nat.lt_irrefl _)] at hp
      exact brlt (by omega) (by omega) (fun _ => hp) (fun z => by omega)
    · intro i hi ih hg
      refine b_Mo_placeOf_3 ?_
      unfold B_Mo_placeOf_3
      rw [nI_add, nI_1]
      refine brlt (by omega) (by omega) (fun z => by omega) (fun _ => Mo_stands_sp h1 h2 g1 g2 b1 b2 m1 m2 (by omega) hn (xviI (brB (fun r => ih (fun l hl => ?_)) (fun r => ?_))))
      · by_cases w : l = i
        · rw [w]; exact r
        · exact hg l (by omega)
      · have e : plO xs ys n = i := fstI_eq (Nat.le_of_lt hi) hg (Or.inr r)
        rw [e, if_pos hi] at hp
        exact hp
  exact hlo 0 (Nat.zero_le _) (fun l hl => absurd hl (Nat.not_lt_zero _))
end
