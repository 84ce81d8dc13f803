/-! 7r the other object: INVERSES -/
theorem addV_mem {vs : List Sv} {v : Sv} {i : Nat} (hi : i < vs.length + 1) : (addV vs v).getD i sv0 = v ∨ ∃ k, k < vs.length ∧ (addV vs v).getD i sv0 = vs.getD k sv0 := by
  have hle := insV_le v vs vs.length
  unfold addV
  rw [insA_at hle]
  by_cases c : i < insV v vs vs.length
  · rw [if_pos c]; exact Or.inr ⟨i, by omega, rfl⟩
  · rw [if_neg c]
    by_cases c2 : i = insV v vs vs.length
    · rw [if_pos c2]; exact Or.inl rfl
    · rw [if_neg c2]; exact Or.inr ⟨i - 1, by omega, rfl⟩
theorem tkG {st : List Sv} {n : Nat} (h : n < st.length) : st.take (n + 1) = st.take n ++ [st.getD n sv0] := by
  rw [List.take_succ, List.getD_eq_getElem?_getD, List.getElem?_eq_getElem h]; rfl
/-- each STEP of the sum is one that was put in -/
theorem stV_mem (st : List Sv) : ∀ n, n ≤ st.length → ∀ i, i < n → ∃ k, k < n ∧ (stV (st.take n)).getD i sv0 = st.getD k sv0
  | 0, _, i, h => absurd h (Nat.not_lt_zero _)
  | n + 1, hn, i, h => by
    rw [tkG (by omega), stV_a]
    have hl : (stV (st.take n)).length = n := by rw [stV_l, List.length_take]; omega
    rcases addV_mem (vs := stV (st.take n)) (v := st.getD n sv0) (i := i) (by omega) with e | ⟨k, hk, e⟩
    · exact ⟨n, by omega, e⟩
    · obtain ⟨k', hk', e'⟩ := stV_mem st n (by omega) k (by omega)
      exact ⟨k', by omega, e.trans e'⟩
theorem invP_st (vs : List Sv) : invP vs = stV (vs.map invV) := by
  unfold invP stV
  rw [List.foldl_map]
section
variable {Λ : yL} {f0 : xH} {S S' S1 S2 : yS} {m d s t u f g : Nat} {J F : Nat → Prop} {v w : Sv} {vs : List Sv} {ps : List (List Sv)} {zs : List Int32} {bs cs : List Nat} {B : Ab} {x y a b c e z : Int32} {post : Option Value → xH → Prop}
/-- all STEPS but those of one PATCH, and the spare one, stay -/
def zP (m u : Nat) (S S' : yS) : Prop := (∀ s q, ¬ Fp u s → s ≠ 217 → mS S m s q → mS S' m s q) ∧ ∀ p, p ≠ u → yA S' 11 22 m p = yA S 11 22 m p
theorem zP_rf : zP m u S S := ⟨fun _ _ _ _ h => h, fun _ _ => rfl⟩
theorem zP_tr (h1 : zP m u S S1) (h2 : zP m u S1 S2) : zP m u S S2 := ⟨fun f q a a' b => h2.1 f q a a' (h1.1 f q a a' b), fun t a => (h2.2 t a).trans (h1.2 t a)⟩
theorem zP_x (k : zX m J S S') (h : ∀ j, 11 ≤ j → j ≤ 22 → ¬ J j) : zP m u S S' := ⟨fun f q _ _ b => mS_x k (fun j h1 h2 => h j h1 (by omega)) b, fun t _ => by rw [(mX k (h 22 (by omega) (by omega))).2]⟩
theorem zP_S (k : zS m 2 F S S') (h : ∀ i, F i → Fp u i ∨ i = 217) : zP m u S S' := ⟨fun f q a a' b => mS_z k (fun _ z => (h f z).elim a a') b, fun t _ => by rw [k.2.1 11 22 m (fun z => absurd z.2.2 (by decide))]⟩
theorem zP_22 {v : Int32} : zP m u S (ywA S 11 22 m (upd (yA S 11 22 m) u v)) := ⟨fun f q _ _ b => mS_x (J := fun j => j = 22) (zX_wA rfl) (fun j _ _ => by omega) b, fun t h => by rw [yA_s, pk_un h]⟩
theorem mP_o (h : zP m u S S') {p : Nat} (hpu : p ≠ u) (hp9 : p < 9) (q : mP S m p vs) : mP S' m p vs := by
  have hl := q.1
  refine ⟨q.1, by rw [h.2 p hpu]; exact q.2.1, fun i hi => h.1 _ _ (fun z => ?_) (by omega) (q.2.2 i hi)⟩
  have z1 : 24 * u ≤ 24 * p + i := z.1
  have z2 : 24 * p + i < 24 * u + 24 := z.2
  omega
theorem mPs_add (h : zP m ps.length S S') (hl : ps.length < 8) (h23 : yI S' 11 23 m = nI (ps.length + 1)) (hu : mP S' m ps.length vs) (q : mPs S m ps) : mPs S' m (ps ++ [vs]) := by
  have hlen : (ps ++ [vs]).length = ps.length + 1 := by rw [List.length_append]; rfl
  refine ⟨by rw [hlen]; omega, by rw [hlen]; exact h23, fun t ht => ?_⟩
  rw [apG ht]
  rw [hlen] at ht
  by_cases c : t < ps.length
  · rw [if_pos c]; exact mP_o h (by omega) (by omega) (q.2.2 t c)
  · rw [if_neg c, show t = ps.length by omega]; exact hu
abbrev Jp (j : Nat) : Prop := (11 ≤ j ∧ j ≤ 23) ∨ scr j
theorem mQ_P (k : zX m Jp S S') (q : mQ Λ S m B) (h : mPs S' m ps) : mQ Λ S' m (wP B ps) := by
  obtain ⟨q0, q1, q2, q3, q4, q5, q6⟩ := q
  exact ⟨q0, mTa_x k (fun j _ _ => by unfold Jp scr; omega) q1, mHa_x k (fun j _ _ => by unfold Jp scr; omega) q2, mTs_x k (fun j _ _ => by unfold Jp scr; omega) q3, h, mCo_x k (fun j _ _ => by unfold Jp scr; omega) q5, mDi_x k (fun j _ _ => by unfold Jp scr; omega) q6⟩
/-- two rows, a place each -/
def sw2 (S S' : yS) (m j1 j2 p n : Nat) : Prop := (∀ i, i < n → yA S' 11 j1 m (p + i) = yA S 11 j2 m (p + i) ∧ yA S' 11 j2 m (p + i) = yA S 11 j1 m (p + i)) ∧ ∀ k, k ≠ j1 → k ≠ j2 → yA S' 11 k m = yA S 11 k m
theorem Mo_swapSides_sp (hL : mLay Λ m) (h : mS S m 217 v) (hp : ∀ S', zS m 2 (fun i => i = 217) S S' → mS S' m 217 (v.1, v.2.2.1, v.2.1, v.2.2.2.2.2.1, v.2.2.2.2.2.2.1, v.2.2.2.1, v.2.2.2.2.1, v.2.2.2.2.2.2.2.2, v.2.2.2.2.2.2.2.1) → post none (yH Λ f0 S')) : xSp xT0 (d + 1) j_Mo_swapSides [.ref m] (yH Λ f0 S) post := by
  have hW := hL.1
  have ho := hL.2.1
  obtain ⟨s1, ⟨s2, s3, s4⟩, ⟨s5, s6, s7⟩, ⟨s8, s9, s10, s11⟩, ⟨s12, s13⟩, s14, s15⟩ := h
  have hz : ∀ {Z : yS} {j : Nat} {x : Int32} {i : Nat}, grp j = 2 → i / wid j = 217 → zS m 2 (fun i => i = 217) Z (ywA Z 11 j m (upd (yA Z 11 j m) i x)) := fun h1 h2 => zS_u h1 h2
  have h58 : ∀ S1 (u2 : Option Value), zS m 2 (fun i => i = 217) S S1 → (∀ i, i < 48 → yA S1 11 20 m (10416 + i) = yA S 11 21 m (10416 + i) ∧ yA S1 11 21 m (10416 + i) = yA S 11 20 m (10416 + i)) → (∀ k, k ≠ 20 → k ≠ 21 → yA S1 11 k m = yA S 11 k m) → xWp (xT0, xSp xT0 d, none, m_Mo_swapSides, post) 58 [some (.ref m), some (.int 0), u2] [] (yH Λ f0 S1) 0 0 := by
    intro S1 u2 k1 hsw1 ho1
    have hlo : ∀ k, k ≤ 18 → (∀ S2 (u2 : Option Value), zS m 2 (fun i => i = 217) S1 S2 → (∀ i, i < k → yA S2 11 12 m (3906 + i) = (yA S1 11 14 m (3906 + i)).toInt8.toInt32 ∧ yA S2 11 14 m (3906 + i) = (yA S1 11 12 m (3906 + i)).toInt8.toInt32) → (∀ i, k ≤ i → yA S2 11 12 m (3906 + i) = yA S1 11 12 m (3906 + i) ∧ yA S2 11 14 m (3906 + i) = yA S1 11 14 m (3906 + i)) → (∀ k, k ≠ 12 → k ≠ 14 → yA S2 11 k m = yA S1 11 k m) → xWp (xT0, xSp xT0 d, none, m_Mo_swapSides, post) 58 [some (.ref m), some (.int (nI k)), u2] [] (yH Λ f0 S2) 0 0) := by
      refine loopUp ?_ ?_
      · intro S2 u2 k2 hsw2 _ ho2
        refine b_Mo_swapSides_58 (brle (a := 18) (by omega) (by omega) (fun _ => ?_) (fun z => by omega))
        have v217 : vp_in (217 : Int32) 220 := vp_in_nI (n := 217) (by omega) (by omega)
        have c217 : (217 : Int32).toNatClampNeg = 217 := nI_clamp (n := 217) (by omega)
        refine ygr ho rfl (yal (mk13 hL) v217 (ygr ho rfl (ygr ho rfl (yal (mk15 hL) v217 (yas (mk13 hL) (yW_n hW (mk13 hL)) v217 (ygr ho rfl (yas (mk15 hL) (yW_n hW (mk15 hL)) v217 (ygr ho rfl (yal (mk16 hL) v217 (ygr ho rfl (ygr ho rfl (yal (mk18 hL) v217 (yas (mk16 hL) (yW_n hW (mk16 hL)) v217 (ygr ho rfl (yas (mk18 hL) (yW_n hW (mk18 hL)) v217 (ygr ho rfl (yal (mk17 hL) v217 (ygr ho rfl (ygr ho rfl (yal (mk19 hL) v217 (yas (mk17 hL) (yW_n hW (mk17 hL)) v217 (ygr ho rfl (yas (mk19 hL) (yW_n hW (mk19 hL)) v217 ?_)))))))))))))))))))))))
        rw [c217]
        generalize hA : ywA S2 11 13 m (upd (yA S2 11 13 m) 217 (yA S2 11 15 m 217)) = SA
        generalize hB : ywA SA 11 15 m (upd (yA SA 11 15 m) 217 (yA S2 11 13 m 217)) = SB
        generalize hC : ywA SB 11 16 m (upd (yA SB 11 16 m) 217 (yA SB 11 18 m 217)) = SC
        generalize hD : ywA SC 11 18 m (upd (yA SC 11 18 m) 217 (yA SB 11 16 m 217)) = SD
        generalize hE : ywA SD 11 17 m (upd (yA SD 11 17 m) 217 (yA SD 11 19 m 217)) = SE
        generalize hF : ywA SE 11 19 m (upd (yA SE 11 19 m) 217 (yA SD 11 17 m 217)) = SF
        have oA : ∀ k, k ≠ 13 → yA SA 11 k m = yA S2 11 k m := fun k hk => by rw [← hA, yA_n _ _ (by omega)]
        have oB : ∀ k, k ≠ 15 → yA SB 11 k m = yA SA 11 k m := fun k hk => by rw [← hB, yA_n _ _ (by omega)]
        have oC : ∀ k, k ≠ 16 → yA SC 11 k m = yA SB 11 k m := fun k hk => by rw [← hC, yA_n _ _ (by omega)]
        have oD : ∀ k, k ≠ 18 → yA SD 11 k m = yA SC 11 k m := fun k hk => by rw [← hD, yA_n _ _ (by omega)]
        have oE : ∀ k, k ≠ 17 → yA SE 11 k m = yA SD 11 k m := fun k hk => by rw [← hE, yA_n _ _ (by omega)]
        have oF : ∀ k, k ≠ 19 → yA SF 11 k m = yA SE 11 k m := fun k hk => by rw [← hF, yA_n _ _ (by omega)]
        have kF : zS m 2 (fun i => i = 217) S SF := by
          refine zS_tr (zS_tr k1 k2) (zS_tr (zS_tr (zS_tr (zS_tr (zS_tr (S1 := SA) ?_ (S2 := SB) ?_) (S2 := SC) ?_) (S2 := SD) ?_) (S2 := SE) ?_) ?_)
          · rw [← hA]; exact hz rfl rfl
          · rw [← hB]; exact hz rfl rfl
          · rw [← hC]; exact hz rfl rfl
          · rw [← hD]; exact hz rfl rfl
          · rw [← hE]; exact hz rfl rfl
          · rw [← hF]; exact hz rfl rfl
        have g : ∀ k, k ≠ 20 → k ≠ 21 → k ≠ 12 → k ≠ 14 → yA S2 11 k m = yA S 11 k m := fun k a1 a2 a3 a4 => by rw [ho2 k a3 a4, ho1 k a1 a2]
        refine hp SF kF ⟨?_, ⟨?_, s6, ?_⟩, ⟨?_, s3, ?_⟩, ⟨?_, ?_, ?_, ?_⟩, ⟨s14, fun i hi => ?_⟩, s12, fun i hi => ?_⟩
        · rw [oF 11 (by decide), oE 11 (by decide), oD 11 (by decide), oC 11 (by decide), oB 11 (by decide), oA 11 (by decide), g 11 (by decide) (by decide) (by decide) (by decide)]; exact s1
        · rw [oF 13 (by decide), oE 13 (by decide), oD 13 (by decide), oC 13 (by decide), oB 13 (by decide), ← hA, yA_s, pk_us, g 15 (by decide) (by decide) (by decide) (by decide)]; exact s5
        · intro i hi
          have hi18 : i < 18 := by have : i < v.2.2.1.length := hi; omega
          rw [oF 12 (by decide), oE 12 (by decide), oD 12 (by decide), oC 12 (by decide), oB 12 (by decide), oA 12 (by decide)]
          have e1 := (hsw2 i hi18).1
          rw [ho1 14 (by decide) (by decide)] at e1
          rw [show 18 * 217 + i = 3906 + i by omega, e1]
          have := s7 i hi
          rw [show 18 * 217 + i = 3906 + i by omega] at this
          rw [this.1, sb_id]
          exact ⟨rfl, this.2⟩
        · rw [oF 15 (by decide), oE 15 (by decide), oD 15 (by decide), oC 15 (by decide), ← hB, yA_s, pk_us, g 13 (by decide) (by decide) (by decide) (by decide)]; exact s2
        · intro i hi
          have hi18 : i < 18 := by have : i < v.2.1.length := hi; omega
          rw [oF 14 (by decide), oE 14 (by decide), oD 14 (by decide), oC 14 (by decide), oB 14 (by decide), oA 14 (by decide)]
          have e1 := (hsw2 i hi18).2
          rw [ho1 12 (by decide) (by decide)] at e1
          rw [show 18 * 217 + i = 3906 + i by omega, e1]
          have := s4 i hi
          rw [show 18 * 217 + i = 3906 + i by omega] at this
          rw [this.1, sb_id]
          exact ⟨rfl, this.2⟩
        · rw [oF 16 (by decide), oE 16 (by decide), oD 16 (by decide), ← hC, yA_s, pk_us, oB 18 (by decide), oA 18 (by decide), g 18 (by decide) (by decide) (by decide) (by decide)]; exact s10
        · rw [oF 17 (by decide), ← hE, yA_s, pk_us, oD 19 (by decide), oC 19 (by decide), oB 19 (by decide), oA 19 (by decide), g 19 (by decide) (by decide) (by decide) (by decide)]; exact s11
        · rw [oF 18 (by decide), oE 18 (by decide), ← hD, yA_s, pk_us, oB 16 (by decide), oA 16 (by decide), g 16 (by decide) (by decide) (by decide) (by decide)]; exact s8
        · rw [← hF, yA_s, pk_us, oD 17 (by decide), oC 17 (by decide), oB 17 (by decide), oA 17 (by decide), g 17 (by decide) (by decide) (by decide) (by decide)]; exact s9
        · have hi48 : i < 48 := by have : i < v.2.2.2.2.2.2.2.2.length := hi; omega
          rw [oF 20 (by decide), oE 20 (by decide), oD 20 (by decide), oC 20 (by decide), oB 20 (by decide), oA 20 (by decide), ho2 20 (by decide) (by decide)]
          have := s15 i hi
          rw [show 48 * 217 + i = 10416 + i by omega] at this ⊢
          rw [(hsw1 i hi48).1]; exact this
        · have hi48 : i < 48 := by have : i < v.2.2.2.2.2.2.2.1.length := hi; omega
          rw [oF 21 (by decide), oE 21 (by decide), oD 21 (by decide), oC 21 (by decide), oB 21 (by decide), oA 21 (by decide), ho2 21 (by decide) (by decide)]
          have := s13 i hi
          rw [show 48 * 217 + i = 10416 + i by omega] at this ⊢
          rw [(hsw1 i hi48).2]; exact this
      · intro k hk ih S2 u2 k2 hsw2 hun2 ho2
        have e3906 : (3906 : Int32) + nI k = nI (3906 + k) := nI_add 3906 k
        refine b_Mo_swapSides_58 ?_
        unfold B_Mo_swapSides_58
        rw [e3906, nI_1]
        refine brle (a := 18) (by omega) (by omega) (fun z => by omega) (fun _ => ygr ho rfl (yal (mk12 hL) (vp_in_nI (by omega) (by omega)) (ygr ho rfl (ygr ho rfl (yal (mk14 hL) (vp_in_nI (by omega) (by omega)) (yas (mk12 hL) (yW_n hW (mk12 hL)) (vp_in_nI (by omega) (by omega)) (ygr ho rfl (yas (mk14 hL) (yW_n hW (mk14 hL)) (vp_in_nI (by omega) (by omega)) ?_))))))))
        rw [nI_clamp (by omega)]
        have d18 : (3906 + k) / 18 = 217 := by omega
        have e14 : ∀ g0 : Nat → Int32, yA (ywA S2 11 12 m g0) 11 14 m = yA S2 11 14 m := fun _ => by rw [yA_n _ _ (by omega)]
        rw [e14]
        refine ih _ _ (zS_tr (zS_tr k2 (zS_u (j := 12) (i := 3906 + k) (v := (yA S2 11 14 m (3906 + k)).toInt8.toInt32) rfl (by show (3906 + k) / 18 = 217; exact d18))) ?_) (fun i hi => ?_) (fun i hi => ?_) (fun j h1 h2 => ?_)
        · have := zS_u (m := m) (S := ywA S2 11 12 m (upd (yA S2 11 12 m) (3906 + k) (yA S2 11 14 m (3906 + k)).toInt8.toInt32)) (j := 14) (i := 3906 + k) (v := (yA S2 11 12 m (3906 + k)).toInt8.toInt32) (F := fun i => i = 217) (g := 2) rfl (by show (3906 + k) / 18 = 217; exact d18)
          rw [e14] at this
          exact this
        · rw [yA_n _ _ (by omega), yA_s, yA_s]
          by_cases w : i = k
          · rw [w, pk_us, pk_us, (hun2 k (Nat.le_refl _)).1, (hun2 k (Nat.le_refl _)).2]; exact ⟨rfl, rfl⟩
          · rw [pk_un (by omega), pk_un (by omega)]; exact hsw2 i (by omega)
        · rw [yA_n _ _ (by omega), yA_s, yA_s, pk_un (by omega), pk_un (by omega)]; exact hun2 i (by omega)
        · rw [yA_n _ _ (by omega), yA_n _ _ (by omega)]; exact ho2 j h1 h2
    exact hlo 0 (Nat.zero_le _) S1 u2 zS_rf (fun i hi => absurd hi (Nat.not_lt_zero _)) (fun _ _ => ⟨rfl, rfl⟩) (fun _ _ _ => rfl)
  have hlo : ∀ k, k ≤ 48 → (∀ S1 (u2 : Option Value), zS m 2 (fun i => i = 217) S S1 → (∀ i, i < k → yA S1 11 20 m (10416 + i) = yA S 11 21 m (10416 + i) ∧ yA S1 11 21 m (10416 + i) = yA S 11 20 m (10416 + i)) → (∀ i, k ≤ i → yA S1 11 20 m (10416 + i) = yA S 11 20 m (10416 + i) ∧ yA S1 11 21 m (10416 + i) = yA S 11 21 m (10416 + i)) → (∀ k, k ≠ 20 → k ≠ 21 → yA S1 11 k m = yA S 11 k m) → xWp (xT0, xSp xT0 d, none, m_Mo_swapSides, post) 2 [some (.ref m), some (.int (nI k)), u2] [] (yH Λ f0 S1) 0 0) := by
    refine loopUp ?_ ?_
    · intro S1 u2 k1 hsw _ ho1
      exact b_Mo_swapSides_2 (brle (a := 48) (by omega) (by omega) (fun _ => h58 S1 u2 k1 hsw ho1) (fun z => by omega))
    · intro k hk ih S1 u2 k1 hsw hun ho1
      have e10416 : (10416 : Int32) + nI k = nI (10416 + k) := nI_add 10416 k
      refine b_Mo_swapSides_2 ?_
      unfold B_Mo_swapSides_2
      rw [e10416, nI_1]
      refine brle (a := 48) (by omega) (by omega) (fun z => by omega) (fun _ => ygr ho rfl (yal (mk20 hL) (vp_in_nI (by omega) (by omega)) (ygr ho rfl (ygr ho rfl (yal (mk21 hL) (vp_in_nI (by omega) (by omega)) (yas (mk20 hL) (yW_n hW (mk20 hL)) (vp_in_nI (by omega) (by omega)) (ygr ho rfl (yas (mk21 hL) (yW_n hW (mk21 hL)) (vp_in_nI (by omega) (by omega)) ?_))))))))
      rw [nI_clamp (by omega)]
      have d48 : (10416 + k) / 48 = 217 := by omega
      have e21 : ∀ g0 : Nat → Int32, yA (ywA S1 11 20 m g0) 11 21 m = yA S1 11 21 m := fun _ => by rw [yA_n _ _ (by omega)]
      rw [e21]
      refine ih _ _ (zS_tr (zS_tr k1 (zS_u (j := 20) (i := 10416 + k) (v := yA S1 11 21 m (10416 + k)) rfl (by show (10416 + k) / 48 = 217; exact d48))) ?_) (fun i hi => ?_) (fun i hi => ?_) (fun j h1 h2 => ?_)
      · have := zS_u (m := m) (S := ywA S1 11 20 m (upd (yA S1 11 20 m) (10416 + k) (yA S1 11 21 m (10416 + k)))) (j := 21) (i := 10416 + k) (v := yA S1 11 20 m (10416 + k)) (F := fun i => i = 217) (g := 2) rfl (by show (10416 + k) / 48 = 217; exact d48)
        rw [e21] at this
        exact this
      · rw [yA_n _ _ (by omega), yA_s, yA_s]
        by_cases w : i = k
        · rw [w, pk_us, pk_us, (hun k (Nat.le_refl _)).1, (hun k (Nat.le_refl _)).2]; exact ⟨rfl, rfl⟩
        · rw [pk_un (by omega), pk_un (by omega)]; exact hsw i (by omega)
      · rw [yA_n _ _ (by omega), yA_s, yA_s, pk_un (by omega), pk_un (by omega)]; exact hun i (by omega)
      · rw [yA_n _ _ (by omega), yA_n _ _ (by omega)]; exact ho1 j h1 h2
  refine xSp_of (M := m_Mo_swapSides) rfl (b_Mo_swapSides_0 ?_)
  exact hlo 0 (Nat.zero_le _) S none zS_rf (fun i hi => absurd hi (Nat.not_lt_zero _)) (fun _ _ => ⟨rfl, rfl⟩) (fun _ _ _ => rfl)
end
