/-! 7zf the other object: joinSteps, changeBy -/
section
variable {Λ : yL} {f0 : xH} {S S' S1 S2 : yS} {m d s t u f g p : Nat} {J F : Nat → Prop} {v w : Sv} {vs ws : List Sv} {zs ys : List Int32} {bs cs : List Nat} {B : Ab} {x y a b c e z : Int32} {post : Option Value → xH → Prop}
theorem w18 {s k : Nat} (hs : s < 217) (hk : k < 18) : (18 * s + k) / wid 12 ≠ 217 ∧ (18 * s + k) / wid 14 ≠ 217 := by
  rw [show wid 12 = 18 from rfl, show wid 14 = 18 from rfl, div18 hk]
  omega
theorem Mo_joinSteps_sp (hL : mLay Λ m) (hs : s < 217) (ht : t < 217) (hv : mS S m s v) (hw : mS S m t w) (hov : okV v) (how : okV w) (hlen : v.2.2.2.2.2.2.2.1.length = w.2.2.2.2.2.2.2.2.length) (h1 : joLd v w → ∀ S', zS m 2 (fun i => i = 217) S S' → mS S' m 217 (joV v w) → post (some (.int 1)) (yH Λ f0 S')) (h0 : ¬ joLd v w → ∀ S', zS m 2 (fun i => i = 217) S S' → post (some (.int 0)) (yH Λ f0 S')) : xSp xT0 (d + 3) j_Mo_joinSteps [.ref m, .int (nI s), .int (nI t)] (yH Λ f0 S) post := by
  have hW := hL.1
  have ho := hL.2.1
  have v217 : vp_in (217 : Int32) 220 := vp_in_nI (n := 217) (by omega) (by omega)
  have c217 : (217 : Int32).toNatClampNeg = 217 := nI_clamp (n := 217) (by omega)
  obtain ⟨v1, ⟨v2, v3, v4⟩, ⟨v5, v6, v7⟩, ⟨v8, v9, v10, v11⟩, ⟨v12, v13⟩, v14, v15⟩ := id hv
  obtain ⟨w1, ⟨w2, w3, w4⟩, ⟨w5, w6, w7⟩, ⟨w8, w9, w10, w11⟩, ⟨w12, w13⟩, w14, w15⟩ := id hw
  have hOd : okO w.2.2.2.2.2.2.2.1 v.2.2.2.2.2.2.2.1.length := fun k hk => by rw [hlen]; exact how.2.2.2.2.2.1 k hk
  have hOb : okO v.2.2.2.2.2.2.2.2 w.2.2.2.2.2.2.2.2.length := fun k hk => by rw [← hlen]; exact hov.2.2.2.2.2.2.1 k hk
  have hbw := okV_d how
  have hbv := okV_b hov
  have h158 : ∀ SA K (u4 u5 : Option Value), ((v.1 = 0 ∧ ¬ w.1 = 1 ∧ K = 0) ∨ (¬ v.1 = 0 ∧ w.1 = 1 ∧ K = 1) ∨ (¬ v.1 = 0 ∧ ¬ w.1 = 1 ∧ K = 4)) → zS m 2 (fun i => i = 217) S SA → (∀ k, 16 ≤ k → yA SA 11 k m = yA S 11 k m) → yA SA 11 11 m 217 = K → (yA SA 11 15 m 217 = nI (joF v w).length ∧ rg (yA SA 11 14 m) 3906 (joF v w)) → (yA SA 11 13 m 217 = nI (joP v w).length ∧ rg (yA SA 11 12 m) 3906 (joP v w)) → (joF v w).length ≤ 17 → (joP v w).length ≤ 17 → xWp (xT0, xSp xT0 (d + 2), none, m_Mo_joinSteps, post) 158 [some (.ref m), some (.int (nI s)), some (.int (nI t)), some (.int K), u4, u5] [] (yH Λ f0 SA) 0 0 := by
    intro SA K u4 u5 hK kA oA f11 f15 f13 l15 l13
    refine b_Mo_joinSteps_158 (cpI (t := 217) hL (mk16 hL) rfl (by omega) (by omega) (by omega) (cpI (t := 217) hL (mk17 hL) rfl (by omega) (by omega) (by omega) (cpI (t := 217) hL (mk18 hL) rfl (by omega) (by omega) (by omega) (cpI (t := 217) hL (mk19 hL) rfl (by omega) (by omega) (by omega) (ygr ho rfl (ygr ho rfl (ygr ho rfl ?_)))))))
    have hvA := mS_z kA (fun _ z => absurd z (by omega)) hv
    have hwA := mS_z kA (fun _ z => absurd z (by omega)) hw
    generalize hB1 : ywA SA 11 16 m (upd (yA SA 11 16 m) 217 (yA SA 11 16 m s)) = SB1
    generalize hB2 : ywA SB1 11 17 m (upd (yA SB1 11 17 m) 217 (yA SB1 11 17 m s)) = SB2
    generalize hB3 : ywA SB2 11 18 m (upd (yA SB2 11 18 m) 217 (yA SB2 11 18 m t)) = SB3
    generalize hB4 : ywA SB3 11 19 m (upd (yA SB3 11 19 m) 217 (yA SB3 11 19 m t)) = SB
    have o1 : ∀ k, k ≠ 16 → yA SB1 11 k m = yA SA 11 k m := fun k hk => by rw [← hB1, yA_n _ _ (by omega)]
    have o2 : ∀ k, k ≠ 17 → yA SB2 11 k m = yA SB1 11 k m := fun k hk => by rw [← hB2, yA_n _ _ (by omega)]
    have o3 : ∀ k, k ≠ 18 → yA SB3 11 k m = yA SB2 11 k m := fun k hk => by rw [← hB3, yA_n _ _ (by omega)]
    have o4 : ∀ k, k ≠ 19 → yA SB 11 k m = yA SB3 11 k m := fun k hk => by rw [← hB4, yA_n _ _ (by omega)]
    have kB1 : zS m 2 (fun i => i = 217) SA SB1 := by rw [← hB1]; exact zS_u rfl rfl
    have kB2 : zS m 2 (fun i => i = 217) SB1 SB2 := by rw [← hB2]; exact zS_u rfl rfl
    have kB3 : zS m 2 (fun i => i = 217) SB2 SB3 := by rw [← hB3]; exact zS_u rfl rfl
    have kB4 : zS m 2 (fun i => i = 217) SB3 SB := by rw [← hB4]; exact zS_u rfl rfl
    have kB := zS_tr (zS_tr (zS_tr kB1 kB2) kB3) kB4
    have oB : ∀ k, k ≠ 16 → k ≠ 17 → k ≠ 18 → k ≠ 19 → yA SB 11 k m = yA SA 11 k m := fun k a b c e => by rw [o4 k e, o3 k c, o2 k b, o1 k a]
    have f16 : yA SB 11 16 m 217 = v.2.2.2.1 := by
      rw [o4 16 (by decide), o3 16 (by decide), o2 16 (by decide), ← hB1, yA_s, pk_us]; exact hvA.2.2.2.1.1
    have f17 : yA SB 11 17 m 217 = v.2.2.2.2.1 := by
      rw [o4 17 (by decide), o3 17 (by decide), ← hB2, yA_s, pk_us, o1 17 (by decide)]; exact hvA.2.2.2.1.2.1
    have f18 : yA SB 11 18 m 217 = w.2.2.2.2.2.1 := by
      rw [o4 18 (by decide), ← hB3, yA_s, pk_us, o2 18 (by decide), o1 18 (by decide)]; exact hwA.2.2.2.1.2.2.1
    have f19 : yA SB 11 19 m 217 = w.2.2.2.2.2.2.1 := by
      rw [← hB4, yA_s, pk_us, o3 19 (by decide), o2 19 (by decide), o1 19 (by decide)]; exact hwA.2.2.2.1.2.2.2
    have hvB := mS_z kB (fun _ z => absurd z (by omega)) hvA
    have hwB := mS_z kB (fun _ z => absurd z (by omega)) hwA
    refine yal (mk18 hL) (vp_in_nI (by omega) (by omega)) (Mo_bytesOf_sp (xviI (ygr ho rfl ?_)))
    rw [nI_clamp (by omega), hwB.2.2.2.1.2.2.1, hbw, n48, n48]
    refine Mo_join_sp hL (mk20 hL) rfl rfl hs ht hvB.2.2.2.2.1.2 hwB.2.2.2.2.1.2 v12 w12 hOd (fun SC kC oC f20 => xvvI (ygr ho rfl (ygr ho rfl (ygr ho rfl (yal (mk16 hL) (vp_in_nI (by omega) (by omega)) (Mo_bytesOf_sp (xviI (ygr ho rfl ?_))))))))
    have hvC := mS_z kC (fun _ z => absurd z (by omega)) hvB
    have hwC := mS_z kC (fun _ z => absurd z (by omega)) hwB
    rw [nI_clamp (by omega), hvC.2.2.2.1.1, hbv]
    refine Mo_join_sp hL (mk21 hL) rfl rfl ht hs hwC.2.2.2.2.2.2 hvC.2.2.2.2.2.2 w14 v14 hOb (fun SD kD oD f21 => xvvI ?_)
    have kAll : zS m 2 (fun i => i = 217) S SD := zS_tr (zS_tr (zS_tr kA kB) kC) kD
    have g : ∀ k, k ≠ 20 → k ≠ 21 → yA SD 11 k m = yA SB 11 k m := fun k a b => by rw [oD k b, oC k a]
    have f20' : rz (yA SD 11 20 m) 10416 (joD v w) := by rw [oD 20 (by decide)]; exact f20
    have f15' : yA SD 11 15 m 217 = nI (joF v w).length := by rw [g 15 (by decide) (by decide), oB 15 (by decide) (by decide) (by decide) (by decide)]; exact f15.1
    have f14' : rg (yA SD 11 14 m) 3906 (joF v w) := by rw [g 14 (by decide) (by decide), oB 14 (by decide) (by decide) (by decide) (by decide)]; exact f15.2
    have f13' : yA SD 11 13 m 217 = nI (joP v w).length := by rw [g 13 (by decide) (by decide), oB 13 (by decide) (by decide) (by decide) (by decide)]; exact f13.1
    have f12' : rg (yA SD 11 12 m) 3906 (joP v w) := by rw [g 12 (by decide) (by decide), oB 12 (by decide) (by decide) (by decide) (by decide)]; exact f13.2
    have f11' : yA SD 11 11 m 217 = K := by rw [g 11 (by decide) (by decide), oB 11 (by decide) (by decide) (by decide) (by decide)]; exact f11
    have f16' : yA SD 11 16 m 217 = v.2.2.2.1 := by rw [g 16 (by decide) (by decide)]; exact f16
    have f17' : yA SD 11 17 m 217 = v.2.2.2.2.1 := by rw [g 17 (by decide) (by decide)]; exact f17
    have f18' : yA SD 11 18 m 217 = w.2.2.2.2.2.1 := by rw [g 18 (by decide) (by decide)]; exact f18
    have f19' : yA SD 11 19 m 217 = w.2.2.2.2.2.2.1 := by rw [g 19 (by decide) (by decide)]; exact f19
    have ld : (joD v w).length = w.2.2.2.2.2.2.2.1.length := joinD_l v12 hOd
    have lb : (joB v w).length = v.2.2.2.2.2.2.2.2.length := joinD_l w14 hOb
    have hmk : ∀ S2, (∀ k, k ≠ 11 → yA S2 11 k m = yA SD 11 k m) → yA S2 11 11 m 217 = joK v w → mS S2 m 217 (joV v w) := fun S2 o2 e => by
      refine ⟨e, ⟨by rw [o2 13 (by decide)]; exact f13', l13, by rw [o2 12 (by decide)]; exact f12'⟩, ⟨by rw [o2 15 (by decide)]; exact f15', l15, by rw [o2 14 (by decide)]; exact f14'⟩, ⟨by rw [o2 16 (by decide)]; exact f16', by rw [o2 17 (by decide)]; exact f17', by rw [o2 18 (by decide)]; exact f18', by rw [o2 19 (by decide)]; exact f19'⟩, ⟨by show (joD v w).length ≤ 48; omega, by rw [o2 20 (by decide)]; exact f20'⟩, by show (joB v w).length ≤ 48; omega, by rw [o2 21 (by decide)]; exact f21⟩
    by_cases c4 : K = 4
    · have hk4 : ¬ v.1 = 0 ∧ ¬ w.1 = 1 := by
        rcases hK with ⟨a, b, c⟩ | ⟨a, b, c⟩ | ⟨a, b, c⟩
        · rw [c4] at c; exact absurd c (by decide)
        · rw [c4] at c; exact absurd c (by decide)
        · exact ⟨a, b⟩
      have ew18 : w.2.2.2.2.2.1 = nI (joD v w).length := by rw [ld]; exact how.2.2.1.2 hk4.2
      have h332 : ∀ (sm : Bool) (u4 u5 : Option Value), sm = decide (joP v w = joF v w) → xWp (xT0, xSp xT0 (d + 2), none, m_Mo_joinSteps, post) 332 [some (.ref m), some (.int (nI s)), some (.int (nI t)), some (.int K), u4, u5] [.int (bI sm)] (yH Λ f0 SD) 0 0 := by
        intro sm u4 u5 esm
        refine b_Mo_joinSteps_332 ⟨yex ho, Mo_isWhole_sp (s := 217) hL (by omega) (f18'.trans ew18) f16' f20' (by omega) (xviI (ygr ho rfl ?_))⟩
        have h369 : ∀ (b : Bool) (K2 : Int32), b = decide (joW v w) → K2 = joK v w → xWp (xT0, xSp xT0 (d + 2), none, m_Mo_joinSteps, post) 369 [some (.ref m), some (.int (nI s)), some (.int (nI t)), some (.int K), some (.int (bI sm)), some (.int (bI b))] [.int K2, .int 217, .ref (Λ.2.1 11 11 m)] (yH Λ f0 SD) 0 0 := by
          intro b K2 eb eK
          refine b_Mo_joinSteps_369 (yas (mk11 hL) (yW_n hW (mk11 hL)) v217 ?_)
          rw [c217]
          have kE : zS m 2 (fun i => i = 217) SD (ywA SD 11 11 m (upd (yA SD 11 11 m) 217 K2)) := zS_u rfl rfl
          have hmE := hmk (ywA SD 11 11 m (upd (yA SD 11 11 m) 217 K2)) (fun k hk => by rw [yA_n _ _ (by omega)]) (by rw [yA_s, pk_us]; exact eK)
          generalize ywA SD 11 11 m (upd (yA SD 11 11 m) 217 K2) = SE at *
          refine brB (fun e1 => ?_) (fun e1 => brBn (fun e2 => ?_) (fun e2 => ?_))
          · rw [esm] at e1
            exact h1 ⟨fun z => hk4.1 z.1, Or.inr (Or.inr (Or.inl (of_decide_eq_false e1)))⟩ SE (zS_tr kAll kE) hmE
          · rw [esm] at e1
            rw [eb] at e2
            refine h0 (fun z => ?_) SE (zS_tr kAll kE)
            rcases z.2 with z | z | z | z
            · exact hk4.1 z
            · exact hk4.2 z
            · exact z (of_decide_eq_true e1)
            · exact z (of_decide_eq_true e2)
          · rw [eb] at e2
            exact h1 ⟨fun z => hk4.1 z.1, Or.inr (Or.inr (Or.inr (of_decide_eq_false e2)))⟩ SE (zS_tr kAll kE) hmE
        have eJ : joK v w = if joP v w = joF v w then 2 else if joW v w then 3 else 4 := by unfold joK; rw [if_neg hk4.1, if_neg hk4.2]
        refine brB (fun e1 => brB (fun e2 => ?_) (fun e2 => ?_)) (fun e1 => ?_)
        · rw [esm] at e1
          refine h369 _ _ rfl ?_
          rw [eJ, if_neg (of_decide_eq_false e1), if_neg (show ¬ joW v w from of_decide_eq_false e2)]
        · rw [esm] at e1
          refine h369 _ _ rfl ?_
          rw [eJ, if_neg (of_decide_eq_false e1), if_pos (show joW v w from of_decide_eq_true e2)]
        · rw [esm] at e1
          refine h369 _ _ rfl ?_
          rw [eJ, if_pos (of_decide_eq_true e1)]
      refine ⟨fun _ => ygr ho rfl (ygr ho rfl (yal (mk15 hL) v217 (ygr ho rfl (ygr ho rfl (yal (mk13 hL) v217 ?_))))), fun z => absurd c4 z⟩
      rw [c217, f15', f13']
      refine Mo_order_sp (p1 := 3906) (p2 := 3906) (mk14 hL) (mk12 hL) f14' f12' (by omega) (by omega) (by omega) (by omega) (xviI ⟨fun z => h332 false _ _ (decide_eq_false (fun q => z (ordM_0.mpr q.symm))).symm, fun z => h332 true _ _ (decide_eq_true (ordM_0.mp (Classical.not_not.mp z)).symm).symm⟩)
    · refine ⟨fun z => absurd z c4, fun _ => ?_⟩
      rcases hK with ⟨a, b, c⟩ | ⟨a, b, c⟩ | ⟨a, b, c⟩
      · exact h1 ⟨fun z => b z.2, Or.inl a⟩ SD kAll (hmk SD (fun _ _ => rfl) (by rw [f11', c]; unfold joK; rw [if_pos a]))
      · exact h1 ⟨fun z => a z.1, Or.inr (Or.inl b)⟩ SD kAll (hmk SD (fun _ _ => rfl) (by rw [f11', c]; unfold joK; rw [if_neg a, if_pos b]))
      · exact absurd c c4
  have hxs : ∀ {j : Nat}, j = 12 ∨ j = 14 → ∀ {r n : Nat}, r < 217 → n ≤ 17 → grp j = 2 → ∀ k, k < n → (18 * r + k) / wid j ≠ 217 := fun {j} hj {r n} hr hn _ k hk => by
    rcases hj with h | h
    · rw [h]; exact (w18 hr (by omega)).1
    · rw [h]; exact (w18 hr (by omega)).2
  have h43 : ∀ (K : Int32) (u3 u4 u5 : Option Value), ((v.1 = 0 ∧ ¬ w.1 = 1 ∧ K = 0) ∨ (¬ v.1 = 0 ∧ w.1 = 1 ∧ K = 1) ∨ (¬ v.1 = 0 ∧ ¬ w.1 = 1 ∧ K = 4)) → xWp (xT0, xSp xT0 (d + 2), none, m_Mo_joinSteps, post) 43 [some (.ref m), some (.int (nI s)), some (.int (nI t)), u3, u4, u5] [.int K] (yH Λ f0 S) 0 0 := by
    intro K u3 u4 u5 hK
    refine b_Mo_joinSteps_43 ?_
    unfold B_Mo_joinSteps_43
    rw [n18, n18]
    rcases id hK with ⟨a, b, c⟩ | ⟨a, b, c⟩ | ⟨a, b, c⟩
    · have eF : joF v w = w.2.1 := if_pos a
      have eP : joP v w = w.2.1 := if_neg b
      rw [c]
      refine ⟨fun z => absurd rfl z, fun _ => ygr ho rfl (ygr ho rfl (yal (mk13 hL) (vp_in_nI (by omega) (by omega)) (ygr ho rfl (ygr ho rfl (yal (mk13 hL) (vp_in_nI (by omega) (by omega)) ?_)))))⟩
      rw [nI_clamp (by omega), w2]
      refine ⟨yex ho, Mo_nameSpare_sp hL (mk12 hL) w4 (by omega) (by omega) w3 (hxs (Or.inl rfl) ht w3) (Or.inl (by decide)) (mk12 hL) w4 (by omega) (by omega) w3 (hxs (Or.inl rfl) ht w3) (Or.inr (by omega)) (fun SA kA oA f11 f15 f13 => xvvI (h158 SA 0 _ _ (Or.inl ⟨a, b, rfl⟩) kA oA f11 (by rw [eF]; exact f15) (by rw [eP]; exact f13) (by rw [eF]; exact w3) (by rw [eP]; exact w3)))⟩
    · have eF : joF v w = v.2.2.1 := if_neg a
      have eP : joP v w = v.2.2.1 := if_pos b
      rw [c]
      refine ⟨fun _ => ⟨fun z => absurd rfl z, fun _ => ygr ho rfl (ygr ho rfl (yal (mk15 hL) (vp_in_nI (by omega) (by omega)) (ygr ho rfl (ygr ho rfl (yal (mk15 hL) (vp_in_nI (by omega) (by omega)) ?_)))))⟩, fun z => absurd (by decide) z⟩
      rw [nI_clamp (by omega), v5]
      refine ⟨yex ho, Mo_nameSpare_sp hL (mk14 hL) v7 (by omega) (by omega) v6 (hxs (Or.inr rfl) hs v6) (Or.inr (by omega)) (mk14 hL) v7 (by omega) (by omega) v6 (hxs (Or.inr rfl) hs v6) (Or.inl (by decide)) (fun SA kA oA f11 f15 f13 => xvvI (h158 SA 1 _ _ (Or.inr (Or.inl ⟨a, b, rfl⟩)) kA oA f11 (by rw [eF]; exact f15) (by rw [eP]; exact f13) (by rw [eF]; exact v6) (by rw [eP]; exact v6)))⟩
    · have eF : joF v w = v.2.2.1 := if_neg a
      have eP : joP v w = w.2.1 := if_neg b
      rw [c]
      refine ⟨fun _ => ⟨fun _ => ygr ho rfl (ygr ho rfl (yal (mk15 hL) (vp_in_nI (by omega) (by omega)) (ygr ho rfl (ygr ho rfl (yal (mk13 hL) (vp_in_nI (by omega) (by omega)) ?_))))), fun z => absurd (by decide) z⟩, fun z => absurd (by decide) z⟩
      rw [nI_clamp (by omega), nI_clamp (by omega), v5, w2]
      refine ⟨yex ho, Mo_nameSpare_sp hL (mk14 hL) v7 (by omega) (by omega) v6 (hxs (Or.inr rfl) hs v6) (Or.inr (by omega)) (mk12 hL) w4 (by omega) (by omega) w3 (hxs (Or.inl rfl) ht w3) (Or.inr (by omega)) (fun SA kA oA f11 f15 f13 => xvvI (h158 SA 4 _ _ (Or.inr (Or.inr ⟨a, b, rfl⟩)) kA oA f11 (by rw [eF]; exact f15) (by rw [eP]; exact f13) (by rw [eF]; exact v6) (by rw [eP]; exact w3)))⟩
  have h18 : ¬ (v.1 = 0 ∧ w.1 = 1) → xWp (xT0, xSp xT0 (d + 2), none, m_Mo_joinSteps, post) 18 [some (.ref m), some (.int (nI s)), some (.int (nI t)), none, none, none] [] (yH Λ f0 S) 0 0 := by
    intro hn
    refine b_Mo_joinSteps_18 ⟨yex ho, Mo_hasSource_sp hL (by omega) hv (xviI (brBn (fun e1 => ⟨yex ho, Mo_hasTarget_sp hL (by omega) hw (xviI (brBn (fun e2 => ?_) (fun e2 => ?_)))⟩) (fun e1 => ?_)))⟩
    · exact h43 4 _ _ _ (Or.inr (Or.inr ⟨of_decide_eq_true e1, of_decide_eq_true e2, rfl⟩))
    · exact h43 1 _ _ _ (Or.inr (Or.inl ⟨of_decide_eq_true e1, Classical.not_not.mp (of_decide_eq_false e2), rfl⟩))
    · have ha := Classical.not_not.mp (of_decide_eq_false e1)
      exact h43 0 _ _ _ (Or.inl ⟨ha, fun z => hn ⟨ha, z⟩, rfl⟩)
  refine xSp_of (M := m_Mo_joinSteps) rfl (b_Mo_joinSteps_0 ⟨yex ho, Mo_hasSource_sp hL (by omega) hv (xviI (brBn (fun e1 => h18 (fun z => of_decide_eq_true e1 z.1)) (fun e1 => ⟨yex ho, Mo_hasTarget_sp hL (by omega) hw (xviI (brBn (fun e2 => h18 (fun z => of_decide_eq_true e2 z.2)) (fun e2 => ?_)))⟩)))⟩)
  exact h0 (fun z => z.1 ⟨Classical.not_not.mp (of_decide_eq_false e1), Classical.not_not.mp (of_decide_eq_false e2)⟩) S zS_rf
theorem Mo_changeBy_sp (hL : mLay Λ m) (hs : s < 217) (ht : t < 217) (hv : mS S m s v) (hw : mS S m t w) (hov : okV v) (hv1 : v.1 = 1) (hp : ∀ S', zS m 2 (fun i => i = 217) S S' → mS S' m 217 (chgV v w) → post none (yH Λ f0 S')) : xSp xT0 (d + 3) j_Mo_changeBy [.ref m, .int (nI s), .int (nI t)] (yH Λ f0 S) post := by
  have hW := hL.1
  have ho := hL.2.1
  obtain ⟨v1, ⟨v2, v3, v4⟩, ⟨v5, v6, v7⟩, ⟨v8, v9, v10, v11⟩, ⟨v12, v13⟩, v14, v15⟩ := id hv
  obtain ⟨w1, ⟨w2, w3, w4⟩, ⟨w5, w6, w7⟩, ⟨w8, w9, w10, w11⟩, ⟨w12, w13⟩, w14, w15⟩ := id hw
  have eps : v.2.1 = v.2.2.1 := hov.2.2.2.2.2.2.2 (Or.inr (Or.inl hv1))
  refine xSp_of (M := m_Mo_changeBy) rfl (b_Mo_changeBy_0 (ygr ho rfl (ygr ho rfl (yal (mk15 hL) (vp_in_nI (by omega) (by omega)) (ygr ho rfl (ygr ho rfl (yal (mk13 hL) (vp_in_nI (by omega) (by omega)) ?_)))))))
  rw [nI_clamp (by omega), nI_clamp (by omega), v5, w2, n18, n18]
  refine ⟨yex ho, Mo_nameSpare_sp hL (mk14 hL) v7 (by omega) (by omega) v6 (fun _ k hk => (w18 hs (by omega)).2) (Or.inr (by omega)) (mk12 hL) w4 (by omega) (by omega) w3 (fun _ k hk => (w18 ht (by omega)).1) (Or.inr (by omega)) (fun SA kA oA f11 f15 f13 => xvvI ?_)⟩
  refine cpI (t := 217) hL (mk16 hL) rfl (by omega) (by omega) (by omega) (cpI (t := 217) hL (mk17 hL) rfl (by omega) (by omega) (by omega) (cpI (t := 217) hL (mk18 hL) rfl (by omega) (by omega) (by omega) (cpI (t := 217) hL (mk19 hL) rfl (by omega) (by omega) (by omega) ?_)))
  have hvA := mS_z kA (fun _ z => absurd z (by omega)) hv
  have hwA := mS_z kA (fun _ z => absurd z (by omega)) hw
  generalize hB1 : ywA SA 11 16 m (upd (yA SA 11 16 m) 217 (yA SA 11 16 m s)) = SB1
  generalize hB2 : ywA SB1 11 17 m (upd (yA SB1 11 17 m) 217 (yA SB1 11 17 m s)) = SB2
  generalize hB3 : ywA SB2 11 18 m (upd (yA SB2 11 18 m) 217 (yA SB2 11 18 m t)) = SB3
  generalize hB4 : ywA SB3 11 19 m (upd (yA SB3 11 19 m) 217 (yA SB3 11 19 m t)) = SB
  have o1 : ∀ k, k ≠ 16 → yA SB1 11 k m = yA SA 11 k m := fun k hk => by rw [← hB1, yA_n _ _ (by omega)]
  have o2 : ∀ k, k ≠ 17 → yA SB2 11 k m = yA SB1 11 k m := fun k hk => by rw [← hB2, yA_n _ _ (by omega)]
  have o3 : ∀ k, k ≠ 18 → yA SB3 11 k m = yA SB2 11 k m := fun k hk => by rw [← hB3, yA_n _ _ (by omega)]
  have o4 : ∀ k, k ≠ 19 → yA SB 11 k m = yA SB3 11 k m := fun k hk => by rw [← hB4, yA_n _ _ (by omega)]
  have kB1 : zS m 2 (fun i => i = 217) SA SB1 := by rw [← hB1]; exact zS_u rfl rfl
  have kB2 : zS m 2 (fun i => i = 217) SB1 SB2 := by rw [← hB2]; exact zS_u rfl rfl
  have kB3 : zS m 2 (fun i => i = 217) SB2 SB3 := by rw [← hB3]; exact zS_u rfl rfl
  have kB4 : zS m 2 (fun i => i = 217) SB3 SB := by rw [← hB4]; exact zS_u rfl rfl
  have kB := zS_tr (zS_tr (zS_tr kB1 kB2) kB3) kB4
  have oB : ∀ k, k ≠ 16 → k ≠ 17 → k ≠ 18 → k ≠ 19 → yA SB 11 k m = yA SA 11 k m := fun k a b c e => by rw [o4 k e, o3 k c, o2 k b, o1 k a]
  have f16 : yA SB 11 16 m 217 = v.2.2.2.1 := by
    rw [o4 16 (by decide), o3 16 (by decide), o2 16 (by decide), ← hB1, yA_s, pk_us]; exact hvA.2.2.2.1.1
  have f17 : yA SB 11 17 m 217 = v.2.2.2.2.1 := by
    rw [o4 17 (by decide), o3 17 (by decide), ← hB2, yA_s, pk_us, o1 17 (by decide)]; exact hvA.2.2.2.1.2.1
  have f18 : yA SB 11 18 m 217 = w.2.2.2.2.2.1 := by
    rw [o4 18 (by decide), ← hB3, yA_s, pk_us, o2 18 (by decide), o1 18 (by decide)]; exact hwA.2.2.2.1.2.2.1
  have f19 : yA SB 11 19 m 217 = w.2.2.2.2.2.2.1 := by
    rw [← hB4, yA_s, pk_us, o3 19 (by decide), o2 19 (by decide), o1 19 (by decide)]; exact hwA.2.2.2.1.2.2.2
  have hvB := mS_z kB (fun _ z => absurd z (by omega)) hvA
  have hwB := mS_z kB (fun _ z => absurd z (by omega)) hwA
  have hlo : ∀ k, k ≤ 48 → (∀ S1, zS m 2 (fun i => i = 217) SB S1 → (∀ j, j ≠ 20 → j ≠ 21 → yA S1 11 j m = yA SB 11 j m) → (∀ i, i < k → yA S1 11 20 m (10416 + i) = yA SB 11 20 m (48 * t + i) ∧ yA S1 11 21 m (10416 + i) = yA SB 11 21 m (48 * s + i)) → xWp (xT0, xSp xT0 (d + 2), none, m_Mo_changeBy, post) 91 [some (.ref m), some (.int (nI s)), some (.int (nI t)), some (.int (nI k))] [] (yH Λ f0 S1) 0 0) := by
    refine loopUp ?_ ?_
    · intro S1 k1 g hg
      refine b_Mo_changeBy_91 (brle (a := 48) (by omega) (by omega) (fun _ => ?_) (fun z => by omega))
      refine hp S1 (zS_tr (zS_tr kA kB) k1) ⟨?_, ⟨?_, w3, ?_⟩, ⟨?_, ?_, ?_⟩, ⟨?_, ?_, ?_, ?_⟩, ⟨w12, fun i hi => ?_⟩, v14, fun i hi => ?_⟩
      · rw [g 11 (by decide) (by decide), oB 11 (by decide) (by decide) (by decide) (by decide)]; exact f11
      · rw [g 13 (by decide) (by decide), oB 13 (by decide) (by decide) (by decide) (by decide)]; exact f13.1
      · rw [g 12 (by decide) (by decide), oB 12 (by decide) (by decide) (by decide) (by decide)]; exact f13.2
      · rw [g 15 (by decide) (by decide), oB 15 (by decide) (by decide) (by decide) (by decide)]
        show _ = nI v.2.1.length
        rw [eps]; exact f15.1
      · show v.2.1.length ≤ 17
        exact v3
      · rw [g 14 (by decide) (by decide), oB 14 (by decide) (by decide) (by decide) (by decide)]
        show rg _ _ v.2.1
        rw [eps]; exact f15.2
      · rw [g 16 (by decide) (by decide)]; exact f16
      · rw [g 17 (by decide) (by decide)]; exact f17
      · rw [g 18 (by decide) (by decide)]; exact f18
      · rw [g 19 (by decide) (by decide)]; exact f19
      · have hi : i < w.2.2.2.2.2.2.2.1.length := hi
        rw [(hg i (by omega)).1]; exact hwB.2.2.2.2.1.2 i hi
      · have hi : i < v.2.2.2.2.2.2.2.2.length := hi
        rw [(hg i (by omega)).2]; exact hvB.2.2.2.2.2.2 i hi
    · intro k hk ih S1 k1 g hg
      have e1 : (10416 : Int32) + nI k = nI (10416 + k) := nI_add 10416 k
      refine b_Mo_changeBy_91 ?_
      unfold B_Mo_changeBy_91
      rw [e1, nI_1 k, n48, n48, nI_add, nI_add]
      refine brle (a := 48) (by omega) (by omega) (fun z => by omega) (fun _ => ygr ho rfl (ygr ho rfl (yal (mk20 hL) (vp_in_nI (by omega) (by omega)) (yas (mk20 hL) (yW_n hW (mk20 hL)) (vp_in_nI (by omega) (by omega)) (ygr ho rfl (ygr ho rfl (yal (mk21 hL) (vp_in_nI (by omega) (by omega)) (yas (mk21 hL) (yW_n hW (mk21 hL)) (vp_in_nI (by omega) (by omega)) ?_))))))))
      rw [nI_clamp (by omega), nI_clamp (by omega), nI_clamp (by omega)]
      generalize hC : ywA S1 11 20 m (upd (yA S1 11 20 m) (10416 + k) (yA S1 11 20 m (48 * t + k))) = SC
      generalize hD : ywA SC 11 21 m (upd (yA SC 11 21 m) (10416 + k) (yA SC 11 21 m (48 * s + k))) = SD
      have oC : ∀ k, k ≠ 20 → yA SC 11 k m = yA S1 11 k m := fun k hk => by rw [← hC, yA_n _ _ (by omega)]
      have oD : ∀ k, k ≠ 21 → yA SD 11 k m = yA SC 11 k m := fun k hk => by rw [← hD, yA_n _ _ (by omega)]
      have kC : zS m 2 (fun i => i = 217) S1 SC := by rw [← hC]; exact zS_u rfl (by show (10416 + k) / 48 = 217; omega)
      have kD : zS m 2 (fun i => i = 217) SC SD := by rw [← hD]; exact zS_u rfl (by show (10416 + k) / 48 = 217; omega)
      refine ih SD (zS_tr k1 (zS_tr kC kD)) (fun j a b => by rw [oD j b, oC j a]; exact g j a b) (fun i hi => ⟨?_, ?_⟩)
      · rw [oD 20 (by decide), ← hC, yA_s]
        by_cases c : i = k
        · rw [c, pk_us]
          exact k1.2.2 20 (48 * t + k) rfl (by show ¬ (48 * t + k) / 48 = 217; omega)
        · rw [pk_un (by omega)]; exact (hg i (by omega)).1
      · rw [← hD, yA_s]
        by_cases c : i = k
        · rw [c, pk_us, oC 21 (by decide)]
          exact k1.2.2 21 (48 * s + k) rfl (by show ¬ (48 * s + k) / 48 = 217; omega)
        · rw [pk_un (by omega), oC 21 (by decide)]; exact (hg i (by omega)).2
  exact hlo 0 (Nat.zero_le _) SB zS_rf (fun _ _ _ => rfl) (fun i hi => absurd hi (Nat.not_lt_zero _))
end
