/-! 64 Weaver: choose, tellChosen, weave -/
section
variable {Λ : yL} {f0 : xH} {S S' : yS} {w a b o cap capx capy d : Nat} {R C L P : Nat → Int32} {xs ys suf : List Nat} {x : Int32} {post : Option Value → xH → Prop}
theorem We_choose_sp (hW : yW Λ) (hw : yWe Λ w) (hv : yWv S w R C L P) {y : Nat} {r : List Nat} {j : Nat} (hj : j + r.length < 48) (hR : ∀ i, i < 48 → R i = nI (cpl (xs.drop i) (y :: r))) (hC : ∀ k, k ≤ r.length → C (j + 1 + k) = nI ((cw xs r).getD k 0))
    (h : ∀ S' C' L' P', yFr A6 S S' → yWv S' w R C' L' P' → (∀ k, k ≤ r.length + 1 → C' (j + k) = nI ((cw xs (y :: r)).getD k 0)) → L' j = nI (cl xs (y :: r)) → P' j = nI (cp xs (y :: r)) → (∀ i, i ≠ j → L' i = L i ∧ P' i = P i) → post none (yH Λ f0 S')) : xSp xT0 (d + 2) j_We_choose [.ref w, .int (nI j), .int (nI (lng xs (y :: r)))] (yH Λ f0 S) post := by
  have hlr : lng xs (y :: r) ≤ r.length + 1 := lng_r xs (y :: r)
  have hcb : ∀ k, (cw xs r).getD k 0 ≤ 96 := fun k => Nat.le_trans (cw_b xs r k) (by omega)
  have hpb : ∀ n, (pick (cw xs r) n).1 ≤ 98 := fun n => Nat.le_trans (pick_le (cw xs r) n).1 (by have := hcb 0; omega)
  have hpn : ∀ n, (pick (cw xs r) n).2 ≤ n := fun n => (pick_le (cw xs r) n).2
  refine xSp_of (M := m_We_choose) rfl (b_We_choose_0 (ygr hw.1 rfl (ygr hw.1 rfl ?_)))
  rw [nI_1]
  refine yal hw.2.2.1 (vp_in_nI (by omega) (by omega)) (yas hw.2.2.1 (yW_n hW hw.2.2.1) (vp_in_nI (by omega) (by omega)) (ygr hw.1 rfl (yas hw.2.2.2.1 (yW_n hW hw.2.2.2.1) (vp_in_nI (by omega) (by omega)) (ygr hw.1 rfl (yas hw.2.2.2.2 (yW_n hW hw.2.2.2.2) (vp_in_nI (by omega) (by omega)) ?_)))))
  rw [nI_clamp (by omega), nI_clamp (by omega)]
  have v0 := yWv_3 (g := upd P j 0) (yWv_2 (g := upd L j 0) (yWv_1 (g := upd C j (2 + C (j + 1))) hv))
  have hC0 : 2 + C (j + 1) = nI (pick (cw xs r) 0).1 := by
    have := hC 0 (Nat.zero_le _)
    rw [Nat.add_zero] at this
    rw [this]
    exact nI_add 2 _
  have hl : ∀ m, m ≤ lng xs (y :: r) → (∀ S1 C1 L1 (u : Option Value), yFr A6 S S1 → yWv S1 w R C1 L1 (upd P j 0) → C1 j = nI (pick (cw xs r) m).1 → (∀ i, i ≠ j → C1 i = C i) → L1 j = nI (pick (cw xs r) m).2 → (∀ i, i ≠ j → L1 i = L i) → xWp (xT0, xSp xT0 (d + 1), none, m_We_choose, post) 32 [some (.ref w), some (.int (nI j)), some (.int (nI (lng xs (y :: r)))), some (.int (nI (m + 1))), u] [] (yH Λ f0 S1) 0 0) := by
    refine loopUp ?_ ?_
    · intro S1 C1 L1 u k1 v1 c1 c2 l1 l2
      refine b_We_choose_32 (brlt (by omega) (by omega) (fun _ => ygr hw.1 rfl (yal hw.2.2.2.1 (vp_in_nI (by omega) (by omega)) ?_)) (fun q => absurd q (by omega)))
      rw [nI_clamp (by omega), v1.2.2.1, l1]
      have hcl : (pick (cw xs r) (lng xs (y :: r))).2 = cl xs (y :: r) := rfl
      have hcll := cl_lng xs (y :: r)
      have hCf : ∀ C2 : Nat → Int32, C2 = C1 → ∀ k, k ≤ r.length + 1 → C2 (j + k) = nI ((cw xs (y :: r)).getD k 0) := by
        rintro C2 rfl k hk
        cases k with
        | zero => exact c1
        | succ k =>
          rw [show j + (k + 1) = j + 1 + k by omega, c2 _ (by omega), hC k (by omega)]
          rfl
      refine brle (b := 0) (Nat.lt_of_le_of_lt (hpn _) (by omega)) (by omega) (fun q => ?_) (fun q => ygr hw.1 rfl (ygr hw.1 rfl (yal hw.2.2.2.1 (vp_in_nI (by omega) (by omega)) ?_)))
      · have e : cl xs (y :: r) = 0 := by rw [← hcl]; omega
        refine h S1 C1 L1 _ k1 v1 (hCf _ rfl) l1 ?_ (fun i hi => ⟨l2 i hi, pk_un hi⟩)
        rw [pk_us]
        unfold cp
        rw [if_pos e]
        rfl
      · rw [nI_clamp (by omega), v1.2.2.1, l1, hcl]
        refine ⟨yex hw.1, We_leastPlace_sp hw v1 (by omega) hR (by simp; omega) (yas hw.2.2.2.2 (yW_n hW hw.2.2.2.2) (vp_in_nI (by omega) (by omega)) ?_)⟩
        rw [nI_clamp (by omega)]
        refine h _ C1 L1 _ (yFr_tr k1 (yFr_wA rfl)) (yWv_3 v1) (hCf _ rfl) l1 ?_ (fun i hi => ⟨l2 i hi, ?_⟩)
        · rw [pk_us]
          unfold cp
          rw [if_neg (by omega)]
        · rw [pk_un hi, v1.2.2.2, pk_un hi]
    · intro m hm ih S1 C1 L1 u k1 v1 c1 c2 l1 l2
      refine b_We_choose_32 (brlt (by omega) (by omega) (fun q => absurd q (by omega)) (fun _ => ygr hw.1 rfl ?_))
      rw [nI_add]
      refine yal hw.2.2.1 (vp_in_nI (by omega) (by omega)) (ygr hw.1 rfl (yal hw.2.2.1 (vp_in_nI (by omega) (by omega)) ?_))
      have e5 : ∀ n, (5 : Int32) + nI n = nI (5 + n) := fun n => nI_add 5 n
      have hcm := hcb m
      rw [nI_clamp (by omega), nI_clamp (by omega), v1.2.1, c1, show j + (m + 1) = j + 1 + m by omega, c2 _ (by omega), hC m (by omega), e5, nI_1]
      have hp := hpb m
      refine brlt (by omega) (by omega) (fun q => ?_) (fun q => ygr hw.1 rfl (yas hw.2.2.1 (yW_n hW hw.2.2.1) (vp_in_nI (by omega) (by omega)) (ygr hw.1 rfl (yas hw.2.2.2.1 (yW_n hW hw.2.2.2.1) (vp_in_nI (by omega) (by omega)) ?_))))
      · refine ih S1 C1 L1 _ k1 v1 ?_ c2 ?_ l2
        · rw [pick_s, if_neg (by omega)]; exact c1
        · rw [pick_s, if_neg (by omega)]; exact l1
      · rw [nI_clamp (by omega)]
        refine ih _ _ _ _ (yFr_tr k1 (yFr_tr (yFr_wA rfl) (yFr_wA rfl))) (yWv_2 (yWv_1 v1)) ?_ (fun i hi => ?_) ?_ (fun i hi => ?_)
        · rw [pick_s, if_pos q]; exact pk_us
        · rw [pk_un hi, v1.2.1]; exact c2 i hi
        · rw [pick_s, if_pos q]; exact pk_us
        · rw [pk_un hi, yA_n _ _ (by omega), v1.2.2.1]; exact l2 i hi
  have key := hl 0 (Nat.zero_le _) _ (upd C j (2 + C (j + 1))) (upd L j 0) none (yFr_tr (yFr_wA rfl) (yFr_tr (yFr_wA rfl) (yFr_wA rfl))) v0 (by rw [pk_us, hC0]) (fun i hi => pk_un hi) (by rw [pk_us]; rfl) (fun i hi => pk_un hi)
  have e1 : yA (ywA S 6 1 w (upd (yA S 6 1 w) j (2 + yA S 6 1 w (j + 1)))) 6 2 w = L := (yA_n _ _ (by omega)).trans hv.2.2.1
  have e2 : yA (ywA (ywA S 6 1 w (upd (yA S 6 1 w) j (2 + yA S 6 1 w (j + 1)))) 6 2 w (upd (yA (ywA S 6 1 w (upd (yA S 6 1 w) j (2 + yA S 6 1 w (j + 1)))) 6 2 w) j 0)) 6 3 w = P := ((yA_n _ _ (by omega)).trans (yA_n _ _ (by omega))).trans hv.2.2.2
  rw [e2, e1, hv.2.1]
  exact key
end
