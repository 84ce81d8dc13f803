/-! 67 Differ: addStep -/
def yDf (Λ : yL) (g : Nat) : Prop := yo Λ g 7 ∧ yWe Λ (Λ.2.1 7 0 g) ∧ yn Λ (Λ.2.1 7 1 g) 7 1 g 1 10 ∧ yn Λ (Λ.2.1 7 2 g) 7 2 g 1 10 ∧ yr Λ (Λ.2.1 7 3 g) 7 3 g 8 10 ∧ yn Λ (Λ.2.1 7 4 g) 7 4 g 0 49
theorem xvrI {r : Nat} {K : Nat → Prop} (h : K r) : xvr (some (.ref r)) K := h
theorem xviI {r : Int32} {K : Int32 → Prop} (h : K r) : xvi (some (.int r)) K := h
/-- the STEP of sort k from the FILE f to the FILE g -/
def mkS (k : Int32) (f g : Fl) : Sv := (k, g.1, f.1, (if k = 0 then -2 else nI f.2.length), (if k = 0 then -2 else nI (sumB f.2)), (if k = 1 then -2 else nI g.2.length), (if k = 1 then -2 else nI (sumB g.2)), (if k = 3 then whoD f.2.length else wv f.2 g.2), (if k = 3 then whoD g.2.length else wv g.2 f.2))
section
variable {Λ : yL} {f0 : xH} {S S' : yS} {s t u p g b cap d : Nat} {v w : Sv} {vs : List Sv} {Q : Nat → Nat} {fs gs : List Fl} {f h : Fl} {bs : List Nat} {k x y : Int32} {post : Option Value → xH → Prop}
theorem Tr_cAt (hT : yTv Λ S t fs) {cs : List Nat} (hx : (∃ i, i < fs.length ∧ x = nI i ∧ cs = (fs.getD i fl0).2) ∨ (x = -1 ∧ cs = [])) (hp : ∀ q capq, yB Λ q capq → yBv S q capq cs → own Λ q = t → cs.length ≤ 48 → post (some (.ref q)) (yH Λ f0 S)) : xSp xT0 (d + 2) j_Tr_contentAt [.ref t, .int x] (yH Λ f0 S) post := by
  have hl : fs.length ≤ 10 := by obtain ⟨_, _, _, _, hl, _⟩ := hT; exact hl
  refine Tr_contentAt_sp hT (fun i q hi e hB hv ho => ?_) (fun z q hB hv ho => ?_)
  · rcases hx with ⟨j, hj, e2, e3⟩ | ⟨e2, e3⟩
    · have : i = j := (nI_eq (by omega) (by omega)).mp (e.symm.trans e2)
      subst this
      rw [← e3] at hv
      exact hp q 48 hB hv ho hv.1
    · exact absurd (e.symm.trans e2) (fun z => nI_pos (n := i) (by omega) (by rw [z]; decide))
  · rcases hx with ⟨j, hj, e2, e3⟩ | ⟨e2, e3⟩
    · refine absurd z ?_
      rw [e2]
      rintro (z | z)
      · exact nI_pos (by omega) z
      · exact absurd ((leI (by omega) (by omega)).mp z) (by omega)
    · rw [← e3] at hv
      exact hp q 0 hB hv ho (by rw [e3]; exact Nat.zero_le _)
theorem Tr_pAt (hT : yTv Λ S t fs) {i : Nat} (hi : i < fs.length) (hp : ∀ q, yB Λ q 17 → yBv S q 17 (fs.getD i fl0).1 → own Λ q = t → post (some (.ref q)) (yH Λ f0 S)) : xSp xT0 (d + 2) j_Tr_pathAt [.ref t, .int (nI i)] (yH Λ f0 S) post := by
  have hl : fs.length ≤ 10 := by obtain ⟨_, _, _, _, hl, _⟩ := hT; exact hl
  refine Tr_pathAt_sp hT (fun j q hj e hB hv ho => ?_) (fun z q hB hv ho => ?_)
  · have : i = j := (nI_eq (by omega) (by omega)).mp e
    subst this
    exact hp q hB hv ho
  · refine absurd z ?_
    rintro (z | z)
    · exact nI_pos (by omega) z
    · exact absurd ((leI (by omega) (by omega)).mp z) (by omega)
theorem Di_addStep_sp (hW : yW Λ) (hD : yDf Λ g) (hT : yTv Λ S t fs) (hU : yTv Λ S u gs) (tt : yTop Λ t) (tu : yTop Λ u) (hP : yPq Λ S p vs Q) (hn : vs.length < 24) (hi : (∃ i, i < fs.length ∧ x = nI i ∧ f = fs.getD i fl0) ∨ (x = -1 ∧ k = 0 ∧ f = (h.1, []))) (hj : (∃ j, j < gs.length ∧ y = nI j ∧ h = gs.getD j fl0) ∨ (y = -1 ∧ k = 1 ∧ h = (f.1, []))) (he : k = 0 ∨ k = 1 → f.1 = h.1) (hp : ∀ S' Q', yFr (AP Λ p) S S' → yPq Λ S' p (addV vs (mkS k f h)) Q' → post none (yH Λ f0 S')) : xSp xT0 (d + 5) j_Di_addStep [.ref g, .int k, .ref t, .int x, .ref u, .int y, .ref p] (yH Λ f0 S) post := by
  have hi2 : (∃ i, i < fs.length ∧ x = nI i ∧ f.2 = (fs.getD i fl0).2) ∨ (x = -1 ∧ f.2 = []) := by
    rcases hi with ⟨i, h1, h2, h3⟩ | ⟨h1, h2, h3⟩
    · exact Or.inl ⟨i, h1, h2, by rw [h3]⟩
    · exact Or.inr ⟨h1, by rw [h3]⟩
  have hj2 : (∃ i, i < gs.length ∧ y = nI i ∧ h.2 = (gs.getD i fl0).2) ∨ (y = -1 ∧ h.2 = []) := by
    rcases hj with ⟨i, h1, h2, h3⟩ | ⟨h1, h2, h3⟩
    · exact Or.inl ⟨i, h1, h2, by rw [h3]⟩
    · exact Or.inr ⟨h1, by rw [h3]⟩
  refine xSp_of (M := m_Di_addStep) rfl (b_Di_addStep_0 ⟨yex hT.1.1, Tr_cAt hT hi2 (fun q1 cq1 B1 v1 o1 l1 => ⟨yex hU.1.1, Tr_cAt hU hj2 (fun q2 cq2 B2 v2 o2 l2 => ⟨yex hP.1.1, Pa_blank_sp hP ?_⟩)⟩)⟩)
  obtain ⟨v0, hv0⟩ := (hP.2.1 vs.length (by omega)).2.2
  have hos : own Λ (Q vs.length) = p := (hP.2.1 vs.length (by omega)).2.1
  obtain ⟨s, hs⟩ : ∃ s, Q vs.length = s := ⟨_, rfl⟩
  rw [hs] at hv0 hos ⊢
  have hso := hv0.1.1
  have q1s : q1 ≠ s := yo_ne B1.1 hso (by decide)
  have q2s : q2 ≠ s := yo_ne B2.1 hso (by decide)
  have oq1 : own Λ q1 ≠ s := by rw [o1]; exact yo_ne hT.1.1 hso (by decide)
  have oq2 : own Λ q2 ≠ s := by rw [o2]; exact yo_ne hU.1.1 hso (by decide)
  have nb : ∀ q c, yB Λ q c → own Λ q ≠ s → ¬ AS Λ s 1 q := fun q c B o => by
    rintro (z | z | z)
    · exact absurd z (by decide)
    · exact yo_ne B.1 hso (by decide) z
    · exact o z
  -- the end: the blank STEP is kept
  have hend : ∀ S1, yFr (AS Λ s) S S1 → ySv Λ S1 s (mkS k f h) → ∀ (lv : xL → Prop), xSp xT0 (d + 4) j_Pa_keepBlank [.ref p] (yH Λ f0 S1) (fun w f' => xvi w (fun _ => post none f')) := by
    intro S1 k1 v1 _
    have hp1 := Pq_AS (k := vs.length) hP (by omega) (Nat.le_refl _) (by rw [hs]; exact k1) (by rw [hs]; exact v1)
    refine Pa_keepBlank_sp hW hp1 (by rw [hs]; exact v1) (fun _ S2 Q2 k2 hp2 => ?_) (fun q => absurd q (by omega))
    exact hp S2 Q2 (yFr_tr (yFr_mo k1 (AS_AP hos)) (yFr_Ag1 k2)) hp2
  have h77 : ∀ S1 r cr, yFr (AS Λ s) S S1 → yB Λ r cr → yBv S1 r cr h.1 → h.1.length ≤ 17 → own Λ r ≠ s → ∀ pa tl ts de ba, ySv Λ S1 s (k, pa, f.1, (if k = 0 then -2 else nI f.2.length), (if k = 0 then -2 else nI (sumB f.2)), tl, ts, de, ba) → xWp (xT0, xSp xT0 (d + 4), none, m_Di_addStep, post) 77 [some (.ref g), some (.int k), some (.ref t), some (.int x), some (.ref u), some (.int y), some (.ref p), some (.ref q1), some (.ref q2), some (.ref s)] [.ref r, .ref s] (yH Λ f0 S1) 0 0 := by
    intro S1 r cr k1 Br vr lr or pa tl ts de ba v1s
    refine b_Di_addStep_77 ⟨yex hso, St_setTarget_sp hW v1s Br vr lr or B2 (yFr_Bv k1 (nb _ _ B2 oq2) v2) q2s oq2 (fun S2 k2 v2s => ?_)⟩
    have k2 := yFr_tr k1 (yFr_ofAg k2)
    have o3 := v2s.1.2.2.1
    refine ⟨fun c3 => ygr hD.1 rfl (ygr hso rfl ⟨yex hD.2.1.1, We_weave_sp hW hD.2.1 B1 (yFr_Bv k2 (nb _ _ B1 oq1) v1) l1 B2 (yFr_Bv k2 (nb _ _ B2 oq2) v2) l2 v2s.1.2.1.2.2.1 (fun S3 k3 d3 => ?_)⟩), fun c3 => ?_⟩
    · have v3s := ySv_d2 v2s k3 d3
      have k3 := yFr_tr k2 (yFr_mo k3 (A36_AS o3.2.2.1))
      refine ygr hD.1 rfl (ygr hso rfl ⟨yex hD.2.1.1, We_weave_sp hW hD.2.1 B2 (yFr_Bv k3 (nb _ _ B2 oq2) v2) l2 B1 (yFr_Bv k3 (nb _ _ B1 oq1) v1) l1 v2s.1.2.1.2.2.2 (fun S4 k4 d4 => ?_)⟩)
      have v4s := ySv_b2 v3s k4 d4
      have k4 := yFr_tr k3 (yFr_mo k4 (A36_AS o3.2.2.2))
      refine ⟨yex hP.1.1, hend S4 k4 ?_ (fun _ => True)⟩
      unfold mkS
      rw [if_neg c3, if_neg c3]
      exact v4s
    · have c3 := Classical.not_not.mp c3
      refine ygr hso rfl ⟨yex B1.1, By_size_sp B1 (yFr_Bv k2 (nb _ _ B1 oq1) v1) ⟨yex v2s.1.2.1.2.2.1.1, De_becomeWhole_sp hW v2s.1.2.1.2.2.1 l1 (fun g1 n1 d3 => ?_)⟩⟩
      have v3s := ySv_d v2s d3
      have k3 := yFr_tr k2 (yFr_ofAg (yAg_Dw (g := g1) (v := n1) o3.2.2.1))
      refine ygr hso rfl ⟨yex B2.1, By_size_sp B2 (yFr_Bv k3 (nb _ _ B2 oq2) v2) ⟨yex v2s.1.2.1.2.2.2.1, De_becomeWhole_sp hW v2s.1.2.1.2.2.2 l2 (fun g2 n2 d4 => ?_)⟩⟩
      have v4s := ySv_b v3s d4
      have k4 := yFr_tr k3 (yFr_ofAg (yAg_Dw (g := g2) (v := n2) o3.2.2.2))
      refine ⟨yex hP.1.1, hend _ k4 ?_ (fun _ => True)⟩
      unfold mkS
      rw [if_pos c3, if_pos c3]
      exact v4s
  have h50 : ∀ S1 r cr, yFr (AS Λ s) S S1 → yB Λ r cr → yBv S1 r cr f.1 → f.1.length ≤ 17 → own Λ r ≠ s → ∀ vv : Sv, vv.1 = k → ySv Λ S1 s vv → xWp (xT0, xSp xT0 (d + 4), none, m_Di_addStep, post) 50 [some (.ref g), some (.int k), some (.ref t), some (.int x), some (.ref u), some (.int y), some (.ref p), some (.ref q1), some (.ref q2), some (.ref s)] [.ref r, .ref s] (yH Λ f0 S1) 0 0 := by
    intro S1 r cr k1 Br vr lr or vv hvk v1s
    refine b_Di_addStep_50 ⟨yex hso, St_setSource_sp hW v1s Br vr lr or B1 (yFr_Bv k1 (nb _ _ B1 oq1) v1) q1s oq1 (fun S2 k2 v2s => ?_)⟩
    rw [hvk] at v2s
    have k2 := yFr_tr k1 (yFr_ofAg k2)
    have hT2 := Tv_AS k2 hso tt hT
    have hU2 := Tv_AS k2 hso tu hU
    refine ⟨fun c1 => ?_, fun c1 => ?_⟩
    · rcases hj with ⟨j, h1, h2, h3⟩ | ⟨h1, h2, h3⟩
      · rw [h2]
        refine ⟨yex hU.1.1, Tr_pAt hU2 h1 (fun q Bq vq oq => ?_)⟩
        rw [← h3] at vq
        rw [← h2]
        exact h77 S2 q 17 k2 Bq vq vq.1 (by rw [oq]; exact yo_ne hU.1.1 hso (by decide)) _ _ _ _ _ v2s
      · exact absurd h2 c1
    · have c1 := Classical.not_not.mp c1
      rcases hi with ⟨i, h1, h2, h3⟩ | ⟨h1, h2, h3⟩
      · rw [h2]
        refine ⟨yex hT.1.1, Tr_pAt hT2 h1 (fun q Bq vq oq => ?_)⟩
        rw [← h3] at vq
        rw [← h2]
        have e : h.1 = f.1 := (he (Or.inr c1)).symm
        rw [← e] at vq
        exact h77 S2 q 17 k2 Bq vq vq.1 (by rw [oq]; exact yo_ne hT.1.1 hso (by decide)) _ _ _ _ _ v2s
      · exact absurd (h2.symm.trans c1) (by decide)
  have v1s := ySv_4 (x := k) hv0
  refine xvrI (ypf hso rfl ?_)
  have k1 : yFr (AS Λ s) S (ywI S 4 4 s k) := yFr_wI (Or.inr (Or.inl rfl))
  have hT2 := Tv_AS k1 hso tt hT
  have hU2 := Tv_AS k1 hso tu hU
  refine ⟨fun c0 => ?_, fun c0 => ?_⟩
  · rcases hi with ⟨i, h1, h2, h3⟩ | ⟨h1, h2, h3⟩
    · rw [h2]
      refine ⟨yex hT.1.1, Tr_pAt hT2 h1 (fun q Bq vq oq => ?_)⟩
      rw [← h3] at vq
      rw [← h2]
      exact h50 _ q 17 k1 Bq vq vq.1 (by rw [oq]; exact yo_ne hT.1.1 hso (by decide)) _ rfl v1s
    · exact absurd h2 c0
  · have c0 := Classical.not_not.mp c0
    rcases hj with ⟨j, h1, h2, h3⟩ | ⟨h1, h2, h3⟩
    · rw [h2]
      refine ⟨yex hU.1.1, Tr_pAt hU2 h1 (fun q Bq vq oq => ?_)⟩
      rw [← h3] at vq
      rw [← h2]
      have e : f.1 = h.1 := he (Or.inl c0)
      rw [← e] at vq
      exact h50 _ q 17 k1 Bq vq vq.1 (by rw [oq]; exact yo_ne hU.1.1 hso (by decide)) _ rfl v1s
    · exact absurd (c0.symm.trans h2) (by decide)
end
