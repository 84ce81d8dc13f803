/-! 73 Applier: which RULE a STEP breaks -/
theorem xvvI {K : Prop} (h : K) : xvv none K := h
theorem brBn {b : Bool} {A B : Prop} (f : b = true → A) (g : b = false → B) : xbr (¬ bI b = 0) A B := by
  cases b
  · exact ⟨fun c => absurd rfl c, fun _ => g rfl⟩
  · exact ⟨fun _ => f rfl, fun c => absurd (show ¬ bI true = 0 by decide) c⟩
abbrev yMb (Λ : yL) (g : Nat) : Nat := Λ.2.1 8 3 g
def yAp (Λ : yL) (g : Nat) : Prop := yo Λ g 8 ∧ yn Λ (Λ.2.1 8 0 g) 8 0 g 1 24 ∧ yn Λ (Λ.2.1 8 1 g) 8 1 g 0 24 ∧ yn Λ (Λ.2.1 8 2 g) 8 2 g 0 24 ∧ yB Λ (yMb Λ g) 48 ∧ own Λ (yMb Λ g) = g
abbrev A1 (b : Nat) : Nat → Nat → Prop := fun c a => c = 1 ∧ a = b
/-- is that PATH taken away by a STEP that goes -/
def takP (vs : List Sv) (G : Nat → Bool) (bs : List Nat) (i : Nat) : Bool := G i && (decide (¬ (vs.getD i sv0).1 = 0) && decide ((vs.getD i sv0).2.2.1 = bs))
def takA (vs : List Sv) (G : Nat → Bool) (bs : List Nat) : Bool := decide (fstI (takP vs G bs) vs.length < vs.length)
/-- the CONTENT that a STEP finds in a TREE -/
def cntA (fs : List Fl) (v : Sv) : List Nat := (fs.getD (fnd fs v.2.2.1) fl0).2
def rulB (vs : List Sv) (fs : List Fl) (G : Nat → Bool) (v : Sv) : Nat := if v.1 = 1 then 0 else if ¬ nI (sumB (makeD v.2.2.2.2.2.2.2.1 (cntA fs v))) = v.2.2.2.2.2.2.1 then 4 else if fnd fs v.2.1 < fs.length ∧ takA vs G v.2.1 = false then 3 else 0
def rulA (vs : List Sv) (fs : List Fl) (G : Nat → Bool) (v : Sv) : Nat := if ¬ v.1 = 0 ∧ ¬ fnd fs v.2.2.1 < fs.length then 1 else if ¬ v.1 = 0 ∧ ¬ (nI (cntA fs v).length = v.2.2.2.1 ∧ nI (sumB (cntA fs v)) = v.2.2.2.2.1) then 2 else rulB vs fs G v
theorem rulA_le (vs : List Sv) (fs : List Fl) (G : Nat → Bool) (v : Sv) : rulA vs fs G v ≤ 4 := by
  unfold rulA rulB
  repeat' split
  all_goals omega
def misA (vs : List Sv) (fs : List Fl) (G : Nat → Bool) : Nat := fstI (fun i => G i && decide (¬ rulA vs fs G (vs.getD i sv0) = 0)) vs.length
def yZ (Λ : yL) (S : yS) (g p t : Nat) (vs : List Sv) (fs : List Fl) (G : Nat → Bool) (Q : Nat → Nat) : Prop := yTv Λ S t fs ∧ yPq Λ S p vs Q ∧ ∀ i, i < vs.length → yA S 8 0 g i = bI (G i)
section
variable {Λ : yL} {f0 : xH} {S0 S S' : yS} {t u p g n m o cap d : Nat} {Q : Nat → Nat} {vs : List Sv} {fs gs : List Fl} {G : Nat → Bool} {bs cs : List Nat} {x y : Int32} {post : Option Value → xH → Prop}
theorem yZ_1 (hA : yAp Λ g) (tg : yTop Λ g) (h : yZ Λ S g p t vs fs G Q) (k : yFr (A1 (yMb Λ g)) S S') : yZ Λ S' g p t vs fs G Q := by
  refine ⟨yFr_Tv k (fun z => absurd z.1 (by decide)) (fun b cap hB hb z => ?_) h.1, yFr_Pq k (fun z => absurd z.1 (by decide)) (fun s _ z => absurd z.1 (by decide)) (fun b hb => ⟨fun z => ?_, fun z => absurd z.1 (by decide)⟩) h.2.1, fun i hi => ?_⟩
  · rw [z.2, hA.2.2.2.2.2] at hb
    exact yo_ne hA.1 h.1.1.1 (by decide) hb
  · rw [z.2, hA.2.2.2.2.2] at hb
    exact yo_ne tg.1 h.2.1.1.1 (by decide) hb
  · rw [(k 8 0 g (fun z => absurd z.1 (by decide))).2.1]
    exact h.2.2 i hi
theorem Ap_isTakenAway_sp (hA : yAp Λ g) (hP : yPq Λ S p vs Q) (hG : ∀ i, i < vs.length → yA S 8 0 g i = bI (G i)) (hO : yB Λ o cap) (hw : yBv S o cap bs) (hp : post (some (.int (bI (takA vs G bs)))) (yH Λ f0 S)) : xSp xT0 (d + 3) j_Ap_isTakenAway [.ref g, .ref o, .ref p] (yH Λ f0 S) post := by
  have hl := hP.2.2.2.1
  refine xSp_of (M := m_Ap_isTakenAway) rfl (b_Ap_isTakenAway_0 ?_)
  have hlo : ∀ k, k ≤ vs.length → (∀ (u4 : Option Value), (∀ j, j < k → takP vs G bs j = false) → xWp (xT0, xSp xT0 (d + 2), none, m_Ap_isTakenAway, post) 2 [some (.ref g), some (.ref o), some (.ref p), some (.int (nI k)), u4] [] (yH Λ f0 S) 0 0) := by
    refine loopUp ?_ ?_
    · intro u4 hg
      refine b_Ap_isTakenAway_2 ⟨yex hP.1.1, Pa_size_sp hP (brle (by omega) (by omega) (fun _ => ?_) (fun q => absurd q (by omega)))⟩
      have e : takA vs G bs = false := decide_eq_false (by rw [fstI_eq (Nat.le_refl _) hg (Or.inl rfl)]; exact Nat.lt_irrefl _)
      rw [e] at hp
      exact hp
    · intro k hk ih u4 hg
      have hvk := hP.2.2.2.2.2.1 k hk
      have hno : takP vs G bs k = false → ∀ u4, xWp (xT0, xSp xT0 (d + 2), none, m_Ap_isTakenAway, post) 2 [some (.ref g), some (.ref o), some (.ref p), some (.int (nI (k + 1))), u4] [] (yH Λ f0 S) 0 0 := fun e u4 => ih u4 (fun j hj => by
        by_cases q : j = k
        · rw [q]; exact e
        · exact hg j (by omega))
      refine b_Ap_isTakenAway_2 ⟨yex hP.1.1, Pa_size_sp hP (brle (by omega) (by omega) (fun q => absurd q (by omega)) (fun _ => ⟨yex hP.1.1, Pa_at_sp hP hk (xvrI (ygr hA.1 rfl (yal hA.2.1 (vp_in_nI (by omega) (by omega)) ?_)))⟩))⟩
      rw [nI_clamp (by omega), hG k hk, nI_1]
      refine brB (fun q => hno (by unfold takP; rw [q]; rfl) _) (fun q => ⟨yex hvk.1.1, St_hasSource_sp hvk ?_⟩)
      by_cases c : (vs.getD k sv0).1 = 0
      · rw [if_pos c]
        exact ⟨fun _ => hno (by unfold takP; rw [q, decide_eq_false (fun z => z c)]; rfl) _, fun z => absurd rfl z⟩
      · rw [if_neg c]
        refine ⟨fun z => absurd z (by decide), fun _ => ygr hvk.1.1 rfl ⟨yex hvk.1.2.1.2.1.1, By_equalTo_sp hvk.1.2.1.2.1 hO hvk.2.1.2.2 hw ?_⟩⟩
        by_cases e : (vs.getD k sv0).2.2.1 = bs
        · rw [if_pos e]
          refine ⟨fun z => absurd z (by decide), fun _ => ?_⟩
          have e2 : takA vs G bs = true := decide_eq_true (by rw [fstI_eq (Nat.le_of_lt hk) hg (Or.inr (by unfold takP; rw [q, decide_eq_true c, decide_eq_true e]; rfl))]; exact hk)
          rw [e2] at hp
          exact hp
        · rw [if_neg e]
          exact ⟨fun _ => hno (by unfold takP; rw [q, decide_eq_true c, decide_eq_false e]; rfl) _, fun z => absurd rfl z⟩
  exact hlo 0 (Nat.zero_le _) none (fun j hj => absurd hj (Nat.not_lt_zero _))
theorem cnt_hx (fs : List Fl) (v : Sv) : (∃ i, i < fs.length ∧ ixI (fnd fs v.2.2.1) fs.length = nI i ∧ cntA fs v = (fs.getD i fl0).2) ∨ (ixI (fnd fs v.2.2.1) fs.length = -1 ∧ cntA fs v = []) := by
  by_cases h : fnd fs v.2.2.1 < fs.length
  · exact Or.inl ⟨_, h, if_pos h, rfl⟩
  · refine Or.inr ⟨if_neg h, ?_⟩
    unfold cntA
    rw [List.getD_eq_getElem?_getD, List.getElem?_eq_none (by omega)]
    rfl
theorem Ap_ruleBroken_sp (hW : yW Λ) (hA : yAp Λ g) (tg : yTop Λ g) (h : yZ Λ S g p t vs fs G Q) {k : Nat} (hk : k < vs.length) (hp : ∀ S', yFr (A1 (yMb Λ g)) S S' → post (some (.int (nI (rulA vs fs G (vs.getD k sv0))))) (yH Λ f0 S')) : xSp xT0 (d + 4) j_Ap_ruleBroken [.ref g, .ref p, .int (nI k), .ref t] (yH Λ f0 S) post := by
  have hT := h.1
  have hP := h.2.1
  have hl := hP.2.2.2.1
  have hfl := Tv_le hT
  have hvk := hP.2.2.2.2.2.1 k hk
  have h50 : rulA vs fs G (vs.getD k sv0) = rulB vs fs G (vs.getD k sv0) → xWp (xT0, xSp xT0 (d + 3), none, m_Ap_ruleBroken, post) 50 [some (.ref g), some (.ref p), some (.int (nI k)), some (.ref t), some (.ref (Q k)), some (.int (ixI (fnd fs (vs.getD k sv0).2.2.1) fs.length))] [] (yH Λ f0 S) 0 0 := by
    intro er
    rw [er] at hp
    unfold rulB at hp
    refine b_Ap_ruleBroken_50 ⟨yex hvk.1.1, St_hasTarget_sp hvk ?_⟩
    by_cases c1 : (vs.getD k sv0).1 = 1
    · rw [if_pos c1]
      rw [if_pos c1] at hp
      exact ⟨fun _ => hp S yFr_rf, fun z => absurd rfl z⟩
    · rw [if_neg c1]
      rw [if_neg c1] at hp
      refine ⟨fun z => absurd z (by decide), fun _ => ygr hvk.1.1 rfl ⟨yex hT.1.1, Tr_cAt hT (cnt_hx fs _) (fun q capq B1 v1 o1 l1 => xvrI (ygr hA.1 rfl ⟨yex hvk.1.2.1.2.2.1.1, De_make_sp hW hvk.1.2.1.2.2.1 B1 hA.2.2.2.2.1 ?_ hvk.2.2.2.1 v1 (fun gm vm hm => xvvI (ygr hA.1 rfl ⟨yex hA.2.2.2.2.1.1, By_sum_sp hA.2.2.2.2.1 hm (xviI (ygi hvk.1.1 rfl ?_))⟩))⟩))⟩⟩
      · intro e
        rw [e, hA.2.2.2.2.2] at o1
        exact yo_ne hA.1 hT.1.1 (by decide) o1
      · have k1 : yFr (A1 (yMb Λ g)) S (yBw S (yMb Λ g) gm vm) := yFr_Bw ⟨rfl, rfl⟩
        have h1 := yZ_1 hA tg h k1
        have hv1 := h1.2.1.2.2.2.2.2.1 k hk
        rw [yBw_I4, hvk.2.2.1.2.2.2]
        refine ⟨fun c => ygr hvk.1.1 rfl ⟨yex hT.1.1, Tr_find2 h1.1 hvk.1.2.1.1 hv1.2.1.2.1 (xviI ?_)⟩, fun c => ?_⟩
        · rw [if_neg (fun z => z c)] at hp
          refine brix (by omega) (fun c2 => ?_) (fun c2 e => ygr hvk.1.1 rfl ⟨yex hA.1, Ap_isTakenAway_sp hA h1.2.1 h1.2.2 hvk.1.2.1.1 hv1.2.1.2.1 (xviI (brBn (fun c3 => ?_) (fun c3 => ?_)))⟩)
          · rw [if_neg (fun z => c2 z.1)] at hp
            exact hp _ k1
          · rw [if_neg (fun z => by rw [c3] at z; exact absurd z.2 (by decide))] at hp
            exact hp _ k1
          · rw [if_pos ⟨c2, c3⟩] at hp
            exact hp _ k1
        · rw [if_pos c] at hp
          exact hp _ k1
  refine xSp_of (M := m_Ap_ruleBroken) rfl (b_Ap_ruleBroken_0 ⟨yex hP.1.1, Pa_at_sp hP hk (xvrI (ygr hvk.1.1 rfl ⟨yex hT.1.1, Tr_find2 hT hvk.1.2.1.2.1 hvk.2.1.2.2 (xviI ⟨yex hvk.1.1, St_hasSource_sp hvk ?_⟩)⟩))⟩)
  unfold rulA at hp h50
  by_cases c : (vs.getD k sv0).1 = 0
  · rw [if_pos c]
    refine ⟨fun _ => h50 ?_, fun z => absurd rfl z⟩
    rw [if_neg (fun z => z.1 c), if_neg (fun z => z.1 c)]
  · rw [if_neg c]
    refine ⟨fun z => absurd z (by decide), fun _ => brixn (by omega) (fun c2 e => ?_) (fun c2 => ?_)⟩
    · refine ⟨yex hT.1.1, Tr_cAt hT (cnt_hx fs _) (fun q capq B1 v1 o1 l1 => xvrI ⟨yex hvk.1.1, St_isSource_sp hvk B1 v1 ?_⟩)⟩
      by_cases c3 : nI (cntA fs (vs.getD k sv0)).length = (vs.getD k sv0).2.2.2.1 ∧ nI (sumB (cntA fs (vs.getD k sv0))) = (vs.getD k sv0).2.2.2.2.1
      · rw [if_pos c3]
        refine ⟨fun _ => h50 ?_, fun z => absurd (by decide) z⟩
        rw [if_neg (fun z => z.2 c2), if_neg (fun z => z.2 c3)]
      · rw [if_neg c3]
        rw [if_neg (fun z => z.2 c2), if_pos ⟨c, c3⟩] at hp
        exact ⟨fun z => absurd rfl z, fun _ => hp S yFr_rf⟩
    · rw [if_pos ⟨c, c2⟩] at hp
      exact hp S yFr_rf
theorem Ap_firstMisfit_sp (hW : yW Λ) (hA : yAp Λ g) (tg : yTop Λ g) (h : yZ Λ S g p t vs fs G Q) (hp : ∀ S', yFr (A1 (yMb Λ g)) S S' → post (some (.int (ixI (misA vs fs G) vs.length))) (yH Λ f0 S')) : xSp xT0 (d + 5) j_Ap_firstMisfit [.ref g, .ref p, .ref t] (yH Λ f0 S) post := by
  have hl := h.2.1.2.2.2.1
  refine xSp_of (M := m_Ap_firstMisfit) rfl (b_Ap_firstMisfit_0 ?_)
  have hlo : ∀ k, k ≤ vs.length → (∀ S1, yFr (A1 (yMb Λ g)) S S1 → (∀ j, j < k → (G j && decide (¬ rulA vs fs G (vs.getD j sv0) = 0)) = false) → xWp (xT0, xSp xT0 (d + 4), none, m_Ap_firstMisfit, post) 2 [some (.ref g), some (.ref p), some (.ref t), some (.int (nI k))] [] (yH Λ f0 S1) 0 0) := by
    refine loopUp ?_ ?_
    · intro S1 k1 hg
      have h1 := yZ_1 hA tg h k1
      refine b_Ap_firstMisfit_2 ⟨yex h1.2.1.1.1, Pa_size_sp h1.2.1 (brle (by omega) (by omega) (fun _ => ?_) (fun q => absurd q (by omega)))⟩
      have e : misA vs fs G = vs.length := fstI_eq (Nat.le_refl _) hg (Or.inl rfl)
      rw [e] at hp
      have e2 : ixI vs.length vs.length = -1 := if_neg (Nat.lt_irrefl _)
      rw [e2] at hp
      exact hp S1 k1
    · intro k hk ih S1 k1 hg
      have h1 := yZ_1 hA tg h k1
      have hno : (G k && decide (¬ rulA vs fs G (vs.getD k sv0) = 0)) = false → ∀ S2, yFr (A1 (yMb Λ g)) S S2 → xWp (xT0, xSp xT0 (d + 4), none, m_Ap_firstMisfit, post) 2 [some (.ref g), some (.ref p), some (.ref t), some (.int (nI (k + 1)))] [] (yH Λ f0 S2) 0 0 := fun e S2 k2 => ih S2 k2 (fun j hj => by
        by_cases q : j = k
        · rw [q]; exact e
        · exact hg j (by omega))
      refine b_Ap_firstMisfit_2 ⟨yex h1.2.1.1.1, Pa_size_sp h1.2.1 (brle (by omega) (by omega) (fun q => absurd q (by omega)) (fun _ => ygr hA.1 rfl (yal hA.2.1 (vp_in_nI (by omega) (by omega)) ?_)))⟩
      rw [nI_clamp (by omega), h1.2.2 k hk, nI_1]
      refine brB (fun q => hno (by rw [q]; rfl) S1 k1) (fun q => ⟨yex hA.1, Ap_ruleBroken_sp hW hA tg h1 hk (fun S2 k2 => xviI ?_)⟩)
      have hr := rulA_le vs fs G (vs.getD k sv0)
      refine breq (b := 0) (by omega) (by omega) (fun c => hno (by rw [q, decide_eq_false (fun z => z c)]; rfl) S2 (yFr_tr k1 k2)) (fun c => ?_)
      have e : misA vs fs G = k := fstI_eq (Nat.le_of_lt hk) hg (Or.inr (by rw [q, decide_eq_true c]; rfl))
      rw [e] at hp
      have e2 : ixI k vs.length = nI k := if_pos hk
      rw [e2] at hp
      exact hp S2 (yFr_tr k1 k2)
  exact hlo 0 (Nat.zero_le _) S yFr_rf (fun j hj => absurd hj (Nat.not_lt_zero _))
end
