/-! 7zd the other object: what a chain asks -/
theorem joinZ_o {ys : List Int32} {z : Int32} (hl : ys.length ≤ 48) (h : told z ∨ ∃ i, i < ys.length ∧ z = nI i) : joinZ ys z = some (if 0 ≤ z then ys.getD z.toNatClampNeg 0 else z) := by
  unfold joinZ
  rcases h with h | ⟨i, hi, e⟩
  · have := (told_n h).1
    rw [if_neg this, if_neg this]
  · rw [e, if_pos (nI_pos' (by omega)), if_pos (nI_pos' (by omega)), if_neg (fun w => absurd ((leI (by omega) (by omega)).mp w) (by omega))]
theorem joinD_e {ys : List Int32} (hl : ys.length ≤ 48) : ∀ {zs : List Int32}, okO zs ys.length → joinD ys zs = zs.map (fun z => if 0 ≤ z then ys.getD z.toNatClampNeg 0 else z)
  | [], _ => rfl
  | z :: zs, h => by
    have h0 := h 0 (by simp)
    have hr : okO zs ys.length := fun k hk => h (k + 1) (by simpa using hk)
    have e0 := joinZ_o hl (show told z ∨ _ from h0)
    show (z :: zs).filterMap (joinZ ys) = _
    rw [List.filterMap_cons_some e0, List.map_cons]
    exact congrArg _ (joinD_e hl hr)
theorem joinD_l {ys zs : List Int32} (hl : ys.length ≤ 48) (h : okO zs ys.length) : (joinD ys zs).length = zs.length := by rw [joinD_e hl h, List.length_map]
theorem joinD_g {ys zs : List Int32} (hl : ys.length ≤ 48) (h : okO zs ys.length) {k : Nat} (hk : k < zs.length) : (joinD ys zs).getD k 0 = if 0 ≤ zs.getD k 0 then ys.getD (zs.getD k 0).toNatClampNeg 0 else zs.getD k 0 := by
  rw [joinD_e hl h, List.getD_eq_getElem?_getD, List.getElem?_map, List.getElem?_eq_getElem hk, List.getD_eq_getElem?_getD, List.getElem?_eq_getElem hk]
  rfl
theorem whoD_i (zs : List Int32) : zs = whoD zs.length ↔ ∀ i, i < zs.length → zs.getD i 0 = nI i := by
  refine ⟨fun h i hi => ?_, fun h => ?_⟩
  · have := whoD_g hi
    rw [← h] at this
    exact this
  · refine List.ext_getElem (whoD_l _).symm (fun i h1 h2 => ?_)
    have e1 := h i h1
    have e2 := whoD_g h1
    rw [List.getD_eq_getElem?_getD, List.getElem?_eq_getElem h1] at e1
    rw [List.getD_eq_getElem?_getD, List.getElem?_eq_getElem h2] at e2
    exact Eq.trans (show zs[i] = nI i from e1) (show (whoD zs.length)[i] = nI i from e2).symm
def tgO (vs : List Sv) (p : Nat) (bs : List Nat) : Int32 := if fTg vs bs < vs.length then nI (24 * p + fTg vs bs) else -2
def srP (vs : List Sv) (p : Nat) (bs : List Nat) : Int32 := if fSr vs bs < vs.length then nI (24 * p + fSr vs bs) else -2
def fDr (vs : List Sv) (bs : List Nat) : Nat := fstI (fun i => decide ((vs.getD i sv0).1 = 1 ∧ (vs.getD i sv0).2.1 = bs)) vs.length
def drO (vs : List Sv) (p : Nat) (bs : List Nat) : Int32 := if fDr vs bs < vs.length then nI (24 * p + fDr vs bs) else -2
section
variable {Λ : yL} {f0 : xH} {S S' S1 S2 : yS} {m d s t u f g p : Nat} {J F : Nat → Prop} {v w : Sv} {vs ws : List Sv} {zs ys : List Int32} {bs cs : List Nat} {B : Ab} {x y a b c e z : Int32} {post : Option Value → xH → Prop}
theorem Mo_hasSource_sp (hL : mLay Λ m) (hs : s < 220) (hv : mS S m s v) (hp : post (some (.int (bI (decide (¬ v.1 = 0))))) (yH Λ f0 S)) : xSp xT0 (d + 1) j_Mo_hasSource [.ref m, .int (nI s)] (yH Λ f0 S) post := by
  have ho := hL.2.1
  refine xSp_of (M := m_Mo_hasSource) rfl (b_Mo_hasSource_0 (ygr ho rfl (yal (mk11 hL) (vp_in_nI hs (by omega)) ?_)))
  rw [nI_clamp (by omega), hv.1]
  refine ⟨fun c => ?_, fun c => ?_⟩
  · rw [decide_eq_false (fun w => w c)] at hp; exact hp
  · rw [decide_eq_true c] at hp; exact hp
theorem Mo_hasTarget_sp (hL : mLay Λ m) (hs : s < 220) (hv : mS S m s v) (hp : post (some (.int (bI (decide (¬ v.1 = 1))))) (yH Λ f0 S)) : xSp xT0 (d + 1) j_Mo_hasTarget [.ref m, .int (nI s)] (yH Λ f0 S) post := by
  have ho := hL.2.1
  refine xSp_of (M := m_Mo_hasTarget) rfl (b_Mo_hasTarget_0 (ygr ho rfl (yal (mk11 hL) (vp_in_nI hs (by omega)) ?_)))
  rw [nI_clamp (by omega), hv.1]
  refine ⟨fun c => ?_, fun c => ?_⟩
  · rw [decide_eq_false (fun w => w c)] at hp; exact hp
  · rw [decide_eq_true c] at hp; exact hp
theorem Mo_targetAt_sp (hL : mLay Λ m) (hp8 : p < 9) (hP : mP S m p vs) {r c j o n q : Nat} (hr : yn Λ r c j o 2 n) (hg : rg (yA S c j o) q bs) (hb : q + bs.length ≤ n) (hn : n < 2 ^ 30) (hp : post (some (.int (tgO vs p bs))) (yH Λ f0 S)) : xSp xT0 (d + 2) j_Mo_targetAt [.ref m, .int (nI p), .ref r, .int (nI q), .int (nI bs.length)] (yH Λ f0 S) post := by
  have ho := hL.2.1
  have hvl := hP.1
  unfold tgO at hp
  refine xSp_of (M := m_Mo_targetAt) rfl (b_Mo_targetAt_0 ?_)
  have hlo : ∀ k, k ≤ vs.length → (∀ (u6 : Option Value), (∀ i, i < k → decide (¬ (vs.getD i sv0).1 = 1 ∧ (vs.getD i sv0).2.1 = bs) = false) → xWp (xT0, xSp xT0 (d + 1), none, m_Mo_targetAt, post) 3 [some (.ref m), some (.int (nI p)), some (.ref r), some (.int (nI q)), some (.int (nI bs.length)), some (.int (nI k)), u6] [] (yH Λ f0 S) 0 0) := by
    refine loopUp ?_ ?_
    · intro u6 hf
      refine b_Mo_targetAt_3 (ygr ho rfl (yal (mk22 hL) (vp_in_nI hp8 (by omega)) ?_))
      rw [nI_clamp (by omega), hP.2.1]
      refine brle (by omega) (by omega) (fun _ => ?_) (fun w => by omega)
      rw [show fTg vs bs = vs.length from fstI_eq (Nat.le_refl _) hf (Or.inl rfl), if_neg (Nat.lt_irrefl _)] at hp
      exact hp
    · intro k hk ih u6 hf
      have hv := hP.2.2 k hk
      obtain ⟨s1, ⟨s2, s3, s4⟩, -⟩ := id hv
      refine b_Mo_targetAt_3 (ygr ho rfl (yal (mk22 hL) (vp_in_nI hp8 (by omega)) ?_))
      rw [nI_clamp (by omega), hP.2.1, nI_1 k, n24, n18]
      refine brle (by omega) (by omega) (fun w => by omega) (fun _ => ⟨yex ho, Mo_hasTarget_sp hL (by omega) hv (xviI (brB (fun e1 => ih _ (fun i hi => ?_)) (fun e1 => ygr ho rfl (ygr ho rfl (yal (mk13 hL) (vp_in_nI (by omega) (by omega)) ?_)))))⟩)
      · by_cases w : i = k
        · rw [w]; exact decide_eq_false (fun z => of_decide_eq_false e1 z.1)
        · exact hf i (by omega)
      · rw [nI_clamp (by omega), s2]
        refine Mo_order_sp (mk12 hL) hr s4 hg (by omega) hb (by omega) hn (xviI ⟨fun w => ih _ (fun i hi => ?_), fun w => ?_⟩)
        · by_cases z : i = k
          · rw [z]; exact decide_eq_false (fun z => w (ordM_0.mpr z.2))
          · exact hf i (by omega)
        · rw [show fTg vs bs = k from fstI_eq (by omega) hf (Or.inr (decide_eq_true ⟨of_decide_eq_true e1, ordM_0.mp (Classical.not_not.mp w)⟩)), if_pos hk] at hp
          exact hp
  exact hlo 0 (Nat.zero_le _) none (fun i hi => absurd hi (Nat.not_lt_zero _))
theorem Mo_sourceAt_sp (hL : mLay Λ m) (hp8 : p < 9) (hP : mP S m p vs) {r c j o n q : Nat} (hr : yn Λ r c j o 2 n) (hg : rg (yA S c j o) q bs) (hb : q + bs.length ≤ n) (hn : n < 2 ^ 30) (hp : post (some (.int (srP vs p bs))) (yH Λ f0 S)) : xSp xT0 (d + 2) j_Mo_sourceAt [.ref m, .int (nI p), .ref r, .int (nI q), .int (nI bs.length)] (yH Λ f0 S) post := by
  have ho := hL.2.1
  have hvl := hP.1
  unfold srP at hp
  refine xSp_of (M := m_Mo_sourceAt) rfl (b_Mo_sourceAt_0 ?_)
  have hlo : ∀ k, k ≤ vs.length → (∀ (u6 : Option Value), (∀ i, i < k → decide (¬ (vs.getD i sv0).1 = 0 ∧ (vs.getD i sv0).2.2.1 = bs) = false) → xWp (xT0, xSp xT0 (d + 1), none, m_Mo_sourceAt, post) 3 [some (.ref m), some (.int (nI p)), some (.ref r), some (.int (nI q)), some (.int (nI bs.length)), some (.int (nI k)), u6] [] (yH Λ f0 S) 0 0) := by
    refine loopUp ?_ ?_
    · intro u6 hf
      refine b_Mo_sourceAt_3 (ygr ho rfl (yal (mk22 hL) (vp_in_nI hp8 (by omega)) ?_))
      rw [nI_clamp (by omega), hP.2.1]
      refine brle (by omega) (by omega) (fun _ => ?_) (fun w => by omega)
      rw [show fSr vs bs = vs.length from fstI_eq (Nat.le_refl _) hf (Or.inl rfl), if_neg (Nat.lt_irrefl _)] at hp
      exact hp
    · intro k hk ih u6 hf
      have hv := hP.2.2 k hk
      obtain ⟨s1, -, ⟨s2, s3, s4⟩, -⟩ := id hv
      refine b_Mo_sourceAt_3 (ygr ho rfl (yal (mk22 hL) (vp_in_nI hp8 (by omega)) ?_))
      rw [nI_clamp (by omega), hP.2.1, nI_1 k, n24, n18]
      refine brle (by omega) (by omega) (fun w => by omega) (fun _ => ⟨yex ho, Mo_hasSource_sp hL (by omega) hv (xviI (brB (fun e1 => ih _ (fun i hi => ?_)) (fun e1 => ygr ho rfl (ygr ho rfl (yal (mk15 hL) (vp_in_nI (by omega) (by omega)) ?_)))))⟩)
      · by_cases w : i = k
        · rw [w]; exact decide_eq_false (fun z => of_decide_eq_false e1 z.1)
        · exact hf i (by omega)
      · rw [nI_clamp (by omega), s2]
        refine Mo_order_sp (mk14 hL) hr s4 hg (by omega) hb (by omega) hn (xviI ⟨fun w => ih _ (fun i hi => ?_), fun w => ?_⟩)
        · by_cases z : i = k
          · rw [z]; exact decide_eq_false (fun z => w (ordM_0.mpr z.2))
          · exact hf i (by omega)
        · rw [show fSr vs bs = k from fstI_eq (by omega) hf (Or.inr (decide_eq_true ⟨of_decide_eq_true e1, ordM_0.mp (Classical.not_not.mp w)⟩)), if_pos hk] at hp
          exact hp
  exact hlo 0 (Nat.zero_le _) none (fun i hi => absurd hi (Nat.not_lt_zero _))
theorem Mo_droppedAt_sp (hL : mLay Λ m) (hp8 : p < 9) (hP : mP S m p vs) (ht : t < 220) (hw : mS S m t w) (hp : post (some (.int (drO vs p w.2.1))) (yH Λ f0 S)) : xSp xT0 (d + 2) j_Mo_droppedAt [.ref m, .int (nI p), .int (nI t)] (yH Λ f0 S) post := by
  have ho := hL.2.1
  have hvl := hP.1
  obtain ⟨-, ⟨t2, t3, t4⟩, -⟩ := id hw
  unfold drO at hp
  refine xSp_of (M := m_Mo_droppedAt) rfl (b_Mo_droppedAt_0 ?_)
  have hlo : ∀ k, k ≤ vs.length → (∀ (u6 : Option Value), (∀ i, i < k → decide ((vs.getD i sv0).1 = 1 ∧ (vs.getD i sv0).2.1 = w.2.1) = false) → xWp (xT0, xSp xT0 (d + 1), none, m_Mo_droppedAt, post) 2 [some (.ref m), some (.int (nI p)), some (.int (nI t)), some (.int (nI k)), u6] [] (yH Λ f0 S) 0 0) := by
    refine loopUp ?_ ?_
    · intro u6 hf
      refine b_Mo_droppedAt_2 (ygr ho rfl (yal (mk22 hL) (vp_in_nI hp8 (by omega)) ?_))
      rw [nI_clamp (by omega), hP.2.1]
      refine brle (by omega) (by omega) (fun _ => ?_) (fun w => by omega)
      rw [show fDr vs w.2.1 = vs.length from fstI_eq (Nat.le_refl _) hf (Or.inl rfl), if_neg (Nat.lt_irrefl _)] at hp
      exact hp
    · intro k hk ih u6 hf
      obtain ⟨s1, ⟨s2, s3, s4⟩, -⟩ := hP.2.2 k hk
      refine b_Mo_droppedAt_2 (ygr ho rfl (yal (mk22 hL) (vp_in_nI hp8 (by omega)) ?_))
      rw [nI_clamp (by omega), hP.2.1, nI_1 k, n24, n18, n18]
      refine brle (by omega) (by omega) (fun w => by omega) (fun _ => ygr ho rfl (yal (mk11 hL) (vp_in_nI (by omega) (by omega)) ?_))
      rw [nI_clamp (by omega), s1]
      refine ⟨fun e1 => ih _ (fun i hi => ?_), fun e1 => ygr ho rfl (ygr ho rfl (yal (mk13 hL) (vp_in_nI (by omega) (by omega)) (ygr ho rfl (ygr ho rfl (yal (mk13 hL) (vp_in_nI ht (by omega)) ?_)))))⟩
      · by_cases w : i = k
        · rw [w]; exact decide_eq_false (fun z => e1 z.1)
        · exact hf i (by omega)
      · rw [nI_clamp (by omega), nI_clamp (by omega), s2, t2]
        refine Mo_order_sp (mk12 hL) (mk12 hL) s4 t4 (by omega) (by omega) (by omega) (by omega) (xviI ⟨fun w => ih _ (fun i hi => ?_), fun w => ?_⟩)
        · by_cases z : i = k
          · rw [z]; exact decide_eq_false (fun z => w (ordM_0.mpr z.2))
          · exact hf i (by omega)
        · rw [show fDr vs _ = k from fstI_eq (by omega) hf (Or.inr (decide_eq_true ⟨Classical.not_not.mp e1, ordM_0.mp (Classical.not_not.mp w)⟩)), if_pos hk] at hp
          exact hp
  exact hlo 0 (Nat.zero_le _) none (fun i hi => absurd hi (Nat.not_lt_zero _))
theorem tgO_c (vs : List Sv) {p : Nat} (hp : p < 9) (hl : vs.length ≤ 24) (bs : List Nat) : (fTg vs bs < vs.length ∧ tgO vs p bs = nI (24 * p + fTg vs bs) ∧ ¬ tgO vs p bs = -2) ∨ (¬ fTg vs bs < vs.length ∧ tgO vs p bs = -2) := by
  unfold tgO
  by_cases c : fTg vs bs < vs.length
  · rw [if_pos c]; exact Or.inl ⟨c, rfl, nI_n2 (by omega)⟩
  · rw [if_neg c]; exact Or.inr ⟨c, rfl⟩
theorem srP_c (vs : List Sv) {p : Nat} (hp : p < 9) (hl : vs.length ≤ 24) (bs : List Nat) : (fSr vs bs < vs.length ∧ ¬ srP vs p bs = -2) ∨ (¬ fSr vs bs < vs.length ∧ srP vs p bs = -2) := by
  unfold srP
  by_cases c : fSr vs bs < vs.length
  · rw [if_pos c]; exact Or.inl ⟨c, nI_n2 (by omega)⟩
  · rw [if_neg c]; exact Or.inr ⟨c, rfl⟩
theorem Mo_chainRule_sp (hL : mLay Λ m) {q : Nat} (hp8 : p < 9) (hq8 : q < 9) (hP : mP S m p vs) (hQ : mP S m q ws) (hs : s < 220) (hv : mS S m s v) (hp : post (some (.int (nI (cruB vs ws v)))) (yH Λ f0 S)) : xSp xT0 (d + 3) j_Mo_chainRule [.ref m, .int (nI p), .int (nI q), .int (nI s)] (yH Λ f0 S) post := by
  have ho := hL.2.1
  have hvl := hP.1
  have hwl := hQ.1
  obtain ⟨s1, ⟨s2, s3, s4⟩, ⟨s5, s6, s7⟩, ⟨s8, s9, s10, s11⟩, -⟩ := id hv
  have h140 : ∀ (b : Bool) (u4 : Option Value), b = decide (¬ v.1 = 1 ∧ fTg vs v.2.1 < vs.length) → cruB vs ws v = cruT vs ws v → xWp (xT0, xSp xT0 (d + 2), none, m_Mo_chainRule, post) 140 [some (.ref m), some (.int (nI p)), some (.int (nI q)), some (.int (nI s)), u4] [.int (bI b)] (yH Λ f0 S) 0 0 := by
    intro b u4 eb er
    rw [er] at hp
    unfold cruT at hp
    refine b_Mo_chainRule_140 (brB (fun e => ?_) (fun e => ygr ho rfl (ygr ho rfl (yal (mk13 hL) (vp_in_nI hs (by omega)) ?_))))
    · rw [eb] at e
      rw [if_neg (fun w => of_decide_eq_false e ⟨w.1, w.2.1⟩)] at hp
      exact hp
    · rw [nI_clamp (by omega), s2, n18]
      rw [eb] at e
      have e := of_decide_eq_true e
      refine ⟨yex ho, Mo_sourceAt_sp hL hq8 hQ (mk12 hL) s4 (by omega) (by omega) (xviI ?_)⟩
      rcases srP_c ws hq8 hwl v.2.1 with ⟨c1, c2⟩ | ⟨c1, c2⟩
      · rw [if_neg (fun w => w.2.2 c1)] at hp
        exact ⟨fun _ => hp, fun w => absurd c2 w⟩
      · rw [if_pos ⟨e.1, e.2, c1⟩] at hp
        exact ⟨fun w => absurd c2 w, fun _ => hp⟩
  have h103 : ∀ (u4 : Option Value), cruB vs ws v = cruT vs ws v → xWp (xT0, xSp xT0 (d + 2), none, m_Mo_chainRule, post) 103 [some (.ref m), some (.int (nI p)), some (.int (nI q)), some (.int (nI s)), u4] [] (yH Λ f0 S) 0 0 := by
    intro u4 er
    refine b_Mo_chainRule_103 ⟨yex ho, Mo_hasTarget_sp hL hs hv (xviI (brB (fun e1 => ?_) (fun e1 => ygr ho rfl (ygr ho rfl (yal (mk13 hL) (vp_in_nI hs (by omega)) ?_)))))⟩
    · exact h140 false _ (decide_eq_false (fun w => of_decide_eq_false e1 w.1)).symm er
    · rw [nI_clamp (by omega), s2, n18]
      refine ⟨yex ho, Mo_targetAt_sp hL hp8 hP (mk12 hL) s4 (by omega) (by omega) (xviI ?_)⟩
      rcases tgO_c vs hp8 hvl v.2.1 with ⟨c1, c2, c3⟩ | ⟨c1, c2⟩
      · exact ⟨fun w => absurd w c3, fun _ => h140 true _ (decide_eq_true ⟨of_decide_eq_true e1, c1⟩).symm er⟩
      · exact ⟨fun _ => h140 false _ (decide_eq_false (fun w => c1 w.2)).symm er, fun w => absurd c2 w⟩
  have h62 : ¬ v.1 = 0 → ¬ (¬ fTg vs v.2.2.1 < vs.length ∧ fSr vs v.2.2.1 < vs.length) → xWp (xT0, xSp xT0 (d + 2), none, m_Mo_chainRule, post) 62 [some (.ref m), some (.int (nI p)), some (.int (nI q)), some (.int (nI s)), some (.int (tgO vs p v.2.2.1))] [] (yH Λ f0 S) 0 0 := by
    intro c0 hn
    have e1 : cruB vs ws v = if ¬ v.1 = 0 ∧ fTg vs v.2.2.1 < vs.length ∧ ¬ goV (vs.getD (fTg vs v.2.2.1) sv0) v then 2 else cruT vs ws v := by
      unfold cruB
      rw [if_neg (fun w => hn w.2)]
    refine b_Mo_chainRule_62 ?_
    unfold B_Mo_chainRule_62
    rcases tgO_c vs hp8 hvl v.2.2.1 with ⟨c1, c2, c3⟩ | ⟨c1, c2⟩
    · refine ⟨fun w => absurd w c3, fun _ => ?_⟩
      obtain ⟨-, -, -, ⟨-, -, t10, t11⟩, -⟩ := hP.2.2 _ c1
      rw [c2]
      refine ygr ho rfl (yal (mk18 hL) (vp_in_nI (by omega) (by omega)) (ygr ho rfl (yal (mk16 hL) (vp_in_nI hs (by omega)) ?_)))
      rw [nI_clamp (by omega), nI_clamp (by omega), t10, s8]
      refine ⟨fun c4 => ?_, fun c4 => ygr ho rfl (yal (mk19 hL) (vp_in_nI (by omega) (by omega)) (ygr ho rfl (yal (mk17 hL) (vp_in_nI hs (by omega)) ?_)))⟩
      · rw [e1, if_pos ⟨c0, c1, fun w => c4 w.1⟩] at hp
        exact hp
      · rw [nI_clamp (by omega), nI_clamp (by omega), t11, s9]
        refine ⟨fun c5 => h103 _ ?_, fun c5 => ?_⟩
        · rw [e1, if_neg (fun w => w.2.2 ⟨Classical.not_not.mp c4, c5⟩)]
        · rw [e1, if_pos ⟨c0, c1, fun w => c5 w.2⟩] at hp
          exact hp
    · rw [c2]
      refine ⟨fun _ => h103 _ ?_, fun w => absurd rfl w⟩
      rw [e1, if_neg (fun w => c1 w.2.1)]
  refine xSp_of (M := m_Mo_chainRule) rfl (b_Mo_chainRule_0 ⟨yex ho, Mo_hasSource_sp hL hs hv (xviI (brB (fun e1 => h103 _ ?_) (fun e1 => ygr ho rfl (ygr ho rfl (yal (mk15 hL) (vp_in_nI hs (by omega)) ?_)))))⟩)
  · have c0 := of_decide_eq_false e1
    unfold cruB
    rw [if_neg (fun w => c0 w.1), if_neg (fun w => c0 w.1)]
  · have c0 := of_decide_eq_true e1
    rw [nI_clamp (by omega), s5, n18]
    refine ⟨yex ho, Mo_targetAt_sp hL hp8 hP (mk14 hL) s7 (by omega) (by omega) (xviI ?_)⟩
    rcases tgO_c vs hp8 hvl v.2.2.1 with ⟨c1, c2, c3⟩ | ⟨c1, c2⟩
    · exact ⟨fun _ => h62 c0 (fun w => w.1 c1), fun w => absurd c3 w⟩
    · refine ⟨fun w => absurd c2 w, fun _ => ygr ho rfl (ygr ho rfl (yal (mk15 hL) (vp_in_nI hs (by omega)) ?_))⟩
      rw [nI_clamp (by omega), s5]
      refine ⟨yex ho, Mo_sourceAt_sp hL hp8 hP (mk14 hL) s7 (by omega) (by omega) (xviI ?_)⟩
      rcases srP_c vs hp8 hvl v.2.2.1 with ⟨c3, c4⟩ | ⟨c3, c4⟩
      · refine ⟨fun w => absurd w c4, fun _ => ?_⟩
        unfold cruB at hp
        rw [if_pos ⟨c0, c1, c3⟩] at hp
        exact hp
      · exact ⟨fun _ => h62 c0 (fun w => c3 w.2), fun w => absurd c4 w⟩
end
