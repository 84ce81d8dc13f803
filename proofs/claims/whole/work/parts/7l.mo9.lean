/-! 7l the other object: its disk -/
def okL (L : List Le) : Prop := (∀ k, k < L.length → okP (L.getD k le0).1) ∧ (∀ k l, k < L.length → l < L.length → (L.getD k le0).1 = (L.getD l le0).1 → k = l) ∧ ∀ k l, k < L.length → l < L.length → abvB (L.getD k le0).1 (L.getD l le0).1 = false
def okD2 (D : Dv) : Prop := (∀ k, k < (dL D).length → (D.1 ((dL D).getD k le0).2).isSome = true) ∧ okL (dL D)
theorem fstD (p : Nat → Bool) (k : Nat) : decide (fstI p (k + 1) < k + 1) = (decide (fstI p k < k) || p k) := by
  rw [fstI_s]
  by_cases h : fstI p k < k
  · rw [if_pos h, decide_eq_true h, decide_eq_true (by omega)]; rfl
  · rw [if_neg h, decide_eq_false h, Bool.false_or]
    by_cases h2 : p k = true
    · rw [if_pos h2, h2, decide_eq_true (by omega)]
    · rw [if_neg h2, Bool.eq_false_iff.mpr h2, decide_eq_false (by omega)]
def mDf (S : yS) (m : Nat) (D : Dv) : Prop := D.2.2.1 < 2 ∧ yI S 11 43 m = nI D.2.2.1 ∧ yI S 11 44 m = D.2.2.2.1 ∧ yI S 11 45 m = bI D.2.2.2.2.2 ∧ yI S 11 46 m = D.2.2.2.2.1
section
variable {Λ : yL} {f0 : xH} {S S' S1 : yS} {m d t u f g : Nat} {J F : Nat → Prop} {fs gs : List Fl} {ts : List (List Fl)} {bs cs : List Nat} {B : Ab} {D D' : Dv} {ch : Nat → Nat} {x y a b c e z : Int32} {post : Option Value → xH → Prop}
theorem mSl_z {s : Nat} {o : Option (List Nat)} (k : zS m g F S S') (hF : g = 3 → ¬ F s) (h : mSl S m s o) : mSl S' m s o := by
  have e38 : yA S' 11 38 m s = yA S 11 38 m s := by
    by_cases e : g = 3
    · subst e
      exact k.2.2 38 s rfl (by rw [show wid 38 = 1 from rfl, Nat.div_one]; exact hF rfl)
    · rw [k.2.1 11 38 m (fun z => e (by rw [← z.2.2]; rfl))]
  unfold mSl at h ⊢
  rw [e38]
  cases o with
  | none => exact h
  | some b =>
    refine ⟨h.1, h.2.1, ?_⟩
    by_cases e : g = 3
    · subst e
      have hl : b.length ≤ 48 := h.2.1
      exact rg_e h.2.2 (fun i hi => k.2.2 37 _ rfl (by rw [show wid 37 = 48 from rfl, div48 (by omega)]; exact hF rfl))
    · rw [k.2.1 11 37 m (fun z => e (by rw [← z.2.2]; rfl))]; exact h.2.2
theorem mLe_z {r : Nat} {q : Le} (k : zS m g F S S') (hF : g = 4 → ¬ F r) (h : mLe S m r q) : mLe S' m r q := by
  obtain ⟨h1, h2, h3, h4, h5⟩ := h
  by_cases e : g = 4
  · subst e
    refine ⟨?_, h2, rg_e h3 (fun i hi => k.2.2 39 _ rfl (by rw [show wid 39 = 18 from rfl, div18 (by omega)]; exact hF rfl)), ?_, h5⟩
    · rw [k.2.2 40 r rfl (by rw [show wid 40 = 1 from rfl, Nat.div_one]; exact hF rfl)]; exact h1
    · rw [k.2.2 41 r rfl (by rw [show wid 41 = 1 from rfl, Nat.div_one]; exact hF rfl)]; exact h4
  · unfold mLe
    rw [k.2.1 11 39 m (fun z => e (by rw [← z.2.2]; rfl)), k.2.1 11 40 m (fun z => e (by rw [← z.2.2]; rfl)), k.2.1 11 41 m (fun z => e (by rw [← z.2.2]; rfl))]
    exact ⟨h1, h2, h3, h4, h5⟩
theorem n10 (t i : Nat) : (10 : Int32) * nI t + nI i = nI (10 * t + i) := by
  have : (10 : Int32) * nI t = nI (10 * t) := pk_mul 10 t
  rw [this, nI_add]
/-- the disk has changed -/
theorem mQ_D (k : zX m (fun j => (37 ≤ j ∧ j ≤ 47) ∨ scr j) S S') (q : mQ Λ S m B) (h : mDi S' m D) : mQ Λ S' m (wD B D) := by
  obtain ⟨q0, q1, q2, q3, q4, q5, q6⟩ := q
  exact ⟨q0, mTa_x k (fun j _ _ => by unfold scr; omega) q1, mHa_x k (fun j _ _ => by unfold scr; omega) q2, mTs_x k (fun j _ _ => by unfold scr; omega) q3, mPs_x k (fun j _ _ => by unfold scr; omega) q4, mCo_x k (fun j _ _ => by unfold scr; omega) q5, h⟩
theorem M_power (q : mQ Λ S m B) (hp : ∀ S', yFr (A11 m) S S' → mQ Λ S' m (a_power B a).1 → post (some (.int (a_power B a).2)) (yH Λ f0 S')) : xSp xT0 (d + 8) j_Mo_power [.ref m, .int a] (yH Λ f0 S) post := by
  have hL := q.1
  have ho := hL.2.1
  have q' := mQ_0 (x := 0) q
  have hD := q'.2.2.2.2.2.2
  unfold a_power at hp
  have hin : ((-1 : Int64) ≤ a.toInt64 ∧ a.toInt64 ≤ 40) ↔ ¬ (a < -1 ∨ ¬ a ≤ 40) := by
    rw [Int64.le_iff_toInt_le, Int64.le_iff_toInt_le, Int32.toInt_toInt64, show (-1 : Int64).toInt = -1 from rfl, show (40 : Int64).toInt = 40 from rfl, Int32.lt_iff_toInt_lt, Int32.le_iff_toInt_le, show (-1 : Int32).toInt = -1 from rfl, show (40 : Int32).toInt = 40 from rfl]
    omega
  refine xSp_of (M := m_Mo_power) rfl (b_Mo_power_0 (ypf ho rfl ?_))
  by_cases cc : a < -1 ∨ ¬ a ≤ 40
  · rw [if_neg (fun z => hin.mp z cc)]
    rw [if_pos cc] at hp
    exact ⟨fun z => absurd rfl z, fun _ => hp _ M0_Fr q'⟩
  · rw [if_pos (hin.mpr cc)]
    rw [if_neg cc] at hp
    refine ⟨fun _ => ygi ho rfl ?_, fun z => absurd (by decide) z⟩
    rw [hD.2.2.2.2.2.1]
    refine brB (fun r => ypf ho rfl ?_) (fun r => ?_)
    · rw [if_neg (by rw [r]; decide)] at hp
      have k1 : zX m (fun j => j = 0 ∨ j = 44) S (ywI (ywI S 11 0 m 0) 11 44 m a) := zX_tr (zX_wI (Or.inl rfl)) (zX_wI (Or.inr rfl))
      refine hp _ (zX_Fr k1) (mQ_D (zX_mo k1 (fun j z => by unfold scr; omega)) q ⟨fun s hs => mSl_x k1 (fun j _ _ => by omega) (q.2.2.2.2.2.2.1 s hs), fun i hi => mLi_x k1 (fun j _ _ => by omega) (q.2.2.2.2.2.2.2.1 i hi), hD.2.2.1, ?_, ywI_s _ _ _ _ _, ?_, ?_⟩)
      · rw [ywI_ne _ _ (by omega)]; exact hD.2.2.2.1
      · rw [ywI_ne _ _ (by omega)]; exact hD.2.2.2.2.2.1
      · rw [ywI_ne _ _ (by omega)]; exact hD.2.2.2.2.2.2
    · rw [if_pos r] at hp
      exact hp _ M0_Fr q'
theorem Mo_mayWrite_sp (hL : mLay Λ m) (hD : mDf S m D) (h1 : ∀ S' D', spD D = some D' → zX m (fun j => 44 ≤ j ∧ j ≤ 46) S S' → mDf S' m D' → post (some (.int 1)) (yH Λ f0 S')) (h0 : spD D = none → ∀ S', zX m (fun j => 44 ≤ j ∧ j ≤ 46) S S' → mDf S' m (dnD D) → post (some (.int 0)) (yH Λ f0 S')) : xSp xT0 (d + 1) j_Mo_mayWrite [.ref m] (yH Λ f0 S) post := by
  have ho := hL.2.1
  obtain ⟨f1, f2, f3, f4, f5⟩ := hD
  have h35 : ∀ z, z = (if D.2.2.2.1 ≤ 0 then D.2.2.2.1 else D.2.2.2.1 - 1) → ¬ D.2.2.2.1 = 0 → xWp (xT0, xSp xT0 d, none, m_Mo_mayWrite, post) 35 [some (.ref m)] [.int z, .ref m] (yH Λ f0 S) 0 0 := by
    intro z ez hn
    refine b_Mo_mayWrite_35 (ypf ho rfl (ygi ho rfl (ypf ho rfl ?_)))
    rw [ywI_ne _ _ (by omega), f5]
    refine h1 _ (D.1, D.2.1, D.2.2.1, z, D.2.2.2.2.1 + 1, D.2.2.2.2.2) (by unfold spD; rw [if_neg hn, ez]) (zX_tr (zX_wI (by omega)) (zX_wI (by omega))) ⟨f1, ?_, ?_, ?_, ywI_s _ _ _ _ _⟩
    · rw [ywI_ne _ _ (by omega), ywI_ne _ _ (by omega)]; exact f2
    · rw [ywI_ne _ _ (by omega), ywI_s]
    · rw [ywI_ne _ _ (by omega), ywI_ne _ _ (by omega)]; exact f4
  refine xSp_of (M := m_Mo_mayWrite) rfl (b_Mo_mayWrite_0 (ygi ho rfl ?_))
  rw [f3]
  refine ⟨fun c1 => ygi ho rfl ?_, fun c1 => ypf ho rfl ?_⟩
  · rw [f3]
    refine ⟨fun c2 => ygi ho rfl (h35 _ ?_ c1), fun c2 => ygi ho rfl (h35 _ ?_ c1)⟩
    · rw [f3, if_pos c2]
    · rw [f3, if_neg c2]
  · refine h0 (by unfold spD; rw [if_pos (Classical.not_not.mp c1)]) _ (zX_wI (by omega)) ⟨f1, ?_, ?_, ywI_s _ _ _ _ _, ?_⟩
    · rw [ywI_ne _ _ (by omega)]; exact f2
    · rw [ywI_ne _ _ (by omega)]; exact f3
    · rw [ywI_ne _ _ (by omega)]; exact f5
theorem Mo_isInList_sp (hL : mLay Λ m) (h43 : yI S 11 43 m = nI D.2.2.1) (hc : D.2.2.1 < 2) (hl : mLi S m D.2.2.1 (dL D)) {s : Nat} (hs : s ≤ 30) (hp : post (some (.int (bI (usL (dL D) s)))) (yH Λ f0 S)) : xSp xT0 (d + 1) j_Mo_isInList [.ref m, .int (nI s)] (yH Λ f0 S) post := by
  have ho := hL.2.1
  have hll := hl.1
  refine xSp_of (M := m_Mo_isInList) rfl (b_Mo_isInList_0 ?_)
  have hlo : ∀ k, k ≤ (dL D).length → xWp (xT0, xSp xT0 d, none, m_Mo_isInList, post) 4 [some (.ref m), some (.int (nI s)), some (.int (bI (decide (fstI (fun i => decide (((dL D).getD i le0).2 = s)) k < k)))), some (.int (nI k))] [] (yH Λ f0 S) 0 0 := by
    refine loopUp ?_ ?_
    · refine b_Mo_isInList_4 (ygr ho rfl (ygi ho rfl ?_))
      rw [h43]
      refine yal (mk42 hL) (vp_in_nI hc (by omega)) ?_
      rw [nI_clamp (by omega), hl.2.1]
      refine brle (by omega) (by omega) (fun _ => ⟨?_, hp⟩) (fun z => by omega)
      cases decide (fstI (fun i => decide (((dL D).getD i le0).2 = s)) (dL D).length < (dL D).length)
      · exact Or.inl rfl
      · exact Or.inr rfl
    · intro k hk ih
      rw [fstD] at ih
      have hlk := hl.2.2 k hk
      have h30 := hlk.2.2.2.2
      refine b_Mo_isInList_4 (ygr ho rfl (ygi ho rfl ?_))
      rw [h43]
      refine yal (mk42 hL) (vp_in_nI hc (by omega)) ?_
      rw [nI_clamp (by omega), hl.2.1, nI_1]
      refine brle (by omega) (by omega) (fun z => by omega) (fun _ => brBn (fun r => ?_) (fun r => ygr ho rfl (ygi ho rfl ?_)))
      · rw [r] at ih; exact ih
      · rw [h43, n10]
        refine yal (mk41 hL) (vp_in_nI (by omega) (by omega)) ?_
        rw [nI_clamp (by omega), hlk.2.2.2.1]
        rw [r, Bool.false_or] at ih
        refine brne (by omega) (by omega) (fun z => ?_) (fun z => ?_)
        · rw [decide_eq_false z] at ih; exact ih
        · rw [decide_eq_true z] at ih; exact ih
  exact hlo 0 (Nat.zero_le _)
theorem Mo_isChosen_sp (hL : mLay Λ m) {n s : Nat} (hn : n ≤ 10) (hs : s ≤ 30) (hc : ∀ i, i < n → yA S 11 47 m i = nI (ch i) ∧ ch i < 30) (hp : post (some (.int (bI (chO ch n s)))) (yH Λ f0 S)) : xSp xT0 (d + 1) j_Mo_isChosen [.ref m, .int (nI s), .int (nI n)] (yH Λ f0 S) post := by
  have ho := hL.2.1
  refine xSp_of (M := m_Mo_isChosen) rfl (b_Mo_isChosen_0 ?_)
  have hlo : ∀ k, k ≤ n → xWp (xT0, xSp xT0 d, none, m_Mo_isChosen, post) 5 [some (.ref m), some (.int (nI s)), some (.int (nI n)), some (.int (bI (decide (fstI (fun i => decide (ch i = s)) k < k)))), some (.int (nI k))] [] (yH Λ f0 S) 0 0 := by
    refine loopUp ?_ ?_
    · refine b_Mo_isChosen_5 (brle (by omega) (by omega) (fun _ => ⟨?_, hp⟩) (fun z => by omega))
      cases decide (fstI (fun i => decide (ch i = s)) n < n)
      · exact Or.inl rfl
      · exact Or.inr rfl
    · intro k hk ih
      rw [fstD] at ih
      have h30 := (hc k hk).2
      refine b_Mo_isChosen_5 (brle (by omega) (by omega) (fun z => by omega) (fun _ => ?_))
      rw [nI_1]
      refine brBn (fun r => ?_) (fun r => ygr ho rfl (yal (mk47 hL) (vp_in_nI (by omega) (by omega)) ?_))
      · rw [r] at ih; exact ih
      · rw [nI_clamp (by omega), (hc k hk).1]
        rw [r, Bool.false_or] at ih
        refine brne (by omega) (by omega) (fun z => ?_) (fun z => ?_)
        · rw [decide_eq_false z] at ih; exact ih
        · rw [decide_eq_true z] at ih; exact ih
  exact hlo 0 (Nat.zero_le _)
theorem Mo_kept_sp (hL : mLay Λ m) (hok : okD2 D) (hc : D.2.2.1 < 2) (h43 : yI S 11 43 m = nI D.2.2.1) (hs : ∀ s, s < 30 → mSl S m s (D.1 s)) (hl : mLi S m D.2.2.1 (dL D)) (hf : f < 130) {p : Fl} (hF : mF S m f p) (hp : post (some (.int (match hdS D p.1 p.2 with | none => -2 | some s => nI s))) (yH Λ f0 S)) : xSp xT0 (d + 2) j_Mo_kept [.ref m, .int (nI f)] (yH Λ f0 S) post := by
  have ho := hL.2.1
  have hll := hl.1
  obtain ⟨⟨a1, a2, a3⟩, b1, b2, b3⟩ := hF
  refine xSp_of (M := m_Mo_kept) rfl (b_Mo_kept_0 ?_)
  have hlo : ∀ k, k ≤ (dL D).length → (∀ (u3 u4 : Option Value), (∀ i, i < k → ¬ (((dL D).getD i le0).1 = p.1 ∧ (D.1 ((dL D).getD i le0).2).getD [] = p.2)) → xWp (xT0, xSp xT0 (d + 1), none, m_Mo_kept, post) 2 [some (.ref m), some (.int (nI f)), some (.int (nI k)), u3, u4] [] (yH Λ f0 S) 0 0) := by
    refine loopUp ?_ ?_
    · intro u3 u4 hg
      refine b_Mo_kept_2 (ygr ho rfl (ygi ho rfl ?_))
      rw [h43]
      refine yal (mk42 hL) (vp_in_nI hc (by omega)) ?_
      rw [nI_clamp (by omega), hl.2.1]
      refine brle (by omega) (by omega) (fun _ => ?_) (fun z => by omega)
      have en : hdS D p.1 p.2 = none := by
        unfold hdS
        cases hsl : slO (dL D) p.1 with
        | none => rfl
        | some s =>
          dsimp only
          refine if_neg (fun z => ?_)
          unfold slO at hsl
          split at hsl
          · next hlt =>
            have es := Option.some.inj hsl
            refine hg _ hlt ⟨of_decide_eq_true (fstI_t (p := fun i => decide (((dL D).getD i le0).1 = p.1)) hlt), ?_⟩
            show (D.1 ((dL D).getD (slI (dL D) p.1) le0).2).getD [] = p.2
            rw [es]; exact z
          · cases hsl
      rw [en] at hp
      exact hp
    · intro k hk ih u3 u4 hg
      obtain ⟨l1, l2, l3, l4, l5⟩ := hl.2.2 k hk
      have hno : ¬ (((dL D).getD k le0).1 = p.1 ∧ (D.1 ((dL D).getD k le0).2).getD [] = p.2) → ∀ (u3 u4 : Option Value), xWp (xT0, xSp xT0 (d + 1), none, m_Mo_kept, post) 2 [some (.ref m), some (.int (nI f)), some (.int (nI (k + 1))), u3, u4] [] (yH Λ f0 S) 0 0 := fun hc2 u3 u4 => ih u3 u4 (fun i hi => by
        by_cases w : i = k
        · rw [w]; exact hc2
        · exact hg i (by omega))
      refine b_Mo_kept_2 (ygr ho rfl (ygi ho rfl ?_))
      rw [h43]
      refine yal (mk42 hL) (vp_in_nI hc (by omega)) ?_
      rw [nI_clamp (by omega), hl.2.1, nI_1]
      refine brle (by omega) (by omega) (fun z => by omega) (fun _ => ygi ho rfl ?_)
      rw [h43, n10]
      refine ygr ho rfl (yal (mk41 hL) (vp_in_nI (by omega) (by omega)) (ygr ho rfl (ygr ho rfl (yal (mk40 hL) (vp_in_nI (by omega) (by omega)) (ygr ho rfl (ygr ho rfl (yal (mk6 hL) (vp_in_nI hf (by omega)) ?_)))))))
      rw [nI_clamp (by omega), nI_clamp (by omega), l1, l4, a1, n18, n18]
      refine Mo_order_sp (mk39 hL) (mk5 hL) l3 a3 (by omega) (by omega) (by omega) (by omega) (xviI ⟨fun z => hno (fun w => z (ordM_0.mpr w.1)) _ _, fun z => ?_⟩)
      have ep := ordM_0.mp (Classical.not_not.mp z)
      have hsl := hs _ l5
      have hso := hok.1 k hk
      cases hb : D.1 ((dL D).getD k le0).2 with
      | none => rw [hb] at hso; cases hso
      | some b =>
        rw [hb] at hsl
        obtain ⟨s1, s2, s3⟩ := hsl
        refine ygr ho rfl (ygr ho rfl (yal (mk38 hL) (vp_in_nI l5 (by omega)) (ygr ho rfl (ygr ho rfl (yal (mk8 hL) (vp_in_nI hf (by omega)) ?_)))))
        rw [nI_clamp (by omega), nI_clamp (by omega), s1, b1, n48, n48]
        refine Mo_order_sp (mk37 hL) (mk7 hL) s3 b3 (by omega) (by omega) (by omega) (by omega) (xviI ⟨fun w => hno (fun w2 => w (ordM_0.mpr ?_)) _ _, fun w => ?_⟩)
        · have := w2.2
          rw [hb] at this
          exact this
        · have eb := ordM_0.mp (Classical.not_not.mp w)
          have esl : slI (dL D) p.1 = k := fstI_eq (Nat.le_of_lt hk) (fun i hi => decide_eq_false (fun w2 => by
            have := hok.2.2.1 i k (by omega) hk (w2.trans ep.symm)
            omega)) (Or.inr (decide_eq_true ep))
          have eh : hdS D p.1 p.2 = some ((dL D).getD k le0).2 := by
            unfold hdS slO
            rw [esl, if_pos hk]
            dsimp only
            rw [hb, if_pos (show (some b).getD [] = p.2 from eb)]
          rw [eh] at hp
          exact hp
  exact hlo 0 (Nat.zero_le _) none none (fun i hi => absurd hi (Nat.not_lt_zero _))
theorem M_slot (q : mQ Λ S m B) (hp : ∀ S', yFr (A11 m) S S' → mQ Λ S' m B → post (some (.int (a_slot B a b))) (yH Λ f0 S')) : xSp xT0 (d + 8) j_Mo_slot [.ref m, .int a, .int b] (yH Λ f0 S) post := by
  have hL := q.1
  have ho := hL.2.1
  have q' := mQ_0 (x := 0) q
  replace hp := hp _ M0_Fr q'
  have hD := q'.2.2.2.2.2.2
  unfold a_slot tlS at hp
  refine xSp_of (M := m_Mo_slot) rfl (b_Mo_slot_0 (ypf ho rfl (brT (n := 30) (by omega) rfl (fun e1 => ?_) (fun s hs es e1 => ?_))))
  · rcases tIx_c 30 (by omega) a with ⟨r, r2⟩ | ⟨k, hk, ek, ek2⟩
    · rw [if_pos r2] at hp; exact hp
    · rw [ek2] at e1; cases e1
  · subst es
    have hn : ¬ (nI s < 0 ∨ nI 30 ≤ nI s) := fun z => z.elim (nI_pos (by omega)) (fun z => absurd ((leI (by omega) (by omega)).mp z) (by omega))
    rw [if_neg hn, nI_clamp (by omega)] at hp
    have hsl := hD.1 s hs
    refine brTn (n := 3) (by omega) rfl (fun e2 => ?_) (fun w hw ew e2 => ⟨fun c2 => ygr ho rfl (yal (mk38 hL) (vp_in_nI hs (by omega)) ?_), fun c2 => ⟨yex ho, Mo_isInList_sp hL hD.2.2.2.1 hD.2.2.1 (hD.2.1 _ hD.2.2.1) (by omega) (xviI (brB (fun r => ?_) (fun r => ?_)))⟩⟩)
    · have hnn : ∀ w, w < 3 → ¬ b = nI w := fun w hw z => by rw [z, tIx_s (by omega) hw] at e2; cases e2
      rw [if_neg (show ¬ b = 0 from hnn 0 (by omega)), if_neg (show ¬ b = 1 from hnn 1 (by omega)), if_neg (show ¬ b = 2 from hnn 2 (by omega))] at hp
      exact hp
    · rw [nI_clamp (by omega)]
      cases hb : (aD B).1 s with
      | none =>
        rw [hb] at hp hsl
        have hsl : yA (ywI S 11 0 m 0) 11 38 m s = -2 := hsl
        rw [hsl]
        refine ⟨fun z => absurd z (by decide), fun _ => ?_⟩
        by_cases c0 : b = 0
        · rw [if_pos c0] at hp; exact hp
        · have c1 : b = 1 := by
            have h0 : w ≠ 0 := fun z => c0 (by rw [ew, z]; rfl)
            have h2 : w ≠ 2 := fun z => c2 (by rw [ew, z]; rfl)
            rw [ew, show w = 1 by omega]; rfl
          rw [if_neg c0, if_pos c1] at hp; exact hp
      | some bb =>
        rw [hb] at hp hsl
        obtain ⟨s1, s2, s3⟩ := hsl
        rw [s1]
        refine ⟨fun _ => ⟨fun c0 => ygr ho rfl (ygr ho rfl (yal (mk38 hL) (vp_in_nI hs (by omega)) ?_)), fun c0 => ygr ho rfl (yal (mk38 hL) (vp_in_nI hs (by omega)) ?_)⟩, fun z => absurd (nI_pos' (by omega)) z⟩
        · have c1 : b = 1 := by
            have h0 : w ≠ 0 := fun z => c0 (by rw [ew, z]; rfl)
            have h2 : w ≠ 2 := fun z => c2 (by rw [ew, z]; rfl)
            rw [ew, show w = 1 by omega]; rfl
          rw [if_neg c0, if_pos c1] at hp
          rw [nI_clamp (by omega), s1, n48]
          exact Mo_sum_sp (mk37 hL) s3 (by omega) (by omega) (xviI hp)
        · rw [if_pos (Classical.not_not.mp c0)] at hp
          rw [nI_clamp (by omega), s1]
          exact hp
    · have c2 := Classical.not_not.mp c2
      rw [if_neg (by rw [c2]; decide), if_neg (by rw [c2]; decide), if_pos c2, r] at hp; exact hp
    · have c2 := Classical.not_not.mp c2
      rw [if_neg (by rw [c2]; decide), if_neg (by rw [c2]; decide), if_pos c2, r] at hp; exact hp
end
