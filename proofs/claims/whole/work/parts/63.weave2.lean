/-! 63 Weaver -/
def yWe (Λ : yL) (w : Nat) : Prop := yo Λ w 6 ∧ yn Λ (Λ.2.1 6 0 w) 6 0 w 0 49 ∧ yn Λ (Λ.2.1 6 1 w) 6 1 w 0 49 ∧ yn Λ (Λ.2.1 6 2 w) 6 2 w 0 48 ∧ yn Λ (Λ.2.1 6 3 w) 6 3 w 0 48
def yWv (S : yS) (w : Nat) (R C L P : Nat → Int32) : Prop := yA S 6 0 w = R ∧ yA S 6 1 w = C ∧ yA S 6 2 w = L ∧ yA S 6 3 w = P
abbrev A6 : Nat → Nat → Prop := fun c _ => c = 6
section
variable {Λ : yL} {f0 : xH} {S S' : yS} {w a b o cap capx capy d : Nat} {R C L P : Nat → Int32} {xs ys suf : List Nat} {x : Int32} {post : Option Value → xH → Prop}
theorem yWv_0 {g : Nat → Int32} (h : yWv S w R C L P) : yWv (ywA S 6 0 w g) w g C L P :=
  ⟨yA_s _ _ _ _ _, (yA_n _ _ (by omega)).trans h.2.1, (yA_n _ _ (by omega)).trans h.2.2.1, (yA_n _ _ (by omega)).trans h.2.2.2⟩
theorem yWv_1 {g : Nat → Int32} (h : yWv S w R C L P) : yWv (ywA S 6 1 w g) w R g L P :=
  ⟨(yA_n _ _ (by omega)).trans h.1, yA_s _ _ _ _ _, (yA_n _ _ (by omega)).trans h.2.2.1, (yA_n _ _ (by omega)).trans h.2.2.2⟩
theorem yWv_2 {g : Nat → Int32} (h : yWv S w R C L P) : yWv (ywA S 6 2 w g) w R C g P :=
  ⟨(yA_n _ _ (by omega)).trans h.1, (yA_n _ _ (by omega)).trans h.2.1, yA_s _ _ _ _ _, (yA_n _ _ (by omega)).trans h.2.2.2⟩
theorem yWv_3 {g : Nat → Int32} (h : yWv S w R C L P) : yWv (ywA S 6 3 w g) w R C L g :=
  ⟨(yA_n _ _ (by omega)).trans h.1, (yA_n _ _ (by omega)).trans h.2.1, (yA_n _ _ (by omega)).trans h.2.2.1, yA_s _ _ _ _ _⟩
theorem maxI {a b : Nat} (ha : a < 2 ^ 31) (hb : b < 2 ^ 31) : (if nI a < nI b then nI b else nI a) = nI (max a b) := by
  by_cases q : a < b
  · rw [if_pos ((ltI ha hb).mpr q), Nat.max_eq_right (by omega)]
  · rw [if_neg (fun z => q ((ltI ha hb).mp z)), Nat.max_eq_left (by omega)]
theorem minI {a b : Nat} (ha : a < 2 ^ 31) (hb : b < 2 ^ 31) : (if nI b < nI a then nI b else nI a) = nI (min a b) := by
  by_cases q : b < a
  · rw [if_pos ((ltI hb ha).mpr q), Nat.min_eq_right (by omega)]
  · rw [if_neg (fun z => q ((ltI hb ha).mp z)), Nat.min_eq_left (by omega)]
theorem min48 {n : Nat} (h : n ≤ 48) : (if (48 : Int32) < nI n then 48 else nI n) = nI n := by
  have := minI (a := n) (b := 48) (by omega) (by omega)
  rw [Nat.min_eq_left h] at this
  exact this
theorem We_leastPlace_sp (hw : yWe Λ w) (hv : yWv S w R C L P) {m : Nat} (hm : m ≤ 48) (hR : ∀ i, i < 48 → R i = nI (cpl (xs.drop i) suf)) (hs : suf.length ≤ 48) (h : post (some (.int (nI (fstI (fun i => decide (m ≤ cpl (xs.drop i) suf)) 48)))) (yH Λ f0 S)) : xSp xT0 (d + 1) j_We_leastPlace [.ref w, .int (nI m)] (yH Λ f0 S) post := by
  refine xSp_of (M := m_We_leastPlace) rfl (b_We_leastPlace_0 ?_)
  have hl : ∀ k, k ≤ 48 → ((∀ i, i < k → decide (m ≤ cpl (xs.drop i) suf) = false) → xWp (xT0, xSp xT0 d, none, m_We_leastPlace, post) 2 [some (.ref w), some (.int (nI m)), some (.int (nI k))] [] (yH Λ f0 S) 0 0) := by
    refine loopUp ?_ ?_
    · intro hk
      refine b_We_leastPlace_2 (brle (a := 48) (by omega) (by omega) (fun _ => ?_) (fun q => absurd q (by omega)))
      rw [fstI_eq (Nat.le_refl _) hk (Or.inl rfl)] at h
      exact h
    · intro k hk ih hg
      refine b_We_leastPlace_2 (brle (a := 48) (by omega) (by omega) (fun q => absurd q (by omega)) (fun _ => ygr hw.1 rfl (yal hw.2.1 (vp_in_nI (by omega) (by omega)) ?_)))
      have hb := cpl_r (xs.drop k) suf
      rw [nI_clamp (by omega), hv.1, hR k hk]
      refine brle (by omega) (by omega) (fun q => ?_) (fun q => ?_)
      · rw [fstI_eq (Nat.le_of_lt hk) hg (Or.inr (decide_eq_true q))] at h
        exact h
      · have := ih (fun i hi => by
          by_cases z : i = k
          · rw [z]; exact decide_eq_false (by omega)
          · exact hg i (by omega))
        rw [← nI_1] at this
        exact this
  exact hl 0 (Nat.zero_le _) (fun i hi => absurd hi (Nat.not_lt_zero _))
theorem We_lengthenRuns_sp (hW : yW Λ) (hw : yWe Λ w) (hX : yB Λ a capx) (hx : yBv S a capx xs) (hxl : xs.length ≤ 48) (hv : yWv S w R C L P) (hR : ∀ i, i < 49 → R i = nI (cpl (xs.drop i) suf)) (hs : suf.length < 48) (hb : b < 256) (h : ∀ S' R', yFr A6 S S' → yWv S' w R' C L P → (∀ i, i < 49 → R' i = nI (cpl (xs.drop i) (b :: suf))) → post (some (.int (nI (lng xs (b :: suf))))) (yH Λ f0 S')) : xSp xT0 (d + 2) j_We_lengthenRuns [.ref w, .ref a, .int (nI b)] (yH Λ f0 S) post := by
  refine xSp_of (M := m_We_lengthenRuns) rfl (b_We_lengthenRuns_0 ⟨yex hX.1, By_size_sp hX hx ?_⟩)
  show xWp _ _ _ _ _ _ _
  rw [min48 hxl]
  have hlb : ∀ n, lngG xs (b :: suf) n ≤ 48 := fun n => Nat.le_trans (lngG_r _ _ n) (by simp; omega)
  have hcb : ∀ i, cpl (xs.drop i) (b :: suf) ≤ 48 := fun i => Nat.le_trans (cpl_r _ _) (by simp; omega)
  have hl : ∀ k, k ≤ xs.length → (∀ S1 R1, yFr A6 S S1 → yWv S1 w R1 C L P → (∀ i, i < k → R1 i = nI (cpl (xs.drop i) (b :: suf))) → (∀ i, k ≤ i → i < 49 → R1 i = nI (cpl (xs.drop i) suf)) → xWp (xT0, xSp xT0 (d + 1), none, m_We_lengthenRuns, post) 16 [some (.ref w), some (.ref a), some (.int (nI b)), some (.int (nI (lngG xs (b :: suf) k))), some (.int (nI xs.length)), some (.int (nI k))] [] (yH Λ f0 S1) 0 0) := by
    refine loopUp ?_ ?_
    · intro S1 R1 k1 v1 g1 g2
      refine b_We_lengthenRuns_16 (brle (by omega) (by omega) (fun _ => ?_) (fun q => absurd q (by omega)))
      refine h S1 R1 k1 v1 (fun i hi => ?_)
      by_cases z : i < xs.length
      · exact g1 i z
      · rw [g2 i (by omega) hi, cpl_o (by omega), cpl_o (by omega)]
    · intro k hk ih S1 R1 k1 v1 g1 g2
      refine b_We_lengthenRuns_16 (brle (by omega) (by omega) (fun q => absurd q (by omega)) (fun _ => ygr hw.1 rfl ⟨yex hX.1, By_at_sp hX (yFr_Bv k1 (show ¬ (1 = 6) by decide) hx) (fun i hi e => ?_) (fun q => ?_)⟩))
      · have e : k = i := (nI_eq (by omega) (by omega)).mp e
        subst e
        have hxb := (hx.2.2 k hk).2
        have h54 : xWp (xT0, xSp xT0 (d + 1), none, m_We_lengthenRuns, post) 54 [some (.ref w), some (.ref a), some (.int (nI b)), some (.int (nI (lngG xs (b :: suf) k))), some (.int (nI xs.length)), some (.int (nI k))] [.int (nI (cpl (xs.drop k) (b :: suf))), .int (nI k), .ref (Λ.2.1 6 0 w)] (yH Λ f0 S1) 0 0 := by
          refine b_We_lengthenRuns_54 (yas hw.2.1 (yW_n hW hw.2.1) (vp_in_nI (by omega) (by omega)) (ygr hw.1 rfl (yal hw.2.1 (vp_in_nI (by omega) (by omega)) ?_)))
          rw [nI_clamp (by omega), yA_s, pk_us, maxI (Nat.lt_of_le_of_lt (hlb k) (by omega)) (Nat.lt_of_le_of_lt (hcb k) (by omega)), ← lngG_s, nI_1]
          refine ih _ _ (yFr_tr k1 (yFr_wA rfl)) (yWv_0 v1) (fun i hi => ?_) (fun i hi hi2 => ?_)
          · by_cases z : i = k
            · rw [z, pk_us]
            · rw [pk_un z, v1.1]; exact g1 i (by omega)
          · rw [pk_un (by omega), v1.1]; exact g2 i (by omega) hi2
        show xbr _ _ _
        have hd := cpl_d (suf := suf) (b := b) hk
        refine brne (by omega) (by omega) (fun q => ?_) (fun q => ygr hw.1 rfl ?_)
        · rw [if_neg q] at hd
          rw [hd] at h54
          exact h54
        · rw [nI_1]
          refine yal hw.2.1 (vp_in_nI (by omega) (by omega)) ?_
          rw [nI_clamp (by omega), v1.1, g2 (k + 1) (by omega) (by omega), nI_1]
          rw [if_pos q] at hd
          rw [hd] at h54
          exact h54
      · exact absurd q (by
          intro q
          rcases q with q | q
          · exact nI_pos (by omega) q
          · exact absurd ((leI (by omega) (by omega)).mp q) (by omega))
  exact hl 0 (Nat.zero_le _) S R yFr_rf hv (fun i hi => absurd hi (Nat.not_lt_zero _)) (fun i _ hi => hR i hi)
end
