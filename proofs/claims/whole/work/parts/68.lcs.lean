/-! 68 how much two rows have in common -/
def lcs : List Nat → List Nat → Nat
  | [], _ => 0
  | _ :: _, [] => 0
  | x :: xs, y :: ys => if x = y then lcs xs ys + 1 else max (lcs xs (y :: ys)) (lcs (x :: xs) ys)
  termination_by xs ys => xs.length + ys.length
theorem lcs_nl (ys : List Nat) : lcs [] ys = 0 := by rw [lcs]
theorem lcs_nr (xs : List Nat) : lcs xs [] = 0 := by cases xs <;> rw [lcs]
theorem lcs_c (x y : Nat) (xs ys : List Nat) : lcs (x :: xs) (y :: ys) = if x = y then lcs xs ys + 1 else max (lcs xs (y :: ys)) (lcs (x :: xs) ys) := by rw [lcs]
theorem lcs_ex : ∀ n (xs ys : List Nat), xs.length + ys.length = n → ∃ zs : List Nat, zs.Sublist xs ∧ zs.Sublist ys ∧ zs.length = lcs xs ys := by
  intro n
  induction n using Nat.strongRecOn with
  | ind n ih =>
    intro xs ys hn
    cases xs with
    | nil => exact ⟨[], List.Sublist.refl _, List.nil_sublist _, by rw [lcs_nl]; rfl⟩
    | cons x xs =>
      cases ys with
      | nil => exact ⟨[], List.nil_sublist _, List.Sublist.refl _, by rw [lcs_nr]; rfl⟩
      | cons y ys =>
        simp only [List.length_cons] at hn
        rw [lcs_c]
        by_cases e : x = y
        · obtain ⟨zs, h1, h2, h3⟩ := ih (xs.length + ys.length) (by omega) xs ys rfl
          subst e
          exact ⟨x :: zs, h1.cons_cons x, h2.cons_cons x, by rw [if_pos rfl, ← h3]; rfl⟩
        · rw [if_neg e]
          obtain ⟨zs, h1, h2, h3⟩ := ih (xs.length + (ys.length + 1)) (by omega) xs (y :: ys) rfl
          obtain ⟨ws, k1, k2, k3⟩ := ih (xs.length + 1 + ys.length) (by omega) (x :: xs) ys rfl
          rcases Nat.le_total (lcs xs (y :: ys)) (lcs (x :: xs) ys) with q | q
          · rw [Nat.max_eq_right q]
            exact ⟨ws, k1, k2.cons y, k3⟩
          · rw [Nat.max_eq_left q]
            exact ⟨zs, h1.cons x, h2, h3⟩
theorem sub_ne {z x : Nat} {zs xs : List Nat} (h : (z :: zs).Sublist (x :: xs)) (hne : z ≠ x) : (z :: zs).Sublist xs := by
  cases h with
  | cons _ h => exact h
  | cons_cons _ h => exact absurd rfl hne
theorem lcs_le : ∀ n (xs ys zs : List Nat), xs.length + ys.length = n → zs.Sublist xs → zs.Sublist ys → zs.length ≤ lcs xs ys := by
  intro n
  induction n using Nat.strongRecOn with
  | ind n ih =>
    intro xs ys zs hn h1 h2
    cases zs with
    | nil => exact Nat.zero_le _
    | cons z zs =>
      cases xs with
      | nil => cases h1
      | cons x xs =>
        cases ys with
        | nil => cases h2
        | cons y ys =>
          simp only [List.length_cons] at hn
          rw [lcs_c]
          by_cases e : x = y
          · rw [if_pos e]
            have := ih (xs.length + ys.length) (by omega) xs ys zs rfl (List.Sublist.tail h1) (List.Sublist.tail h2)
            simp only [List.length_cons]
            omega
          · rw [if_neg e]
            by_cases e2 : z = x
            · have := ih (xs.length + 1 + ys.length) (by omega) (x :: xs) ys (z :: zs) rfl h1 (sub_ne h2 (fun q => e (e2.symm.trans q)))
              exact Nat.le_trans this (Nat.le_max_right _ _)
            · have := ih (xs.length + (ys.length + 1)) (by omega) xs (y :: ys) (z :: zs) rfl (sub_ne h1 e2) h2
              exact Nat.le_trans this (Nat.le_max_left _ _)
theorem lcs_rle (xs ys : List Nat) : lcs xs ys ≤ lcs xs.reverse ys.reverse := by
  obtain ⟨zs, h1, h2, h3⟩ := lcs_ex _ xs ys rfl
  have := lcs_le _ xs.reverse ys.reverse zs.reverse rfl h1.reverse h2.reverse
  rw [List.length_reverse, h3] at this
  exact this
theorem lcs_rev (xs ys : List Nat) : lcs xs.reverse ys.reverse = lcs xs ys := by
  have h1 := lcs_rle xs ys
  have h2 := lcs_rle xs.reverse ys.reverse
  rw [List.reverse_reverse, List.reverse_reverse] at h2
  omega
theorem lcs_b (xs ys : List Nat) : lcs xs ys ≤ xs.length := by
  obtain ⟨zs, h1, h2, h3⟩ := lcs_ex _ xs ys rfl
  rw [← h3]
  exact h1.length_le
/-- of the first i of xs and the first k of ys -/
def lcp (xs ys : List Nat) (i k : Nat) : Nat := lcs (xs.take i).reverse (ys.take k).reverse
theorem takeR {xs : List Nat} {i : Nat} (h : i < xs.length) : (xs.take (i + 1)).reverse = xs.getD i 0 :: (xs.take i).reverse := by
  rw [List.take_succ, List.getD_eq_getElem?_getD, List.getElem?_eq_getElem h]
  simp
theorem lcp_0l (xs ys : List Nat) (k : Nat) : lcp xs ys 0 k = 0 := by unfold lcp; rw [List.take_zero]; exact lcs_nl _
theorem lcp_0r (xs ys : List Nat) (i : Nat) : lcp xs ys i 0 = 0 := by unfold lcp; rw [List.take_zero]; exact lcs_nr _
theorem lcp_s {xs ys : List Nat} {i k : Nat} (hi : i < xs.length) (hk : k < ys.length) : lcp xs ys (i + 1) (k + 1) = if xs.getD i 0 = ys.getD k 0 then lcp xs ys i k + 1 else max (lcp xs ys i (k + 1)) (lcp xs ys (i + 1) k) := by
  unfold lcp
  rw [takeR hi, takeR hk, lcs_c]
theorem lcp_b (xs ys : List Nat) (i k : Nat) : lcp xs ys i k ≤ xs.length := by
  refine Nat.le_trans (lcs_b _ _) ?_
  rw [List.length_reverse, List.length_take]
  omega
theorem lcp_e (xs ys : List Nat) : lcp xs ys xs.length ys.length = lcs xs ys := by
  unfold lcp
  rw [List.take_length, List.take_length]
  exact lcs_rev _ _
/-- how LIKE they are -/
def lkV (xs ys : List Nat) : Nat := if xs.length + ys.length = 0 then 0 else 2000 * lcs xs ys / (xs.length + ys.length)
abbrev A7 : Nat → Nat → Prop := fun c _ => c = 7
abbrev yC7 (S : yS) (g : Nat) : Nat → Int32 := yA S 7 4 g
/-- the arrays of a Differ but the one that is changed stay -/
def yD4 (S S' : yS) (g : Nat) : Prop := ∀ c j a, ¬ (c = 7 ∧ j = 4 ∧ a = g) → yI S' c j a = yI S c j a ∧ yA S' c j a = yA S c j a ∧ yR S' c j a = yR S c j a
theorem yD4_rf {S : yS} {g : Nat} : yD4 S S g := fun _ _ _ _ => ⟨rfl, rfl, rfl⟩
theorem yD4_w {S S' : yS} {g : Nat} {r : Nat → Int32} (h : yD4 S S' g) : yD4 S (ywA S' 7 4 g r) g := fun c j a q => by
  obtain ⟨a1, a2, a3⟩ := h c j a q
  exact ⟨a1, (yA_n _ _ q).trans a2, a3⟩
theorem yD4_Bv {S S' : yS} {g b cap : Nat} {bs : List Nat} (h : yD4 S S' g) (hv : yBv S b cap bs) : yBv S' b cap bs :=
  ⟨hv.1, by rw [(h 1 1 b (by omega)).1]; exact hv.2.1, fun k hk => by rw [(h 1 0 b (by omega)).2.1]; exact hv.2.2 k hk⟩
section
variable {Λ : yL} {f0 : xH} {S S' : yS} {g a b capx capy d : Nat} {xs ys : List Nat} {x y : Int32} {post : Option Value → xH → Prop}
theorem Di_mostCommon_sp (hW : yW Λ) (hD : yDf Λ g) (hX : yB Λ a capx) (hx : yBv S a capx xs) (hxl : xs.length ≤ 48) (hY : yB Λ b capy) (hy : yBv S b capy ys) (hyl : ys.length ≤ 48) (h : ∀ S', yD4 S S' g → post (some (.int (nI (lcs xs ys)))) (yH Λ f0 S')) : xSp xT0 (d + 2) j_Di_mostCommon [.ref g, .ref a, .ref b] (yH Λ f0 S) post := by
  have hcy := hY.2.2
  have hcx := hX.2.2
  have hxc := hx.1
  have hyc := hy.1
  have h7 := hD.2.2.2.2.2
  have hb : ∀ i k, lcp xs ys i k ≤ 48 := fun i k => Nat.le_trans (lcp_b _ _ _ _) hxl
  refine xSp_of (M := m_Di_mostCommon) rfl (b_Di_mostCommon_0 ⟨yex hY.1, By_size_sp hY hy ?_⟩)
  refine xviI ?_
  rw [min48 hyl]
  have hout : ∀ i, i ≤ xs.length → (∀ S1 (u5 u6 u7 u8 : Option Value), yD4 S S1 g → (∀ k, k ≤ ys.length → yC7 S1 g k = nI (lcp xs ys i k)) → xWp (xT0, xSp xT0 (d + 1), none, m_Di_mostCommon, post) 36 [some (.ref g), some (.ref a), some (.ref b), some (.int (nI ys.length)), some (.int (nI i)), u5, u6, u7, u8] [] (yH Λ f0 S1) 0 0) := by
    refine loopUp ?_ ?_
    · intro S1 u5 u6 u7 u8 k1 c1
      refine b_Di_mostCommon_36 (ygi hX.1 rfl ?_)
      rw [(yD4_Bv k1 hx).2.1]
      refine brle (by omega) (by omega) (fun _ => ygr hD.1 rfl (yal h7 (vp_in_nI (by omega) (by omega)) ?_)) (fun q => absurd q (by omega))
      rw [nI_clamp (by omega), show yA S1 7 4 g ys.length = _ from c1 _ (Nat.le_refl _), lcp_e]
      exact h S1 k1
    · intro i hi ih S1 u5 u6 u7 u8 k1 c1
      have hxi := (yD4_Bv k1 hx).2.2 i hi
      refine b_Di_mostCommon_36 (ygi hX.1 rfl ?_)
      rw [(yD4_Bv k1 hx).2.1]
      refine brle (by omega) (by omega) (fun q => absurd q (by omega)) (fun _ => ygr hX.1 rfl (yal hX.2.1 (vp_in_nI (by omega) (by omega)) ?_))
      rw [nI_clamp (by omega), hxi.1]
      have hin : ∀ k, k ≤ ys.length → (∀ S2 (u8 : Option Value), yD4 S S2 g → (∀ j, j ≤ k → yC7 S2 g j = nI (lcp xs ys (i + 1) j)) → (∀ j, k < j → j ≤ ys.length → yC7 S2 g j = nI (lcp xs ys i j)) → xWp (xT0, xSp xT0 (d + 1), none, m_Di_mostCommon, post) 60 [some (.ref g), some (.ref a), some (.ref b), some (.int (nI ys.length)), some (.int (nI i)), some (.int (nI (xs.getD i 0))), some (.int (nI (lcp xs ys i k))), some (.int (nI (k + 1))), u8] [] (yH Λ f0 S2) 0 0) := by
        refine loopUp ?_ ?_
        · intro S2 u8 k2 c2 c3
          refine b_Di_mostCommon_60 (brlt (by omega) (by omega) (fun _ => ?_) (fun q => absurd q (by omega)))
          rw [nI_1]
          exact ih S2 _ _ _ _ k2 c2
        · intro k hk ih2 S2 u8 k2 c2 c3
          have hyk := (yD4_Bv k2 hy).2.2 k hk
          have hs := lcp_s hi hk
          have e1 : nI (k + 1) - 1 = nI k := nI_pred k
          have hfin : ∀ S3 (u8 : Option Value), yD4 S S3 g → yC7 S3 g (k + 1) = nI (lcp xs ys (i + 1) (k + 1)) → (∀ j, j ≠ k + 1 → yC7 S3 g j = yC7 S2 g j) → xWp (xT0, xSp xT0 (d + 1), none, m_Di_mostCommon, post) 60 [some (.ref g), some (.ref a), some (.ref b), some (.int (nI ys.length)), some (.int (nI i)), some (.int (nI (xs.getD i 0))), some (.int (nI (lcp xs ys i (k + 1)))), some (.int (nI (k + 1 + 1))), u8] [] (yH Λ f0 S3) 0 0 := by
            intro S3 u8 k3 e3 o3
            refine ih2 S3 u8 k3 (fun j hj => ?_) (fun j hj1 hj2 => ?_)
            · by_cases z : j = k + 1
              · rw [z]; exact e3
              · rw [o3 j z]; exact c2 j (by omega)
            · rw [o3 j (by omega)]; exact c3 j (by omega) hj2
          refine b_Di_mostCommon_60 (brlt (by omega) (by omega) (fun q => absurd q (by omega)) (fun _ => ygr hD.1 rfl (yal h7 (vp_in_nI (by omega) (by omega)) (ygr hY.1 rfl ?_))))
          rw [e1, nI_clamp (by omega)]
          have hb1 := hb i (k + 1)
          have hb2 := hb (i + 1) k
          have hb3 := hb i k
          have hyb := hyk.2
          have hxb := hxi.2
          refine yal hY.2.1 (vp_in_nI (by omega) (by omega)) ?_
          rw [nI_clamp (by omega), hyk.1]
          show xbr _ _ _
          have ec : yA S2 7 4 g (k + 1) = nI (lcp xs ys i (k + 1)) := c3 (k + 1) (by omega) (by omega)
          have ec2 : yA S2 7 4 g k = nI (lcp xs ys (i + 1) k) := c2 k (Nat.le_refl _)
          rw [ec, nI_1]
          refine brne (by omega) (by omega) (fun q => ygr hD.1 rfl (yal h7 (vp_in_nI (by omega) (by omega)) ?_)) (fun q => ygr hD.1 rfl (yas h7 (yW_n hW h7) (vp_in_nI (by omega) (by omega)) ?_))
          · rw [if_neg (fun z => q z.symm)] at hs
            rw [nI_clamp (by omega), ec2]
            refine brle (by omega) (by omega) (fun z => ?_) (fun z => ygr hD.1 rfl (ygr hD.1 rfl (yal h7 (vp_in_nI (by omega) (by omega)) (yas h7 (yW_n hW h7) (vp_in_nI (by omega) (by omega)) ?_))))
            · rw [Nat.max_eq_left z] at hs
              exact hfin S2 _ k2 (by rw [hs]; exact ec) (fun _ _ => rfl)
            · rw [Nat.max_eq_right (by omega)] at hs
              rw [nI_clamp (by omega), nI_clamp (by omega), ec2]
              exact hfin _ _ (yD4_w k2) (by show yA _ 7 4 g _ = _; rw [yA_s, pk_us, hs]) (fun j hj => by show yA _ 7 4 g _ = _; rw [yA_s, pk_un hj])
          · rw [if_pos q.symm] at hs
            rw [nI_clamp (by omega), nI_1]
            exact hfin _ _ (yD4_w k2) (by show yA _ 7 4 g _ = _; rw [yA_s, pk_us, hs]) (fun j hj => by show yA _ 7 4 g _ = _; rw [yA_s, pk_un hj])
      have := hin 0 (Nat.zero_le _) S1 u8 k1 (fun j hj => ?_) (fun j _ hj => c1 j hj)
      · rw [lcp_0r] at this
        exact this
      · have : j = 0 := by omega
        subst this
        rw [lcp_0r, c1 0 (Nat.zero_le _), lcp_0r]
  have h0 : ∀ k, k ≤ ys.length + 1 → (∀ S1, yD4 S S1 g → (∀ j, j < k → yC7 S1 g j = 0) → xWp (xT0, xSp xT0 (d + 1), none, m_Di_mostCommon, post) 13 [some (.ref g), some (.ref a), some (.ref b), some (.int (nI ys.length)), some (.int (nI k)), none, none, none, none] [] (yH Λ f0 S1) 0 0) := by
    refine loopUp ?_ ?_
    · intro S1 k1 c1
      refine b_Di_mostCommon_13 (brlt (by omega) (by omega) (fun _ => ?_) (fun q => absurd q (by omega)))
      exact hout 0 (Nat.zero_le _) S1 none none none none k1 (fun k hk => by rw [lcp_0l]; exact c1 k (by omega))
    · intro k hk ih S1 k1 c1
      refine b_Di_mostCommon_13 (brlt (by omega) (by omega) (fun q => absurd q (by omega)) (fun _ => ygr hD.1 rfl (yas h7 (yW_n hW h7) (vp_in_nI (by omega) (by omega)) ?_)))
      rw [nI_clamp (by omega), nI_1]
      refine ih _ (yD4_w k1) (fun j hj => ?_)
      show yA _ 7 4 g j = 0
      rw [yA_s]
      by_cases z : j = k
      · rw [z]; exact pk_us
      · rw [pk_un z]; exact c1 j (by omega)
  exact h0 0 (Nat.zero_le _) S yD4_rf (fun j hj => absurd hj (Nat.not_lt_zero _))
theorem Di_like_sp (hW : yW Λ) (hD : yDf Λ g) (hX : yB Λ a capx) (hx : yBv S a capx xs) (hxl : xs.length ≤ 48) (hY : yB Λ b capy) (hy : yBv S b capy ys) (hyl : ys.length ≤ 48) (h : ∀ S', yD4 S S' g → post (some (.int (nI (lkV xs ys)))) (yH Λ f0 S')) : xSp xT0 (d + 3) j_Di_like [.ref g, .ref a, .ref b] (yH Λ f0 S) post := by
  refine xSp_of (M := m_Di_like) rfl (b_Di_like_0 ⟨yex hX.1, By_size_sp hX hx ⟨yex hY.1, By_size_sp hY hy ?_⟩⟩)
  refine xviI ?_
  rw [nI_add]
  unfold lkV at h
  refine brne (b := 0) (by omega) (by omega) (fun q => ⟨yex hD.1, Di_mostCommon_sp hW hD hX hx hxl hY hy hyl (fun S1 k1 => ?_)⟩) (fun q => ?_)
  · have hl := lcs_b xs ys
    refine ⟨fun z => q ((nI_eq (b := 0) (by omega) (by omega)).mp z), ?_⟩
    rw [if_neg q] at h
    have e : (2000 : Int32) * nI (lcs xs ys) = nI (2000 * lcs xs ys) := pk_mul 2000 _
    rw [e, pk_div (by omega) (by omega) (by omega)]
    exact h S1 k1
  · rw [if_pos q] at h
    exact h S yD4_rf
end
