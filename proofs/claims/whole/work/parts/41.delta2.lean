/-! 41 Delta: joinOf, make, pieces -/
def byI (v : Int32) : Nat := v.toBitVec.toNat % 256
theorem byI_lt (v : Int32) : byI v < 256 := Nat.mod_lt _ (by decide)
theorem byI_and (v : Int32) : v &&& 255 = nI (byI v) := pk_and v (m := 255) 8 rfl
theorem byI_nI {b : Nat} (h : b < 256) : byI (nI b) = b := by
  unfold byI
  rw [pk_tn (by omega)]
  exact Nat.mod_eq_of_lt h
theorem zTake {zs : List Int32} {k : Nat} (h : k < zs.length) : zs.take (k + 1) = zs.take k ++ [zs.getD k 0] := by
  rw [List.take_succ, List.getElem?_eq_getElem h, List.getD_eq_getElem?_getD, List.getElem?_eq_getElem h]
  rfl
def joinZ (ys : List Int32) (z : Int32) : Option Int32 := if 0 ≤ z then (if nI ys.length ≤ z then none else some (ys.getD z.toNatClampNeg 0)) else some z
def joinD (ys zs : List Int32) : List Int32 := zs.filterMap (joinZ ys)
def makeZ (xs : List Nat) (z : Int32) : Nat := if 0 ≤ z then (if nI xs.length ≤ z then 255 else xs.getD z.toNatClampNeg 0) else byI (z ^^^ (-1))
def makeD (zs : List Int32) (xs : List Nat) : List Nat := zs.map (makeZ xs)
section
variable {Λ : yL} {f0 : xH} {S : yS} {a o p q cap capx d : Nat} {zs ys : List Int32} {xs bs : List Nat} {x z : Int32} {post : Option Value → xH → Prop}
theorem By_add_sp2 (hW : yW Λ) (hB : yB Λ a cap) (hv : yBv S a cap bs) (hlt : bs.length < cap) (h : ∀ g v, yBv (yBw S a g v) a cap (bs ++ [byI x]) → post none (yH Λ f0 (yBw S a g v))) : xSp xT0 (d + 1) j_By_add [.ref a, .int x] (yH Λ f0 S) post := by
  refine By_add_sp hW hB hv (fun hl => ?_) (fun hl => absurd hl (by omega))
  rw [byI_and]
  exact h _ _ (yBv_add hB.2.2 hv hlt (byI_lt x))
theorem De_joinOf_loop (hW : yW Λ) (hD : yD Λ a) (hP : yD Λ p) (hQ : yD Λ q) (hpa : p ≠ a) (hqa : q ≠ a) (hy : yDv S p ys) (hz : yDv S q zs) {E : Option Value → xH → Prop} (h : ∀ g v, yDv (yDw S a g v) a (joinD ys zs) → E none (yH Λ f0 (yDw S a g v))) : ∀ m k g v (u : Option Value), zs.length - k = m → k ≤ zs.length → yDv (yDw S a g v) a (joinD ys (zs.take k)) → xWp (xT0, xSp xT0 (d + 1), none, m_De_joinOf, E) 7 [some (.ref a), some (.ref p), some (.ref q), some (.int (nI k)), u] [] (yH Λ f0 (yDw S a g v)) 0 0 := by
  have hl := hz.1
  have hl2 := hy.1
  have hjl : ∀ k, (joinD ys (zs.take k)).length ≤ k := fun k => by
    have := List.length_filterMap_le (joinZ ys) (zs.take k)
    rw [List.length_take] at this
    unfold joinD
    omega
  intro m
  induction m with
  | zero =>
    intro k g v u hk1 hk2 hv
    have hz' := yDv_w (g := g) (v := v) hqa hz
    refine b_De_joinOf_7 (ygi hQ.1 rfl ?_)
    rw [hz'.2.1]
    rw [List.take_of_length_le (by omega)] at hv
    exact ⟨fun c => h g v hv, fun c => absurd ((leI (by omega) (by omega)).mpr (by omega)) c⟩
  | succ m ih =>
    intro k g v u hk1 hk2 hv
    have hk : k < zs.length := by omega
    have hz' := yDv_w (g := g) (v := v) hqa hz
    have hy' := yDv_w (g := g) (v := v) hpa hy
    have hst : joinD ys (zs.take (k + 1)) = joinD ys (zs.take k) ++ (joinZ ys (zs.getD k 0)).toList := by
      unfold joinD
      rw [zTake hk, List.filterMap_append]
      congr 1
    refine b_De_joinOf_7 (ygi hQ.1 rfl ?_)
    rw [hz'.2.1]
    refine ⟨fun c => absurd ((leI (by omega) (by omega)).mp c) (by omega), fun c => ygr hQ.1 rfl (yal hQ.2 (vp_in_nI (by omega) (by omega)) ?_)⟩
    rw [nI_clamp (by omega), hz'.2.2 k hk]
    refine ⟨fun c1 => ygi hP.1 rfl ?_, fun c1 => ?_⟩
    · rw [hy'.2.1]
      refine ⟨fun c2 => ?_, fun c2 => ?_⟩
      · have e : joinZ ys (zs.getD k 0) = none := by unfold joinZ; rw [if_pos c1, if_pos c2]
        rw [e] at hst
        have := ih (k + 1) g v (some (.int (zs.getD k 0))) (by omega) (by omega) (by rw [hst]; simp only [Option.toList, List.append_nil]; exact hv)
        rw [← nI_1] at this
        exact this
      · have e : joinZ ys (zs.getD k 0) = some (ys.getD (zs.getD k 0).toNatClampNeg 0) := by unfold joinZ; rw [if_pos c1, if_neg c2]
        rw [e] at hst
        obtain ⟨w, hw, ew⟩ : ∃ w, w < ys.length ∧ zs.getD k 0 = nI w := by
          rcases pk_ix (zs.getD k 0) (n := ys.length) (by omega) with r | r | r
          · have r1 := Int32.lt_iff_toInt_lt.mp r
            have r2 := Int32.le_iff_toInt_le.mp c1
            omega
          · exact absurd r c2
          · exact r
        refine ygr hP.1 rfl (yal hP.2 (by rw [ew]; exact vp_in_nI (by omega) (by omega)) ?_)
        rw [hy'.2.2 _ (by rw [ew, nI_clamp (by omega)]; exact hw)]
        refine ⟨yex hD.1, De_addOrigin_sp hW hD hv (by have := hjl k; omega) (fun g' v' hv' => ?_)⟩
        rw [yDw_w] at hv' ⊢
        have := ih (k + 1) g' v' (some (.int (zs.getD k 0))) (by omega) (by omega) (by rw [hst]; exact hv')
        rw [← nI_1] at this
        exact this
    · have e : joinZ ys (zs.getD k 0) = some (zs.getD k 0) := by unfold joinZ; rw [if_neg c1]
      rw [e] at hst
      refine ⟨yex hD.1, De_addOrigin_sp hW hD hv (by have := hjl k; omega) (fun g' v' hv' => ?_)⟩
      rw [yDw_w] at hv' ⊢
      have := ih (k + 1) g' v' (some (.int (zs.getD k 0))) (by omega) (by omega) (by rw [hst]; exact hv')
      rw [← nI_1] at this
      exact this
theorem De_joinOf_sp (hW : yW Λ) (hD : yD Λ a) (hP : yD Λ p) (hQ : yD Λ q) (hpa : p ≠ a) (hqa : q ≠ a) (hy : yDv S p ys) (hz : yDv S q zs) (h : ∀ g v, yDv (yDw S a g v) a (joinD ys zs) → post none (yH Λ f0 (yDw S a g v))) : xSp xT0 (d + 2) j_De_joinOf [.ref a, .ref p, .ref q] (yH Λ f0 S) post := by
  refine xSp_of (M := m_De_joinOf) rfl (b_De_joinOf_0 (ypf hD.1 rfl ?_))
  have hv : yDv (ywI S 3 1 a 0) a [] := yDv_e
  rw [yDw_e] at hv ⊢
  exact De_joinOf_loop hW hD hP hQ hpa hqa hy hz h _ 0 _ _ none rfl (Nat.zero_le _) hv
theorem De_make_loop (hW : yW Λ) (hD : yD Λ a) (hX : yB Λ p capx) (hO : yB Λ o 48) (hpo : p ≠ o) (hz : yDv S a zs) (hx : yBv S p capx xs) {E : Option Value → xH → Prop} (h : ∀ g v, yBv (yBw S o g v) o 48 (makeD zs xs) → E none (yH Λ f0 (yBw S o g v))) : ∀ m k g v, zs.length - k = m → k ≤ zs.length → yBv (yBw S o g v) o 48 (makeD (zs.take k) xs) → xWp (xT0, xSp xT0 (d + 1), none, m_De_make, E) 6 [some (.ref a), some (.ref p), some (.ref o), some (.int (nI k))] [] (yH Λ f0 (yBw S o g v)) 0 0 := by
  have hl := hz.1
  have hcx := hX.2.2
  have hlx := hx.1
  have hjl : ∀ k, k ≤ zs.length → (makeD (zs.take k) xs).length = k := fun k hk => by unfold makeD; rw [List.length_map, List.length_take]; omega
  intro m
  induction m with
  | zero =>
    intro k g v hk1 hk2 hv
    have hz' := yDv_B (a := o) (g := g) (v := v) hz
    refine b_De_make_6 (ygi hD.1 rfl ?_)
    rw [hz'.2.1]
    rw [List.take_of_length_le (by omega)] at hv
    exact ⟨fun c => h g v hv, fun c => absurd ((leI (by omega) (by omega)).mpr (by omega)) c⟩
  | succ m ih =>
    intro k g v hk1 hk2 hv
    have hk : k < zs.length := by omega
    have hz' := yDv_B (a := o) (g := g) (v := v) hz
    have hx' := yBv_w (g := g) (v := v) hpo hx
    have hlen := hjl k hk2
    have hst : makeD (zs.take (k + 1)) xs = makeD (zs.take k) xs ++ [makeZ xs (zs.getD k 0)] := by
      unfold makeD
      rw [zTake hk, List.map_append]
      rfl
    have go : ∀ w : Int32, byI w = makeZ xs (zs.getD k 0) → xSp xT0 (d + 1) j_By_add [.ref o, .int w] (yH Λ f0 (yBw S o g v)) (fun w9 f10 => xvv w9 (xWp (xT0, xSp xT0 (d + 1), none, m_De_make, E) 6 [some (.ref a), some (.ref p), some (.ref o), some (.int (nI k + 1))] [] f10 0 0)) := fun w hw => by
      refine By_add_sp2 hW hO hv (by omega) (fun g' v' hv' => ?_)
      rw [yBw_w] at hv' ⊢
      rw [hw, ← hst] at hv'
      have := ih (k + 1) g' v' (by omega) (by omega) hv'
      rw [← nI_1] at this
      exact this
    refine b_De_make_6 (ygi hD.1 rfl ?_)
    rw [hz'.2.1]
    refine ⟨fun c => absurd ((leI (by omega) (by omega)).mp c) (by omega), fun c => ygr hD.1 rfl (yal hD.2 (vp_in_nI (by omega) (by omega)) ?_)⟩
    rw [nI_clamp (by omega), hz'.2.2 k hk]
    refine ⟨fun c1 => ygr hD.1 rfl (yal hD.2 (vp_in_nI (by omega) (by omega)) ?_), fun c1 => ygr hD.1 rfl (yal hD.2 (vp_in_nI (by omega) (by omega)) ?_)⟩
    · rw [nI_clamp (by omega), hz'.2.2 k hk]
      refine ⟨yex hX.1, By_at_sp hX hx' (fun w hw e => ⟨yex hO.1, go _ ?_⟩) (fun hw => ⟨yex hO.1, go _ ?_⟩)⟩
      · unfold makeZ
        rw [if_pos c1, if_neg (fun r => by rw [e] at r; have := (leI (by omega) (by omega)).mp r; omega), e, nI_clamp (by omega)]
        exact byI_nI (hx.2.2 w hw).2
      · unfold makeZ
        rw [if_pos c1]
        rcases hw with hw | hw
        · have r1 := Int32.lt_iff_toInt_lt.mp hw
          have r2 := Int32.le_iff_toInt_le.mp c1
          omega
        · rw [if_pos hw]; decide
    · rw [nI_clamp (by omega), hz'.2.2 k hk]
      refine ⟨yex hO.1, go _ ?_⟩
      unfold makeZ
      rw [if_neg c1]
theorem De_make_sp (hW : yW Λ) (hD : yD Λ a) (hX : yB Λ p capx) (hO : yB Λ o 48) (hpo : p ≠ o) (hz : yDv S a zs) (hx : yBv S p capx xs) (h : ∀ g v, yBv (yBw S o g v) o 48 (makeD zs xs) → post none (yH Λ f0 (yBw S o g v))) : xSp xT0 (d + 2) j_De_make [.ref a, .ref p, .ref o] (yH Λ f0 S) post := by
  refine xSp_of (M := m_De_make) rfl (b_De_make_0 ⟨yex hO.1, By_empty_sp hO ?_⟩)
  have hv : yBv (ywI S 1 1 o 0) o 48 [] := yBv_e
  rw [yBw_e] at hv ⊢
  exact De_make_loop hW hD hX hO hpo hz hx h _ 0 _ _ rfl (Nat.zero_le _) hv
/-- does a PIECE begin here -/
def stP (zs : List Int32) (k : Nat) : Bool := if k = 0 then true else if zs.getD k 0 < 0 ∨ zs.getD (k - 1) 0 < 0 then decide (0 ≤ zs.getD k 0 ∨ 0 ≤ zs.getD (k - 1) 0) else decide (¬ zs.getD k 0 = zs.getD (k - 1) 0 + 1)
def cntP (zs : List Int32) : Nat → Nat
  | 0 => 0
  | k + 1 => cntP zs k + (if stP zs k = true then 1 else 0)
theorem cntP_le (zs : List Int32) : ∀ k, cntP zs k ≤ k
  | 0 => Nat.le_refl _
  | k + 1 => by
    have := cntP_le zs k
    unfold cntP
    split <;> omega
theorem cntP_s (zs : List Int32) (k : Nat) : cntP zs (k + 1) = cntP zs k + (if stP zs k = true then 1 else 0) := rfl
theorem cntP_mono (zs : List Int32) {j k : Nat} (h : j ≤ k) : cntP zs j ≤ cntP zs k := by
  induction k with
  | zero => rw [Nat.le_zero.mp h]; exact Nat.le_refl _
  | succ k ih =>
    rcases Nat.lt_or_ge j (k + 1) with q | q
    · have := ih (by omega)
      rw [cntP_s]
      split <;> omega
    · rw [show j = k + 1 by omega]
      exact Nat.le_refl _
theorem nle0 {z : Int32} : ¬ z < 0 ↔ 0 ≤ z := by
  rw [Int32.lt_iff_toInt_lt, Int32.le_iff_toInt_le]
  constructor <;> intro h <;> (simp at h ⊢; omega)
theorem De_startsPiece_sp (hD : yD Λ a) (hz : yDv S a zs) {k : Nat} (hk : k < zs.length) (h : post (some (.int (if stP zs k = true then 1 else 0))) (yH Λ f0 S)) : xSp xT0 (d + 1) j_De_startsPiece [.ref a, .int (nI k)] (yH Λ f0 S) post := by
  have hl := hz.1
  refine xSp_of (M := m_De_startsPiece) rfl (b_De_startsPiece_0 ⟨fun c => ?_, fun c => ygi hD.1 rfl ?_⟩)
  · have hk0 : k = 0 := by have := (leI (a := k) (b := 0) (by omega) (by omega)).mp c; omega
    subst hk0
    exact b_De_startsPiece_12 ⟨fun c => absurd rfl c, fun c => h⟩
  · have hk0 : ¬ k = 0 := fun q => c (by rw [q]; decide)
    have e1 : nI k - 1 = nI (k - 1) := by
      have := nI_pred (k - 1)
      rw [show k - 1 + 1 = k by omega] at this
      exact this
    have h42 : zs.getD k 0 < 0 ∨ zs.getD (k - 1) 0 < 0 → xWp (xT0, xSp xT0 d, none, m_De_startsPiece, post) 42 [some (.ref a), some (.int (nI k))] [] (yH Λ f0 S) 0 0 := by
      intro hc
      have hs : stP zs k = decide (0 ≤ zs.getD k 0 ∨ 0 ≤ zs.getD (k - 1) 0) := by unfold stP; rw [if_neg hk0, if_pos hc]
      refine b_De_startsPiece_42 (ygr hD.1 rfl (yal hD.2 (vp_in_nI (by omega) (by omega)) ?_))
      rw [nI_clamp (by omega), hz.2.2 k hk, e1]
      refine ⟨fun c1 => ?_, fun c1 => ygr hD.1 rfl (yal hD.2 (vp_in_nI (by omega) (by omega)) ?_)⟩
      · rw [hs, decide_eq_true (Or.inl c1)] at h
        exact h
      · rw [nI_clamp (by omega), hz.2.2 (k - 1) (by omega)]
        refine ⟨fun c2 => ?_, fun c2 => ?_⟩
        · rw [hs, decide_eq_false (fun q => q.elim c1 (fun q => absurd c2 (nle0.mpr q)))] at h
          exact h
        · rw [hs, decide_eq_true (Or.inr (nle0.mp c2))] at h
          exact h
    rw [hz.2.1]
    refine ⟨fun c1 => ygr hD.1 rfl (yal hD.2 (vp_in_nI (by omega) (by omega)) ?_), fun c1 => absurd ((ltI (by omega) (by omega)).mpr hk) c1⟩
    rw [nI_clamp (by omega), hz.2.2 k hk, e1]
    refine ⟨fun c2 => h42 (Or.inl c2), fun c2 => ygr hD.1 rfl (yal hD.2 (vp_in_nI (by omega) (by omega)) ?_)⟩
    rw [nI_clamp (by omega), hz.2.2 (k - 1) (by omega)]
    refine ⟨fun c3 => ?_, fun c3 => h42 (Or.inr (Classical.byContradiction fun q => c3 (nle0.mp q)))⟩
    refine ygr hD.1 rfl (yal hD.2 (vp_in_nI (by omega) (by omega)) (ygr hD.1 rfl (yal hD.2 (vp_in_nI (by omega) (by omega)) ?_)))
    rw [nI_clamp (by omega), nI_clamp (by omega), hz.2.2 k hk, hz.2.2 (k - 1) (by omega)]
    have hs : stP zs k = decide (¬ zs.getD k 0 = zs.getD (k - 1) 0 + 1) := by
      unfold stP
      rw [if_neg hk0, if_neg (fun q => q.elim c2 (fun q => absurd q (nle0.mpr c3)))]
    refine ⟨fun c4 => ?_, fun c4 => ?_⟩
    · rw [hs, decide_eq_false (fun q => q c4)] at h
      exact h
    · rw [hs, decide_eq_true c4] at h
      exact h
theorem De_pieces_loop (hD : yD Λ a) (hz : yDv S a zs) {E : Option Value → xH → Prop} (h : E (some (.int (nI (cntP zs zs.length)))) (yH Λ f0 S)) : ∀ m k, zs.length - k = m → k ≤ zs.length → xWp (xT0, xSp xT0 (d + 1), none, m_De_pieces, E) 4 [some (.ref a), some (.int (nI (cntP zs k))), some (.int (nI k))] [] (yH Λ f0 S) 0 0 := by
  have hl := hz.1
  intro m
  induction m with
  | zero =>
    intro k hk1 hk2
    have : k = zs.length := by omega
    subst this
    refine b_De_pieces_4 (ygi hD.1 rfl ?_)
    rw [hz.2.1]
    exact ⟨fun c => h, fun c => absurd ((leI (by omega) (by omega)).mpr (Nat.le_refl _)) c⟩
  | succ m ih =>
    intro k hk1 hk2
    have hk : k < zs.length := by omega
    refine b_De_pieces_4 (ygi hD.1 rfl ?_)
    rw [hz.2.1]
    refine ⟨fun c => absurd ((leI (by omega) (by omega)).mp c) (by omega), fun c => ⟨yex hD.1, De_startsPiece_sp hD hz hk ?_⟩⟩
    have := ih (k + 1) (by omega) (by omega)
    rw [← nI_1] at this
    unfold cntP at this
    by_cases e : stP zs k = true
    · rw [if_pos e] at this ⊢
      rw [← nI_1] at this
      exact ⟨fun c => absurd c (by decide), fun c => this⟩
    · rw [if_neg e] at this ⊢
      exact ⟨fun c => this, fun c => absurd rfl c⟩
theorem De_pieces_sp (hD : yD Λ a) (hz : yDv S a zs) (h : post (some (.int (nI (cntP zs zs.length)))) (yH Λ f0 S)) : xSp xT0 (d + 2) j_De_pieces [.ref a] (yH Λ f0 S) post := by
  refine xSp_of (M := m_De_pieces) rfl (b_De_pieces_0 ?_)
  exact De_pieces_loop hD hz h _ 0 rfl (Nat.zero_le _)
/-- the PIECE with the number x begins at k -/
theorem De_startOf_loop (hD : yD Λ a) (hz : yDv S a zs) {E : Option Value → xH → Prop} (h1 : ∀ k, k < zs.length → stP zs k = true → x = nI (cntP zs k) → E (some (.int (nI k))) (yH Λ f0 S)) (h2 : (∀ k, k < zs.length → stP zs k = true → ¬ x = nI (cntP zs k)) → E (some (.int (-1))) (yH Λ f0 S)) : ∀ m k, zs.length - k = m → k ≤ zs.length → (∀ j, j < k → stP zs j = true → ¬ x = nI (cntP zs j)) → xWp (xT0, xSp xT0 (d + 1), none, m_De_startOf, E) 4 [some (.ref a), some (.int x), some (.int (x - nI (cntP zs k))), some (.int (nI k))] [] (yH Λ f0 S) 0 0 := by
  have hl := hz.1
  intro m
  induction m with
  | zero =>
    intro k hk1 hk2 hg
    refine b_De_startOf_4 (ygi hD.1 rfl ?_)
    rw [hz.2.1]
    exact ⟨fun c => h2 (fun j hj => hg j (by omega)), fun c => absurd ((leI (by omega) (by omega)).mpr (by omega)) c⟩
  | succ m ih =>
    intro k hk1 hk2 hg
    have hk : k < zs.length := by omega
    refine b_De_startOf_4 (ygi hD.1 rfl ?_)
    rw [hz.2.1]
    refine ⟨fun c => absurd ((leI (by omega) (by omega)).mp c) (by omega), fun c => ⟨yex hD.1, De_startsPiece_sp hD hz hk ?_⟩⟩
    by_cases e : stP zs k = true
    · rw [if_pos e]
      refine ⟨fun c => absurd c (by decide), fun c => ⟨fun c2 => ?_, fun c2 => h1 k hk e ?_⟩⟩
      · have hne : ¬ x = nI (cntP zs k) := fun q => c2 (by rw [q]; exact Int32.sub_self _)
        have := ih (k + 1) (by omega) (by omega) (fun j hj => by
          by_cases q : j = k
          · rw [q]; exact fun _ => hne
          · exact hg j (by omega))
        rw [cntP_s, if_pos e, ← nI_1, ← nI_1] at this
        have e3 : x - (nI (cntP zs k) + 1) = x - nI (cntP zs k) + (-1) := by
          rw [Int32.sub_eq_add_neg, Int32.sub_eq_add_neg, Int32.neg_add, Int32.sub_eq_add_neg, Int32.add_assoc]
        rw [e3] at this
        exact this
      · have := Classical.not_not.mp c2
        exact Int32.sub_eq_iff_eq_add.mp this |>.trans (Int32.zero_add _)
    · rw [if_neg e]
      have := ih (k + 1) (by omega) (by omega) (fun j hj => by
        by_cases q : j = k
        · rw [q]; exact fun z => absurd z e
        · exact hg j (by omega))
      rw [cntP_s, if_neg e, Nat.add_zero, ← nI_1] at this
      exact ⟨fun c => this, fun c => absurd rfl c⟩
theorem De_startOf_sp (hD : yD Λ a) (hz : yDv S a zs) (h1 : ∀ k, k < zs.length → stP zs k = true → x = nI (cntP zs k) → post (some (.int (nI k))) (yH Λ f0 S)) (h2 : (∀ k, k < zs.length → stP zs k = true → ¬ x = nI (cntP zs k)) → post (some (.int (-1))) (yH Λ f0 S)) : xSp xT0 (d + 2) j_De_startOf [.ref a, .int x] (yH Λ f0 S) post := by
  refine xSp_of (M := m_De_startOf) rfl (b_De_startOf_0 ?_)
  have := De_startOf_loop (d := d) (f0 := f0) hD hz h1 h2 _ 0 rfl (Nat.zero_le _) (fun j hj => absurd hj (Nat.not_lt_zero _))
  have e : x - nI (cntP zs 0) = x := Int32.sub_zero x
  rw [e] at this
  exact this
theorem De_lengthFrom_loop (hD : yD Λ a) (hz : yDv S a zs) {s : Nat} (hs : s < zs.length) {E : Option Value → xH → Prop} (h : ∀ e, s < e → e ≤ zs.length → (∀ j, s < j → j < e → stP zs j = false) → (e = zs.length ∨ stP zs e = true) → E (some (.int (nI (e - s)))) (yH Λ f0 S)) : ∀ m k, zs.length - k = m → s < k → k ≤ zs.length → (∀ j, s < j → j < k → stP zs j = false) → xWp (xT0, xSp xT0 (d + 1), none, m_De_lengthFrom, E) 4 [some (.ref a), some (.int (nI s)), some (.int (nI k))] [] (yH Λ f0 S) 0 0 := by
  have hl := hz.1
  intro m
  induction m with
  | zero =>
    intro k hk1 hk0 hk2 hg
    refine b_De_lengthFrom_4 (ygi hD.1 rfl ?_)
    rw [hz.2.1, pk_sub (by omega)]
    exact ⟨fun c => h k hk0 hk2 hg (Or.inl (by omega)), fun c => absurd ((leI (by omega) (by omega)).mpr (by omega)) c⟩
  | succ m ih =>
    intro k hk1 hk0 hk2 hg
    have hk : k < zs.length := by omega
    refine b_De_lengthFrom_4 (ygi hD.1 rfl ?_)
    rw [hz.2.1, pk_sub (by omega)]
    refine ⟨fun c => absurd ((leI (by omega) (by omega)).mp c) (by omega), fun c => ⟨yex hD.1, De_startsPiece_sp hD hz hk ?_⟩⟩
    by_cases e : stP zs k = true
    · rw [if_pos e]
      exact ⟨fun c => h k hk0 hk2 hg (Or.inr e), fun c => absurd (by decide) c⟩
    · rw [if_neg e]
      have := ih (k + 1) (by omega) (by omega) (by omega) (fun j h1 h2 => by
        by_cases q : j = k
        · rw [q]; exact Bool.eq_false_iff.mpr e
        · exact hg j h1 (by omega))
      rw [← nI_1] at this
      exact ⟨fun c => absurd rfl c, fun c => this⟩
theorem De_lengthFrom_sp (hD : yD Λ a) (hz : yDv S a zs) {s : Nat} (hs : s < zs.length) (h : ∀ e, s < e → e ≤ zs.length → (∀ j, s < j → j < e → stP zs j = false) → (e = zs.length ∨ stP zs e = true) → post (some (.int (nI (e - s)))) (yH Λ f0 S)) : xSp xT0 (d + 2) j_De_lengthFrom [.ref a, .int (nI s)] (yH Λ f0 S) post := by
  refine xSp_of (M := m_De_lengthFrom) rfl (b_De_lengthFrom_0 ?_)
  have := De_lengthFrom_loop (d := d) (f0 := f0) hD hz hs h _ (s + 1) rfl (by omega) (by omega) (fun j h1 h2 => absurd h2 (by omega))
  rw [← nI_1] at this
  exact this
/-- what is told of the PIECE from s to e -/
def tellV (zs : List Int32) (s e : Nat) (y : Int32) : Int32 := if y = -1 then (if 0 ≤ zs.getD s 0 then zs.getD s 0 else -2) else if y = -2 then nI (e - s) else if zs.getD s 0 < 0 ∧ 0 ≤ y ∧ y < nI (e - s) then zs.getD (s + y.toNatClampNeg) 0 ^^^ (-1) else -1
theorem De_tellPiece_sp {y : Int32} (hD : yD Λ a) (hz : yDv S a zs) (h1 : ∀ s e, s < zs.length → stP zs s = true → x = nI (cntP zs s) → s < e → e ≤ zs.length → (∀ j, s < j → j < e → stP zs j = false) → (e = zs.length ∨ stP zs e = true) → post (some (.int (tellV zs s e y))) (yH Λ f0 S)) (h2 : (∀ k, k < zs.length → stP zs k = true → ¬ x = nI (cntP zs k)) → post (some (.int (-1))) (yH Λ f0 S)) : xSp xT0 (d + 3) j_De_tellPiece [.ref a, .int x, .int y] (yH Λ f0 S) post := by
  have hl := hz.1
  refine xSp_of (M := m_De_tellPiece) rfl (b_De_tellPiece_0 ⟨yex hD.1, De_startOf_sp hD hz (fun s hs hst hx => ?_) (fun hn => ⟨fun c => absurd rfl c, fun c => h2 hn⟩)⟩)
  have h27 : ∀ b : Int32, (b = 0 ↔ 0 ≤ zs.getD s 0) → xWp (xT0, xSp xT0 (d + 2), none, m_De_tellPiece, post) 27 [some (.ref a), some (.int x), some (.int y), some (.int (nI s)), none, none] [.int b] (yH Λ f0 S) 0 0 := by
    intro b hb
    refine b_De_tellPiece_27 ⟨yex hD.1, De_lengthFrom_sp hD hz hs (fun e he1 he2 he3 he4 => ?_)⟩
    have hpost := h1 s e hs hst hx he1 he2 he3 he4
    unfold tellV at hpost
    refine ⟨fun c1 => ⟨fun c2 => ⟨fun c3 => ?_, fun c3 => ⟨fun c4 => ?_, fun c4 => ⟨fun c5 => ?_, fun c5 => ?_⟩⟩⟩, fun c2 => ?_⟩, fun c1 => ⟨fun c2 => ygr hD.1 rfl (yal hD.2 (vp_in_nI (by omega) (by omega)) ?_), fun c2 => ?_⟩⟩
    · rw [if_neg c1, if_neg c2, if_neg (fun q => absurd q.1 (nle0.mpr (hb.mp c3)))] at hpost
      exact hpost
    · rw [if_neg c1, if_neg c2, if_neg (fun q => absurd c4 (nle0.mpr q.2.1))] at hpost
      exact hpost
    · rw [if_neg c1, if_neg c2, if_neg (fun q => by
        have r1 := Int32.lt_iff_toInt_lt.mp q.2.2
        have r2 := Int32.le_iff_toInt_le.mp c5
        omega)] at hpost
      exact hpost
    · obtain ⟨w, hw, rfl⟩ : ∃ w, w < e - s ∧ y = nI w := by
        rcases pk_ix y (n := e - s) (by omega) with r | r | r
        · exact absurd r c4
        · exact absurd r c5
        · exact r
      refine ygr hD.1 rfl (yal hD.2 (by rw [nI_add]; exact vp_in_nI (by omega) (by omega)) ?_)
      rw [if_neg c1, if_neg c2, if_pos ⟨Classical.byContradiction fun q => c3 (hb.mpr (nle0.mp q)), nle0.mp c4, (ltI (by omega) (by omega)).mpr hw⟩, nI_clamp (by omega)] at hpost
      rw [nI_add, nI_clamp (by omega), hz.2.2 _ (by omega)]
      exact hpost
    · rw [if_neg c1, if_pos (Classical.not_not.mp c2)] at hpost
      exact hpost
    · rw [if_pos (Classical.not_not.mp c1), if_pos (hb.mp c2)] at hpost
      rw [nI_clamp (by omega), hz.2.2 s hs]
      exact hpost
    · rw [if_pos (Classical.not_not.mp c1), if_neg (fun q => c2 (hb.mpr q))] at hpost
      exact hpost
  refine ⟨fun c => ygr hD.1 rfl (yal hD.2 (vp_in_nI (by omega) (by omega)) ?_), fun c => absurd (Classical.not_not.mp c) (fun z => by
    have z2 := congrArg Int32.toInt z
    rw [nI_toInt (by omega)] at z2
    have : (-1 : Int32).toInt = -1 := by decide
    omega)⟩
  rw [nI_clamp (by omega), hz.2.2 s hs]
  exact ⟨fun c1 => h27 0 ⟨fun _ => c1, fun _ => rfl⟩, fun c1 => h27 1 ⟨fun q => absurd q (by decide), fun q => absurd q c1⟩⟩
end
