/-! 7zo what stays right, call by call -/
def okTs (ts : List (List Fl)) : Prop := ∀ t, t < ts.length → okT (ts.getD t [])
def okPs (ps : List (List Sv)) : Prop := ∀ p, p < ps.length → okVs (ps.getD p [])
def okB (B : Ab) : Prop := okTs (aT B) ∧ okP B.2.1 ∧ okPs (aP B) ∧ okD2 (aD B)
theorem okTs_set {ts : List (List Fl)} {i : Nat} {gs : List Fl} (h : okTs ts) (hg : okT gs) : okTs (ts.set i gs) := fun t ht => by
  rw [List.length_set] at ht
  rw [List.getD_eq_getElem?_getD, List.getElem?_set]
  by_cases e : i = t
  · rw [if_pos e, if_pos (by omega)]; exact hg
  · rw [if_neg e, ← List.getD_eq_getElem?_getD]; exact h t ht
theorem okTs_add {ts : List (List Fl)} {gs : List Fl} (h : okTs ts) (hg : okT gs) : okTs (ts ++ [gs]) := fun t ht => by
  rw [apG ht]
  by_cases c : t < ts.length
  · rw [if_pos c]; exact h t c
  · rw [if_neg c]; exact hg
theorem okPs_add {ps : List (List Sv)} {vs : List Sv} (h : okPs ps) (hg : okVs vs) : okPs (ps ++ [vs]) := fun t ht => by
  rw [apG ht]
  by_cases c : t < ps.length
  · rw [if_pos c]; exact h t c
  · rw [if_neg c]; exact hg
section
variable {Λ : yL} {S : yS} {m : Nat} {B : Ab} {a b c e z : Int32}
theorem mQ_fs (q : mQ Λ S m B) (h : okB B) {t : Nat} (ht : t < (aT B).length) : okFs ((aT B).getD t []) ∧ ((aT B).getD t []).length ≤ 10 := by
  have hT := q.2.2.2.1.2.2 t ht
  refine ⟨fun i hi => ?_, hT.1⟩
  obtain ⟨⟨a1, a2, a3⟩, b1, b2, b3⟩ := hT.2.2 i hi
  exact ⟨(h.1 t ht).1 i hi, a2, b2, fun k hk => (b3 k hk).2⟩
theorem okB_ov (h : okB B) : ∀ p, p < (aP B).length → ∀ i, i < ((aP B).getD p []).length → okV (((aP B).getD p []).getD i sv0) := fun p hp i hi => (h.2.2.1 p hp).1 _ (Gmem hi)
theorem okB_feed (h : okB B) : okB (a_feed B a b c e z).1 := by
  unfold a_feed; split <;> exact h
theorem okB_end (h : okB B) : okB (a_end B a).1 := by
  unfold a_end
  split
  · exact h
  · first | exact h | (split <;> exact h)
theorem okB_path (h : okB B) : okB (a_path B).1 := by
  unfold a_path
  split
  · rename_i c
    exact ⟨h.1, nm_ok _ _ _ c, h.2.2.1, h.2.2.2⟩
  · exact h
theorem okB_tree (h : okB B) : okB (a_tree B a).1 := by
  unfold a_tree
  split
  · exact h
  · split
    · refine ⟨okTs_add h.1 ?_, h.2⟩
      cases hx : tIx (aT B).length a with
      | none => exact okT_0
      | some i =>
        show okT ((aT B).getD i [])
        by_cases c : i < (aT B).length
        · exact h.1 i c
        · rw [List.getD_eq_getElem?_getD, List.getElem?_eq_none (by omega)]; exact okT_0
    · exact h
theorem okB_put (h : okB B) : okB (a_put B a).1 := by
  unfold a_put
  cases hx : tIx (aT B).length a with
  | none => exact h
  | some i =>
    dsimp only
    split
    · exact h
    · cases hk : tkT ((aT B).getD i []) (B.2.1, B.1) with
      | none => exact h
      | some gs =>
        dsimp only
        refine ⟨okTs_set h.1 ?_, h.2⟩
        refine okT_tk (f := (B.2.1, B.1)) ?_ h.2.1 hk
        by_cases c : i < (aT B).length
        · exact h.1 i c
        · rw [List.getD_eq_getElem?_getD, List.getElem?_eq_none (by omega)]; exact okT_0
theorem okB_drop (h : okB B) : okB (a_drop B a).1 := by
  unfold a_drop
  cases hx : tIx (aT B).length a with
  | none => exact h
  | some i =>
    dsimp only
    split
    · exact h
    · split
      · rename_i c
        refine ⟨okTs_set h.1 (okT_del ?_ c), h.2⟩
        by_cases c : i < (aT B).length
        · exact h.1 i c
        · rw [List.getD_eq_getElem?_getD, List.getElem?_eq_none (by omega)]; exact okT_0
      · exact h
theorem okB_clear (h : okB B) : okB (a_clear B).1 := ⟨fun t ht => absurd ht (Nat.not_lt_zero _), h.2.1, fun t ht => absurd ht (Nat.not_lt_zero _), h.2.2.2⟩
theorem tIx_lt {n : Nat} (hn : n < 2 ^ 31) {x : Int32} {i : Nat} (h : tIx n x = some i) : i < n := by
  rcases tIx_c n hn x with ⟨r, _⟩ | ⟨k, hk, _, e⟩
  · rw [r] at h; cases h
  · rw [e] at h; rw [← Option.some.inj h]; exact hk
theorem okB_dif (q : mQ Λ S m B) (h : okB B) : ∀ i j, i < (aT B).length → j < (aT B).length → stV (difX ((aT B).getD i []) ((aT B).getD j [])) = stV (difM ((aT B).getD i []) ((aT B).getD j [])) := fun i j hi hj => dif_eq (h.1 i hi) (h.1 j hj) (mQ_fs q h hi).1 (mQ_fs q h hj).1
theorem okB_patch (q : mQ Λ S m B) (h : okB B) : okB (a_patch B a b).1 := by
  have hl := q.2.2.2.1.1
  unfold a_patch
  cases hx : tIx (aT B).length a with
  | none => exact h
  | some i =>
    dsimp only
    cases hy : tIx (aT B).length b with
    | none => exact h
    | some j =>
      dsimp only
      have hi := tIx_lt (by omega) hx
      have hj := tIx_lt (by omega) hy
      split
      · exact ⟨h.1, h.2.1, okPs_add h.2.2.1 (okVs_st (difX_ok (h.1 i hi) (h.1 j hj) (mQ_fs q h hi).1 (mQ_fs q h hj).1)), h.2.2.2⟩
      · exact h
theorem okB_dis (h : okB B) : ∀ t p, t < (aT B).length → p < (aP B).length → ∀ G, (∀ i, i < ((aP B).getD p []).length → G i = true → rulA ((aP B).getD p []) ((aT B).getD t []) G (((aP B).getD p []).getD i sv0) = 0) → dis (alL ((aT B).getD t []) ((aP B).getD p []) G) := fun t p ht hp G hf => dis_al (h.1 t ht) (h.2.2.1 p hp) hf
theorem okB_apply (q : mQ Λ S m B) (h : okB B) {st : Bool} : okB (a_apply B a b st).1 := by
  have hl := q.2.2.2.1.1
  have hpl := q.2.2.2.2.1.1
  unfold a_apply
  cases hx : tIx (aP B).length a with
  | none => exact h
  | some p =>
    dsimp only
    cases hy : tIx (aT B).length b with
    | none => exact h
    | some t =>
      dsimp only
      have hi := tIx_lt (by omega) hx
      have hj := tIx_lt (by omega) hy
      split
      · split
        · rename_i hr
          exact ⟨okTs_add h.1 (okT_run (h.1 t hj) (mQ_fs q h hj).2 (h.2.2.1 p hi) hr), h.2⟩
        · exact h
      · exact h
theorem okB_inverse (q : mQ Λ S m B) (h : okB B) : okB (a_inverse B a).1 := by
  have hpl := q.2.2.2.2.1.1
  unfold a_inverse
  cases hx : tIx (aP B).length a with
  | none => exact h
  | some p =>
    dsimp only
    have hi := tIx_lt (by omega) hx
    split
    · refine ⟨h.1, h.2.1, okPs_add h.2.2.1 ?_, h.2.2.2⟩
      rw [invP_st]
      exact okVs_st (okVs_inv (h.2.2.1 p hi))
    · exact h
theorem okB_ch (h : okB B) : ∀ p r, p < (aP B).length → r < (aP B).length → cruA ((aP B).getD p []) ((aP B).getD r []) = 0 → jn2 ((aP B).getD p []) ((aP B).getD r []) ((aP B).getD r []).length = if (cnM ((aP B).getD p []) ((aP B).getD r [])).length ≤ 24 then some (stV (cnM ((aP B).getD p []) ((aP B).getD r []))) else none := fun p r hp hr hc => jn2_M (h.2.2.1 p hp) (h.2.2.1 r hr) hc
theorem okB_chain (q : mQ Λ S m B) (h : okB B) : okB (a_chain B a b).1 := by
  have hpl := q.2.2.2.2.1.1
  unfold a_chain
  cases hx : tIx (aP B).length a with
  | none => exact h
  | some p =>
    dsimp only
    cases hy : tIx (aP B).length b with
    | none => exact h
    | some r =>
      dsimp only
      have hi := tIx_lt (by omega) hx
      have hj := tIx_lt (by omega) hy
      split
      · split
        · rename_i hc
          rw [okB_ch h p r hi hj hc]
          split
          · exact h
          · rename_i rs he
            split at he
            · have e := Option.some.inj he
              refine ⟨h.1, h.2.1, okPs_add h.2.2.1 ?_, h.2.2.2⟩
              rw [← e]
              exact okVs_st (cnM_ok (h.2.2.1 p hi) (h.2.2.1 r hj) (rulC_of (h.2.2.1 p hi) hc))
            · cases he
        · exact h
      · exact h
theorem okB_power (h : okB B) : okB (a_power B a).1 := by
  unfold a_power
  split
  · exact h
  · split <;> exact h
theorem okB_install (q : mQ Λ S m B) (h : okB B) : okB (a_install B a).1 := by
  have hl := q.2.2.2.1.1
  unfold a_install
  cases hx : tIx (aT B).length a with
  | none => exact h
  | some i => exact ⟨h.1, h.2.1, h.2.2.1, okD2_A (h.1 i (tIx_lt (by omega) hx)) h.2.2.2⟩
theorem okB_opn (q : mQ Λ S m B) (h : okB B) : okB (a_opn B).1 := by
  have hd := (mDi_l q.2.2.2.2.2.2).1
  unfold a_opn
  split
  · exact ⟨okTs_add h.1 (rdN_T h.2.2.2 hd _ (Nat.le_refl _)), h.2.1, h.2.2.1, h.2.2.2⟩
  · exact h
end
