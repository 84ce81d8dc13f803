/-! 32 Tree: what its methods tell -/
/-- the owner of an object -/
def own (Λ : yL) (a : Nat) : Nat := (Λ.1 a).2.2.2
abbrev Fl : Type := List Nat × List Nat
abbrev fl0 : Fl := ([], [])
def yT (Λ : yL) (t : Nat) : Prop := yo Λ t 2 ∧ yr Λ (Λ.2.1 2 0 t) 2 0 t 3 10 ∧ yr Λ (Λ.2.1 2 1 t) 2 1 t 3 10 ∧ yB Λ (Λ.2.1 2 2 t) 0 ∧ own Λ (Λ.2.1 2 2 t) = t
/-- the rows of a Tree: P its PATHS, C its CONTENTS -/
def yTp (Λ : yL) (S : yS) (t : Nat) (P C : Nat → Nat) : Prop := (∀ i, i < 10 → (yR S 2 0 t i = some (P i) ∧ yR S 2 1 t i = some (C i)) ∧ (yB Λ (P i) 17 ∧ yB Λ (C i) 48) ∧ own Λ (P i) = t ∧ own Λ (C i) = t) ∧ (∀ i j, i < 10 → j < 10 → P i = P j → i = j) ∧ (∀ i j, i < 10 → j < 10 → C i = C j → i = j) ∧ (∀ i j, i < 10 → j < 10 → P i ≠ C j) ∧ ∀ i, i < 10 → P i ≠ Λ.2.1 2 2 t ∧ C i ≠ Λ.2.1 2 2 t
def yTv (Λ : yL) (S : yS) (t : Nat) (fs : List Fl) : Prop := yT Λ t ∧ ∃ P C, yTp Λ S t P C ∧ fs.length ≤ 10 ∧ yI S 2 3 t = nI fs.length ∧ yBv S (Λ.2.1 2 2 t) 0 [] ∧ ∀ i, i < fs.length → yBv S (P i) 17 (fs.getD i fl0).1 ∧ yBv S (C i) 48 (fs.getD i fl0).2
section
variable {Λ : yL} {f0 : xH} {S : yS} {t u o capo d : Nat} {fs gs : List Fl} {bs : List Nat} {x : Int32} {post : Option Value → xH → Prop}
theorem Tr_size_sp (hT : yTv Λ S t fs) (h : post (some (.int (nI fs.length))) (yH Λ f0 S)) : xSp xT0 (d + 1) j_Tr_size [.ref t] (yH Λ f0 S) post := by
  obtain ⟨hs, P, C, hp, hl, hn, -, -⟩ := hT
  refine xSp_of (M := m_Tr_size) rfl (b_Tr_size_0 (ygi hs.1 rfl ?_))
  rw [hn]
  exact h
theorem Tr_has_sp (hT : yTv Λ S t fs) (h1 : ∀ k, k < fs.length → x = nI k → post (some (.int 1)) (yH Λ f0 S)) (h2 : x < 0 ∨ nI fs.length ≤ x → post (some (.int 0)) (yH Λ f0 S)) : xSp xT0 (d + 1) j_Tr_has [.ref t, .int x] (yH Λ f0 S) post := by
  obtain ⟨hs, P, C, hp, hl, hn, -, -⟩ := hT
  refine xSp_of (M := m_Tr_has) rfl (b_Tr_has_0 ⟨fun c => h2 (Or.inl c), fun c => ygi hs.1 rfl ?_⟩)
  rw [hn]
  refine ⟨fun c2 => h2 (Or.inr c2), fun c2 => ?_⟩
  rcases pk_ix x (n := fs.length) (by omega) with q | q | ⟨k, hk, e⟩
  · exact absurd q c
  · exact absurd q c2
  · exact h1 k hk e
theorem Tr_pathAt_sp (hT : yTv Λ S t fs) (h1 : ∀ k q, k < fs.length → x = nI k → yB Λ q 17 → yBv S q 17 (fs.getD k fl0).1 → own Λ q = t → post (some (.ref q)) (yH Λ f0 S)) (h2 : x < 0 ∨ nI fs.length ≤ x → ∀ q, yB Λ q 0 → yBv S q 0 [] → own Λ q = t → post (some (.ref q)) (yH Λ f0 S)) : xSp xT0 (d + 2) j_Tr_pathAt [.ref t, .int x] (yH Λ f0 S) post := by
  obtain ⟨hs, P, C, hp, hl, hn, h0, hb⟩ := id hT
  refine xSp_of (M := m_Tr_pathAt) rfl (b_Tr_pathAt_0 ⟨yex hs.1, Tr_has_sp hT (fun k hk e => ?_) (fun q => ?_)⟩)
  · refine ⟨fun c => absurd c (by decide), fun c => ygr hs.1 rfl (yrl (P k) hs.2.1 (by rw [e]; exact vp_in_nI (by omega) (by omega)) ?_ ?_)⟩
    · rw [e, nI_clamp (by omega)]; exact (hp.1 k (by omega)).1.1
    · exact h1 k _ hk e (hp.1 k (by omega)).2.1.1 (hb k hk).1 (hp.1 k (by omega)).2.2.1
  · exact ⟨fun c => ygr hs.1 rfl (h2 q _ hs.2.2.2.1 h0 hs.2.2.2.2), fun c => absurd rfl c⟩
theorem Tr_contentAt_sp (hT : yTv Λ S t fs) (h1 : ∀ k q, k < fs.length → x = nI k → yB Λ q 48 → yBv S q 48 (fs.getD k fl0).2 → own Λ q = t → post (some (.ref q)) (yH Λ f0 S)) (h2 : x < 0 ∨ nI fs.length ≤ x → ∀ q, yB Λ q 0 → yBv S q 0 [] → own Λ q = t → post (some (.ref q)) (yH Λ f0 S)) : xSp xT0 (d + 2) j_Tr_contentAt [.ref t, .int x] (yH Λ f0 S) post := by
  obtain ⟨hs, P, C, hp, hl, hn, h0, hb⟩ := id hT
  refine xSp_of (M := m_Tr_contentAt) rfl (b_Tr_contentAt_0 ⟨yex hs.1, Tr_has_sp hT (fun k hk e => ?_) (fun q => ?_)⟩)
  · refine ⟨fun c => absurd c (by decide), fun c => ygr hs.1 rfl (yrl (C k) hs.2.2.1 (by rw [e]; exact vp_in_nI (by omega) (by omega)) ?_ ?_)⟩
    · rw [e, nI_clamp (by omega)]; exact (hp.1 k (by omega)).1.2
    · exact h1 k _ hk e (hp.1 k (by omega)).2.1.2 (hb k hk).2 (hp.1 k (by omega)).2.2.2
  · exact ⟨fun c => ygr hs.1 rfl (h2 q _ hs.2.2.2.1 h0 hs.2.2.2.2), fun c => absurd rfl c⟩
/-- the first FILE with that PATH, or -1 -/
theorem Tr_find_loop (hT : yTv Λ S t fs) (hO : yB Λ o capo) (hw : yBv S o capo bs) {E : Option Value → xH → Prop} (h1 : ∀ k, k < fs.length → (fs.getD k fl0).1 = bs → (∀ j, j < k → (fs.getD j fl0).1 ≠ bs) → E (some (.int (nI k))) (yH Λ f0 S)) (h2 : (∀ j, j < fs.length → (fs.getD j fl0).1 ≠ bs) → E (some (.int (-1))) (yH Λ f0 S)) : ∀ n k, fs.length - k = n → k ≤ fs.length → (∀ j, j < k → (fs.getD j fl0).1 ≠ bs) → xWp (xT0, xSp xT0 (d + 2), none, m_Tr_find, E) 2 [some (.ref t), some (.ref o), some (.int (nI k))] [] (yH Λ f0 S) 0 0 := by
  obtain ⟨hs, P, C, hp, hl, hn, h0, hb⟩ := id hT
  intro n
  induction n with
  | zero =>
    intro k hk1 hk2 hg
    refine b_Tr_find_2 (ygi hs.1 rfl ?_)
    rw [hn]
    exact ⟨fun c => h2 (fun j hj => hg j (by omega)), fun c => absurd ((leI (by omega) (by omega)).mpr (by omega)) c⟩
  | succ n ih =>
    intro k hk1 hk2 hg
    have hk : k < fs.length := by omega
    refine b_Tr_find_2 (ygi hs.1 rfl ?_)
    rw [hn]
    refine ⟨fun c => absurd ((leI (by omega) (by omega)).mp c) (by omega), fun c => ygr hs.1 rfl (yrl (P k) hs.2.1 (vp_in_nI (by omega) (by omega)) (by rw [nI_clamp (by omega)]; exact (hp.1 k (by omega)).1.1) ⟨yex (hp.1 k (by omega)).2.1.1.1, By_equalTo_sp (hp.1 k (by omega)).2.1.1 hO (hb k hk).1 hw ?_⟩)⟩
    by_cases e : (fs.getD k fl0).1 = bs
    · rw [if_pos e]
      exact ⟨fun c => absurd c (by decide), fun c => h1 k hk e hg⟩
    · rw [if_neg e]
      refine ⟨fun c => ?_, fun c => absurd rfl c⟩
      have := ih (k + 1) (by omega) (by omega) (fun j hj => by
        by_cases q : j = k
        · rw [q]; exact e
        · exact hg j (by omega))
      rw [← nI_1] at this
      exact this
theorem Tr_find_sp (hT : yTv Λ S t fs) (hO : yB Λ o capo) (hw : yBv S o capo bs) (h1 : ∀ k, k < fs.length → (fs.getD k fl0).1 = bs → (∀ j, j < k → (fs.getD j fl0).1 ≠ bs) → post (some (.int (nI k))) (yH Λ f0 S)) (h2 : (∀ j, j < fs.length → (fs.getD j fl0).1 ≠ bs) → post (some (.int (-1))) (yH Λ f0 S)) : xSp xT0 (d + 3) j_Tr_find [.ref t, .ref o] (yH Λ f0 S) post := by
  refine xSp_of (M := m_Tr_find) rfl (b_Tr_find_0 ?_)
  exact Tr_find_loop hT hO hw h1 h2 _ 0 rfl (Nat.zero_le _) (fun j hj => absurd hj (Nat.not_lt_zero _))
/-- does a FILE stand in the way of that PATH -/
def barT (fs : List Fl) (bs : List Nat) : Bool := fs.any (fun q => abvB q.1 bs || abvB bs q.1)
theorem flG {fs : List Fl} {k : Nat} (h : k < fs.length) : fs.drop k = fs.getD k fl0 :: fs.drop (k + 1) := by
  rw [List.drop_eq_getElem_cons h, List.getD_eq_getElem?_getD, List.getElem?_eq_getElem h]; rfl
theorem Tr_isBarred_loop (hT : yTv Λ S t fs) (hO : yB Λ o capo) (hw : yBv S o capo bs) {E : Option Value → xH → Prop} (h : E (some (.int (if barT fs bs = true then 1 else 0))) (yH Λ f0 S)) : ∀ n k, fs.length - k = n → k ≤ fs.length → barT fs bs = barT (fs.drop k) bs → xWp (xT0, xSp xT0 (d + 1), none, m_Tr_isBarred, E) 2 [some (.ref t), some (.ref o), some (.int (nI k))] [] (yH Λ f0 S) 0 0 := by
  obtain ⟨hs, P, C, hp, hl, hn, h0, hb⟩ := id hT
  intro n
  induction n with
  | zero =>
    intro k hk1 hk2 he
    refine b_Tr_isBarred_2 (ygi hs.1 rfl ?_)
    rw [hn]
    refine ⟨fun c => ?_, fun c => absurd ((leI (by omega) (by omega)).mpr (by omega)) c⟩
    rw [List.drop_of_length_le (by omega)] at he
    rw [he] at h
    exact h
  | succ n ih =>
    intro k hk1 hk2 he
    have hk : k < fs.length := by omega
    rw [flG hk] at he
    have he : barT fs bs = ((abvB (fs.getD k fl0).1 bs || abvB bs (fs.getD k fl0).1) || barT (fs.drop (k + 1)) bs) := he
    refine b_Tr_isBarred_2 (ygi hs.1 rfl ?_)
    rw [hn]
    refine ⟨fun c => absurd ((leI (by omega) (by omega)).mp c) (by omega), fun c => ygr hs.1 rfl (yrl (P k) hs.2.1 (vp_in_nI (by omega) (by omega)) (by rw [nI_clamp (by omega)]; exact (hp.1 k (by omega)).1.1) ⟨yex (hp.1 k (by omega)).2.1.1.1, By_isAbove_sp (hp.1 k (by omega)).2.1.1 hO (hb k hk).1 hw ?_⟩)⟩
    by_cases e : abvB (fs.getD k fl0).1 bs = true
    · rw [if_pos e]
      rw [e] at he
      rw [he] at h
      exact ⟨fun c => h, fun c => absurd (by decide) c⟩
    · rw [if_neg e]
      have e := Bool.eq_false_iff.mpr e
      rw [e] at he
      refine ⟨fun c => absurd rfl c, fun c => ygr hs.1 rfl (yrl (P k) hs.2.1 (vp_in_nI (by omega) (by omega)) (by rw [nI_clamp (by omega)]; exact (hp.1 k (by omega)).1.1) ⟨yex hO.1, By_isAbove_sp hO (hp.1 k (by omega)).2.1.1 hw (hb k hk).1 ?_⟩)⟩
      by_cases e2 : abvB bs (fs.getD k fl0).1 = true
      · rw [if_pos e2]
        rw [e2] at he
        rw [he] at h
        exact ⟨fun c => absurd c (by decide), fun c => h⟩
      · rw [if_neg e2]
        have e2 := Bool.eq_false_iff.mpr e2
        rw [e2] at he
        refine ⟨fun c => ?_, fun c => absurd rfl c⟩
        have := ih (k + 1) (by omega) (by omega) (by rw [he]; rfl)
        rw [← nI_1] at this
        exact this
theorem Tr_isBarred_sp (hT : yTv Λ S t fs) (hO : yB Λ o capo) (hw : yBv S o capo bs) (h : post (some (.int (if barT fs bs = true then 1 else 0))) (yH Λ f0 S)) : xSp xT0 (d + 2) j_Tr_isBarred [.ref t, .ref o] (yH Λ f0 S) post := by
  refine xSp_of (M := m_Tr_isBarred) rfl (b_Tr_isBarred_0 ?_)
  exact Tr_isBarred_loop hT hO hw h _ 0 rfl (Nat.zero_le _) rfl
theorem fl_ext {fs gs : List Fl} (hl : fs.length = gs.length) (h : ∀ j, j < fs.length → fs.getD j fl0 = gs.getD j fl0) : fs = gs := by
  apply List.ext_getElem hl
  intro j h1 h2
  have := h j h1
  rw [List.getD_eq_getElem?_getD, List.getD_eq_getElem?_getD, List.getElem?_eq_getElem h1, List.getElem?_eq_getElem h2] at this
  exact this
theorem Tr_equalTo_loop (hT : yTv Λ S t fs) (hU : yTv Λ S u gs) (hlen : fs.length = gs.length) {E : Option Value → xH → Prop} (h : E (some (.int (if fs = gs then 1 else 0))) (yH Λ f0 S)) : ∀ n k, fs.length - k = n → k ≤ fs.length → (∀ j, j < k → fs.getD j fl0 = gs.getD j fl0) → xWp (xT0, xSp xT0 (d + 2), none, m_Tr_equalTo, E) 15 [some (.ref t), some (.ref u), some (.int (nI k))] [] (yH Λ f0 S) 0 0 := by
  obtain ⟨hs, P, C, hp, hl, hn, h0, hb⟩ := id hT
  obtain ⟨hs', P', C', hp', hl', hn', h0', hb'⟩ := id hU
  intro n
  induction n with
  | zero =>
    intro k hk1 hk2 hg
    refine b_Tr_equalTo_15 (ygi hs.1 rfl ?_)
    rw [hn]
    refine ⟨fun c => ?_, fun c => absurd ((leI (by omega) (by omega)).mpr (by omega)) c⟩
    rw [if_pos (fl_ext hlen (fun j hj => hg j (by omega)))] at h
    exact h
  | succ n ih =>
    intro k hk1 hk2 hg
    have hk : k < fs.length := by omega
    refine b_Tr_equalTo_15 (ygi hs.1 rfl ?_)
    rw [hn]
    refine ⟨fun c => absurd ((leI (by omega) (by omega)).mp c) (by omega), fun c => ygr hs.1 rfl (yrl (P k) hs.2.1 (vp_in_nI (by omega) (by omega)) (by rw [nI_clamp (by omega)]; exact (hp.1 k (by omega)).1.1) (ygr hs'.1 rfl (yrl (P' k) hs'.2.1 (vp_in_nI (by omega) (by omega)) (by rw [nI_clamp (by omega)]; exact (hp'.1 k (by omega)).1.1) ⟨yex (hp.1 k (by omega)).2.1.1.1, By_equalTo_sp (hp.1 k (by omega)).2.1.1 (hp'.1 k (by omega)).2.1.1 (hb k hk).1 (hb' k (by omega)).1 ?_⟩)))⟩
    by_cases e : (fs.getD k fl0).1 = (gs.getD k fl0).1
    · rw [if_pos e]
      refine ⟨fun c => absurd c (by decide), fun c => ygr hs.1 rfl (yrl (C k) hs.2.2.1 (vp_in_nI (by omega) (by omega)) (by rw [nI_clamp (by omega)]; exact (hp.1 k (by omega)).1.2) (ygr hs'.1 rfl (yrl (C' k) hs'.2.2.1 (vp_in_nI (by omega) (by omega)) (by rw [nI_clamp (by omega)]; exact (hp'.1 k (by omega)).1.2) ⟨yex (hp.1 k (by omega)).2.1.2.1, By_equalTo_sp (hp.1 k (by omega)).2.1.2 (hp'.1 k (by omega)).2.1.2 (hb k hk).2 (hb' k (by omega)).2 ?_⟩)))⟩
      by_cases e2 : (fs.getD k fl0).2 = (gs.getD k fl0).2
      · rw [if_pos e2]
        refine ⟨fun c => ?_, fun c => absurd (by decide) c⟩
        have := ih (k + 1) (by omega) (by omega) (fun j hj => by
          by_cases q : j = k
          · rw [q]; exact Prod.ext e e2
          · exact hg j (by omega))
        rw [← nI_1] at this
        exact this
      · rw [if_neg e2]
        rw [if_neg (fun q => e2 (by rw [q]))] at h
        exact ⟨fun c => absurd rfl c, fun c => h⟩
    · rw [if_neg e]
      rw [if_neg (fun q => e (by rw [q]))] at h
      exact ⟨fun c => h, fun c => absurd rfl c⟩
theorem Tr_equalTo_sp (hT : yTv Λ S t fs) (hU : yTv Λ S u gs) (h : post (some (.int (if fs = gs then 1 else 0))) (yH Λ f0 S)) : xSp xT0 (d + 3) j_Tr_equalTo [.ref t, .ref u] (yH Λ f0 S) post := by
  obtain ⟨hs, P, C, hp, hl, hn, h0, hb⟩ := id hT
  obtain ⟨hs', P', C', hp', hl', hn', h0', hb'⟩ := id hU
  refine xSp_of (M := m_Tr_equalTo) rfl (b_Tr_equalTo_0 (ygi hs.1 rfl (ygi hs'.1 rfl ?_)))
  rw [hn, hn']
  refine ⟨fun c => ?_, fun c => ?_⟩
  · have hlen := (nI_eq (by omega) (by omega)).mp c
    exact Tr_equalTo_loop hT hU hlen h _ 0 rfl (Nat.zero_le _) (fun j hj => absurd hj (Nat.not_lt_zero _))
  · rw [if_neg (fun q => c (by rw [q]))] at h
    exact h
end
