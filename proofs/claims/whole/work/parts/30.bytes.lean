/-! 30 Bytes: what each of its methods does, in words of lists -/
def yW (Λ : yL) : Prop := ∀ r r', ((Λ.1 r).1 = 2 ∨ (Λ.1 r).1 = 3) → Λ.1 r' = Λ.1 r → r' = r
theorem yW_n {Λ : yL} (h : yW Λ) {r ci j o t n : Nat} (hr : yn Λ r ci j o t n) : ∀ r', Λ.1 r' = Λ.1 r → r' = r := fun r' q => h r r' (Or.inl (by rw [hr.1])) q
theorem yW_r {Λ : yL} (h : yW Λ) {r ci j o t n : Nat} (hr : yr Λ r ci j o t n) : ∀ r', Λ.1 r' = Λ.1 r → r' = r := fun r' q => h r r' (Or.inr (by rw [hr.1])) q
/-- a is a Bytes with room cap -/
def yB (Λ : yL) (a cap : Nat) : Prop := yo Λ a 1 ∧ yn Λ (Λ.2.1 1 0 a) 1 0 a 0 cap ∧ cap ≤ 80
/-- it holds the bytes bs -/
def yBv (S : yS) (a cap : Nat) (bs : List Nat) : Prop := bs.length ≤ cap ∧ yI S 1 1 a = nI bs.length ∧ ∀ k, k < bs.length → yA S 1 0 a k = nI (bs.getD k 0) ∧ bs.getD k 0 < 256
/-- another content for a -/
def yBw (S : yS) (a : Nat) (g : Nat → Int32) (v : Int32) : yS := ywI (ywA S 1 0 a g) 1 1 a v
theorem yBw_I {S : yS} {a : Nat} {g : Nat → Int32} {v : Int32} (c j b : Nat) : yI (yBw S a g v) c j b = if c = 1 ∧ j = 1 ∧ b = a then v else yI S c j b := rfl
theorem yBw_A {S : yS} {a : Nat} {g : Nat → Int32} {v : Int32} (c j b : Nat) : yA (yBw S a g v) c j b = if c = 1 ∧ j = 0 ∧ b = a then g else yA S c j b := rfl
theorem yBw_R {S : yS} {a : Nat} {g : Nat → Int32} {v : Int32} (c j b : Nat) : yR (yBw S a g v) c j b = yR S c j b := rfl
theorem yBv_w {S : yS} {a b cap : Nat} {g : Nat → Int32} {v : Int32} {bs : List Nat} (h : b ≠ a) (hv : yBv S b cap bs) : yBv (yBw S a g v) b cap bs := by
  refine ⟨hv.1, ?_, fun k hk => ?_⟩
  · rw [yBw_I, if_neg (fun q => h q.2.2)]; exact hv.2.1
  · rw [yBw_A, if_neg (fun q => h q.2.2)]; exact hv.2.2 k hk
theorem dropG {bs : List Nat} {k : Nat} (h : k < bs.length) : bs.drop k = bs.getD k 0 :: bs.drop (k + 1) := by
  rw [List.drop_eq_getElem_cons h, List.getD_eq_getElem?_getD, List.getElem?_eq_getElem h]; rfl
theorem ltI {a b : Nat} (ha : a < 2 ^ 31) (hb : b < 2 ^ 31) : nI a < nI b ↔ a < b := nI_ltI ha hb
theorem leI {a b : Nat} (ha : a < 2 ^ 31) (hb : b < 2 ^ 31) : nI a ≤ nI b ↔ a ≤ b := nI_leI ha hb
theorem nI_sub {a b : Nat} : nI a - nI b = Int32.ofInt ((a : Int) - b) := by
  show Int32.ofNat a - Int32.ofNat b = _
  rw [Int32.ofInt_sub]
  rfl
section
variable {Λ : yL} {f0 : xH} {S : yS} {a o cap capo d : Nat} {bs cs : List Nat} {x : Int32} {post : Option Value → xH → Prop}
theorem By_size_sp (hB : yB Λ a cap) (hv : yBv S a cap bs) (h : post (some (.int (nI bs.length))) (yH Λ f0 S)) : xSp xT0 (d + 1) j_By_size [.ref a] (yH Λ f0 S) post := by
  refine xSp_of (M := m_By_size) rfl (b_By_size_0 (ygi hB.1 rfl ?_))
  rw [hv.2.1]
  exact h
theorem yin_cases (hc : bs.length ≤ 80) : x < 0 ∨ nI bs.length ≤ x ∨ ∃ k, k < bs.length ∧ x = nI k := pk_ix x (by omega)
theorem By_at_sp (hB : yB Λ a cap) (hv : yBv S a cap bs) (h1 : ∀ k, k < bs.length → x = nI k → post (some (.int (nI (bs.getD k 0)))) (yH Λ f0 S)) (h2 : x < 0 ∨ nI bs.length ≤ x → post (some (.int (-1))) (yH Λ f0 S)) : xSp xT0 (d + 1) j_By_at [.ref a, .int x] (yH Λ f0 S) post := by
  have hc := hB.2.2
  have hl := hv.1
  refine xSp_of (M := m_By_at) rfl (b_By_at_0 ⟨fun c => h2 (Or.inl c), fun c => ygi hB.1 rfl ?_⟩)
  rw [hv.2.1]
  refine ⟨fun c2 => h2 (Or.inr c2), fun c2 => ?_⟩
  obtain ⟨k, hk, rfl⟩ : ∃ k, k < bs.length ∧ x = nI k := by
    rcases yin_cases (x := x) (bs := bs) (by omega) with q | q | q
    · exact absurd q c
    · exact absurd q c2
    · exact q
  refine ygr hB.1 rfl (yal hB.2.1 (vp_in_nI (by omega) (by omega)) ?_)
  rw [nI_clamp (by omega), (hv.2.2 k hk).1]
  exact h1 k hk rfl
theorem By_empty_sp (hB : yB Λ a cap) (h : post none (yH Λ f0 (ywI S 1 1 a 0))) : xSp xT0 (d + 1) j_By_empty [.ref a] (yH Λ f0 S) post :=
  xSp_of (M := m_By_empty) rfl (b_By_empty_0 (ypf hB.1 rfl h))
theorem By_cutTo_sp (hB : yB Λ a cap) (hv : yBv S a cap bs) (h1 : ∀ k, k < bs.length → x = nI k → post none (yH Λ f0 (ywI S 1 1 a (nI k)))) (h2 : x < 0 ∨ nI bs.length ≤ x → post none (yH Λ f0 S)) : xSp xT0 (d + 1) j_By_cutTo [.ref a, .int x] (yH Λ f0 S) post := by
  have hc := hB.2.2
  have hl := hv.1
  refine xSp_of (M := m_By_cutTo) rfl (b_By_cutTo_0 ⟨fun c => h2 (Or.inl c), fun c => ygi hB.1 rfl ?_⟩)
  rw [hv.2.1]
  refine ⟨fun c2 => h2 (Or.inr c2), fun c2 => ?_⟩
  obtain ⟨k, hk, rfl⟩ : ∃ k, k < bs.length ∧ x = nI k := by
    rcases yin_cases (x := x) (bs := bs) (by omega) with q | q | q
    · exact absurd q c
    · exact absurd q c2
    · exact q
  exact ypf hB.1 rfl (h1 k hk rfl)
/-- one byte more, if there is room -/
theorem By_add_sp (hW : yW Λ) (hB : yB Λ a cap) (hv : yBv S a cap bs) (h1 : bs.length < cap → post none (yH Λ f0 (yBw S a (upd (yA S 1 0 a) bs.length (x &&& 255)) (nI (bs.length + 1))))) (h2 : bs.length = cap → post none (yH Λ f0 S)) : xSp xT0 (d + 1) j_By_add [.ref a, .int x] (yH Λ f0 S) post := by
  have hc := hB.2.2
  have hl := hv.1
  refine xSp_of (M := m_By_add) rfl (b_By_add_0 (ygi hB.1 rfl (ygr hB.1 rfl (yle hB.2.1 ?_))))
  rw [hv.2.1]
  refine ⟨fun c => h2 ?_, fun c => ?_⟩
  · have := (leI (a := cap) (b := bs.length) (by omega) (by omega)).mp c
    omega
  · have hlt : bs.length < cap := by
      have : ¬ cap ≤ bs.length := fun q => c ((leI (by omega) (by omega)).mpr q)
      omega
    refine ygr hB.1 rfl (ygi hB.1 rfl ?_)
    rw [hv.2.1]
    refine yas hB.2.1 (yW_n hW hB.2.1) (vp_in_nI hlt (by omega)) ?_
    rw [nI_clamp (by omega)]
    refine ygi hB.1 rfl (ypf hB.1 rfl ?_)
    have e : yI (ywA S 1 0 a (upd (yA S 1 0 a) bs.length (x &&& 255))) 1 1 a + 1 = nI (bs.length + 1) := by
      show yI S 1 1 a + 1 = _
      rw [hv.2.1]
      exact nI_1 _
    rw [e]
    exact h1 hlt
theorem yBv_add (hc : cap ≤ 80) (hv : yBv S a cap bs) (hlt : bs.length < cap) {b : Nat} (hb : b < 256) : yBv (yBw S a (upd (yA S 1 0 a) bs.length (nI b)) (nI (bs.length + 1))) a cap (bs ++ [b]) := by
  refine ⟨by rw [List.length_append]; exact hlt, ?_, fun k hk => ?_⟩
  · rw [yBw_I, if_pos ⟨rfl, rfl, rfl⟩, List.length_append]; rfl
  · rw [yBw_A, if_pos ⟨rfl, rfl, rfl⟩]
    rw [List.length_append] at hk
    by_cases hkn : k = bs.length
    · subst hkn
      rw [pk_us, List.getD_eq_getElem?_getD, List.getElem?_append_right (Nat.le_refl _), Nat.sub_self]
      exact ⟨rfl, hb⟩
    · have hk2 : k < bs.length := by simp at hk; omega
      rw [pk_un hkn, List.getD_eq_getElem?_getD, List.getElem?_append_left hk2, ← List.getD_eq_getElem?_getD]
      exact hv.2.2 k hk2
/-- the value of order: the first difference, or the lengths' -/
def ordV : List Nat → List Nat → Int
  | [], ys => -(ys.length : Int)
  | x :: xs, [] => ((x :: xs).length : Int)
  | x :: xs, y :: ys => if x = y then ordV xs ys else (x : Int) - y
theorem ordV_cons (x y : Nat) (xs ys : List Nat) : ordV (x :: xs) (y :: ys) = if x = y then ordV xs ys else (x : Int) - y := rfl
theorem ordV_0 : ∀ {xs ys : List Nat}, ordV xs ys = 0 ↔ xs = ys
  | [], [] => by simp [ordV]
  | [], y :: ys => by simp [ordV]; omega
  | x :: xs, [] => by simp [ordV]; omega
  | x :: xs, y :: ys => by
    unfold ordV
    by_cases h : x = y
    · subst h
      simp [ordV_0]
    · simp [h]
      omega
theorem ordV_b : ∀ {xs ys : List Nat} {n : Nat}, xs.length ≤ n → ys.length ≤ n → (∀ k, k < xs.length → xs.getD k 0 < 256) → (∀ k, k < ys.length → ys.getD k 0 < 256) → 256 ≤ n → -(n : Int) ≤ ordV xs ys ∧ ordV xs ys ≤ n
  | [], ys, n, _, h2, _, _, _ => by simp only [ordV]; omega
  | x :: xs, [], n, h1, _, _, _, _ => by simp only [ordV]; simp at h1 ⊢; omega
  | x :: xs, y :: ys, n, h1, h2, h3, h4, h5 => by
    unfold ordV
    by_cases h : x = y
    · rw [if_pos h]
      exact ordV_b (by simp at h1; omega) (by simp at h2; omega) (fun k hk => by have := h3 (k + 1) (by simp; exact hk); simpa using this) (fun k hk => by have := h4 (k + 1) (by simp; exact hk); simpa using this) h5
    · rw [if_neg h]
      have a1 := h3 0 (by simp)
      have a2 := h4 0 (by simp)
      simp at a1 a2
      omega
theorem By_order_loop (hB : yB Λ a cap) (hO : yB Λ o capo) (hv : yBv S a cap bs) (hw : yBv S o capo cs) {E : Option Value → xH → Prop} (h : E (some (.int (Int32.ofInt (ordV bs cs)))) (yH Λ f0 S)) : ∀ n k, (min bs.length cs.length) - k = n → k ≤ min bs.length cs.length → ordV bs cs = ordV (bs.drop k) (cs.drop k) → xWp (xT0, xSp xT0 d, none, m_By_order, E) 14 [some (.ref a), some (.ref o), some (.int (nI (min bs.length cs.length))), some (.int (nI k))] [] (yH Λ f0 S) 0 0 := by
  have hc := hB.2.2
  have hc2 := hO.2.2
  have hl := hv.1
  have hl2 := hw.1
  intro n
  induction n with
  | zero =>
    intro k hn hk he
    have hkm : k = min bs.length cs.length := by omega
    refine b_By_order_14 ⟨fun c => ygi hB.1 rfl (ygi hO.1 rfl ?_), fun c => absurd ((leI (by omega) (by omega)).mpr (by omega)) c⟩
    rw [hv.2.1, hw.2.1, nI_sub]
    have e : (bs.length : Int) - cs.length = ordV bs cs := by
      rw [he, hkm]
      rcases Nat.le_total bs.length cs.length with q | q
      · rw [Nat.min_eq_left q, List.drop_length]
        simp only [ordV, List.length_drop]
        omega
      · rw [Nat.min_eq_right q, List.drop_length]
        cases hd : bs.drop cs.length with
        | nil =>
          have := congrArg List.length hd
          simp at this
          simp only [ordV, List.length_nil]
          omega
        | cons y ys =>
          have := congrArg List.length hd
          simp only [List.length_drop] at this
          simp only [ordV]
          omega
    rw [e]
    exact h
  | succ n ih =>
    intro k hn hk he
    have hk1 : k < bs.length := by omega
    have hk2 : k < cs.length := by omega
    refine b_By_order_14 ⟨fun c => absurd ((leI (by omega) (by omega)).mp c) (by omega), fun c => ?_⟩
    refine ygr hB.1 rfl (yal hB.2.1 (vp_in_nI (by omega) (by omega)) (ygr hO.1 rfl (yal hO.2.1 (vp_in_nI (by omega) (by omega)) ?_)))
    rw [nI_clamp (by omega), (hv.2.2 k hk1).1, (hw.2.2 k hk2).1]
    have b1 := (hv.2.2 k hk1).2
    have b2 := (hw.2.2 k hk2).2
    rw [dropG hk1, dropG hk2, ordV_cons] at he
    refine ⟨fun c => ?_, fun c => ?_⟩
    · rw [if_pos ((nI_eq (by omega) (by omega)).mp c)] at he
      have := ih (k + 1) (by omega) (by omega) he
      rw [← nI_1] at this
      exact this
    · rw [if_neg (fun q => c (by rw [q]))] at he
      refine ygr hB.1 rfl (yal hB.2.1 (vp_in_nI (by omega) (by omega)) (ygr hO.1 rfl (yal hO.2.1 (vp_in_nI (by omega) (by omega)) ?_)))
      rw [nI_clamp (by omega), (hv.2.2 k hk1).1, (hw.2.2 k hk2).1, nI_sub, ← he]
      exact h
theorem By_order_sp (hB : yB Λ a cap) (hO : yB Λ o capo) (hv : yBv S a cap bs) (hw : yBv S o capo cs) (h : post (some (.int (Int32.ofInt (ordV bs cs)))) (yH Λ f0 S)) : xSp xT0 (d + 1) j_By_order [.ref a, .ref o] (yH Λ f0 S) post := by
  have hc := hB.2.2
  have hc2 := hO.2.2
  have hl := hv.1
  have hl2 := hw.1
  refine xSp_of (M := m_By_order) rfl (b_By_order_0 (ygi hB.1 rfl (ygi hO.1 rfl ?_)))
  rw [hv.2.1, hw.2.1]
  have e : (if nI cs.length < nI bs.length then nI cs.length else nI bs.length) = nI (min bs.length cs.length) := by
    by_cases q : cs.length < bs.length
    · rw [if_pos ((ltI (by omega) (by omega)).mpr q), Nat.min_eq_right (by omega)]
    · rw [if_neg (fun z => q ((ltI (by omega) (by omega)).mp z)), Nat.min_eq_left (by omega)]
  rw [e, ← nI_0]
  exact By_order_loop hB hO hv hw h _ 0 rfl (Nat.zero_le _) rfl
theorem By_equalTo_sp (hB : yB Λ a cap) (hO : yB Λ o capo) (hv : yBv S a cap bs) (hw : yBv S o capo cs) (h : post (some (.int (if bs = cs then 1 else 0))) (yH Λ f0 S)) : xSp xT0 (d + 2) j_By_equalTo [.ref a, .ref o] (yH Λ f0 S) post := by
  have hc := hB.2.2
  have hc2 := hO.2.2
  have hl := hv.1
  have hl2 := hw.1
  refine xSp_of (M := m_By_equalTo) rfl (b_By_equalTo_0 (ygi hB.1 rfl (ygi hO.1 rfl ?_)))
  rw [hv.2.1, hw.2.1]
  refine ⟨fun c => ?_, fun c => ⟨yex hB.1, By_order_sp hB hO hv hw ?_⟩⟩
  · rw [if_neg (fun q => c (by rw [q]))] at h
    exact h
  · have hb := ordV_b (n := 256) (by omega) (by omega) (fun k hk => (hv.2.2 k hk).2) (fun k hk => (hw.2.2 k hk).2) (Nat.le_refl _)
    have hz : Int32.ofInt (ordV bs cs) = 0 ↔ bs = cs := by
      rw [← ordV_0 (xs := bs) (ys := cs), ← Int32.toInt_inj, Int32.toInt_ofInt_of_le (by omega) (by omega)]
      rfl
    refine ⟨fun c => ?_, fun c => ?_⟩
    · rw [if_neg (fun q => c (hz.mpr q))] at h
      exact h
    · rw [if_pos (hz.mp (Classical.not_not.mp c))] at h
      exact h
end
