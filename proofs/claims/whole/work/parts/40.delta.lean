/-! 40 Delta: a row of origins: a place of X, or below 0 the byte that is told -/
def yD (Λ : yL) (a : Nat) : Prop := yo Λ a 3 ∧ yn Λ (Λ.2.1 3 0 a) 3 0 a 0 48
def yDv (S : yS) (a : Nat) (zs : List Int32) : Prop := zs.length ≤ 48 ∧ yI S 3 1 a = nI zs.length ∧ ∀ k, k < zs.length → yA S 3 0 a k = zs.getD k 0
def yDw (S : yS) (a : Nat) (g : Nat → Int32) (v : Int32) : yS := ywI (ywA S 3 0 a g) 3 1 a v
theorem yDw_I {S : yS} {a : Nat} {g : Nat → Int32} {v : Int32} (c j b : Nat) : yI (yDw S a g v) c j b = if c = 3 ∧ j = 1 ∧ b = a then v else yI S c j b := rfl
theorem yDw_A {S : yS} {a : Nat} {g : Nat → Int32} {v : Int32} (c j b : Nat) : yA (yDw S a g v) c j b = if c = 3 ∧ j = 0 ∧ b = a then g else yA S c j b := rfl
theorem yDw_R {S : yS} {a : Nat} {g : Nat → Int32} {v : Int32} (c j b : Nat) : yR (yDw S a g v) c j b = yR S c j b := rfl
theorem yDv_w {S : yS} {a b : Nat} {g : Nat → Int32} {v : Int32} {zs : List Int32} (h : b ≠ a) (hv : yDv S b zs) : yDv (yDw S a g v) b zs := by
  refine ⟨hv.1, ?_, fun k hk => ?_⟩
  · rw [yDw_I, if_neg (fun q => h q.2.2)]; exact hv.2.1
  · rw [yDw_A, if_neg (fun q => h q.2.2)]; exact hv.2.2 k hk
theorem yDw_w (S : yS) (a : Nat) (g g' : Nat → Int32) (v v' : Int32) : yDw (yDw S a g v) a g' v' = yDw S a g' v' := by
  have h : yDw (yDw S a g v) a g' v' = ywA (ywA (ywI (ywI S 3 1 a v) 3 1 a v') 3 0 a g) 3 0 a g' := rfl
  rw [h, ywA_A, ywI_I]
  rfl
theorem ywA_same (S : yS) (c j o : Nat) : ywA S c j o (yA S c j o) = S := by
  obtain ⟨s1, s2, s3⟩ := S
  unfold ywA
  refine congrArg (fun z => (s1, z, s3)) ?_
  funext c' j' b
  by_cases h : c' = c ∧ j' = j ∧ b = o
  · rw [if_pos h, h.1, h.2.1, h.2.2]
  · rw [if_neg h]
theorem yDw_e (S : yS) (a : Nat) (v : Int32) : ywI S 3 1 a v = yDw S a (yA S 3 0 a) v := by
  unfold yDw
  rw [ywA_same]
theorem yBv_D {S : yS} {a b cap : Nat} {g : Nat → Int32} {v : Int32} {bs : List Nat} (hv : yBv S b cap bs) : yBv (yDw S a g v) b cap bs :=
  ⟨hv.1, by rw [yDw_I, if_neg (by omega)]; exact hv.2.1, fun k hk => by rw [yDw_A, if_neg (by omega)]; exact hv.2.2 k hk⟩
theorem yDv_B {S : yS} {a b : Nat} {g : Nat → Int32} {v : Int32} {zs : List Int32} (hv : yDv S b zs) : yDv (yBw S a g v) b zs :=
  ⟨hv.1, by rw [yBw_I, if_neg (by omega)]; exact hv.2.1, fun k hk => by rw [yBw_A, if_neg (by omega)]; exact hv.2.2 k hk⟩
theorem yAg_Dw {Λ : yL} {S : yS} {t a : Nat} {g : Nat → Int32} {v : Int32} (h : own Λ a = t) : yAg Λ S (yDw S a g v) t := fun c j b q1 q2 => by
  have hb : b ≠ a := fun e => q2 (by rw [e]; exact h)
  exact ⟨by rw [yDw_I, if_neg (fun z => hb z.2.2)], by rw [yDw_A, if_neg (fun z => hb z.2.2)], rfl⟩
theorem yAg_Dv {Λ : yL} {S S' : yS} {t b : Nat} {zs : List Int32} (h : yAg Λ S S' t) (h1 : b ≠ t) (h2 : own Λ b ≠ t) (hv : yDv S b zs) : yDv S' b zs :=
  ⟨hv.1, by rw [(h 3 1 b h1 h2).1]; exact hv.2.1, fun k hk => by rw [(h 3 0 b h1 h2).2.1]; exact hv.2.2 k hk⟩
theorem yDv_e {S : yS} {a : Nat} : yDv (ywI S 3 1 a 0) a [] := ⟨Nat.zero_le _, if_pos ⟨rfl, rfl, rfl⟩, fun k hk => absurd hk (Nat.not_lt_zero _)⟩
theorem zG {zs : List Int32} {k : Nat} (h : k < zs.length) : zs.drop k = zs.getD k 0 :: zs.drop (k + 1) := by
  rw [List.drop_eq_getElem_cons h, List.getD_eq_getElem?_getD, List.getElem?_eq_getElem h]; rfl
theorem zA {zs ys : List Int32} {z : Int32} {k : Nat} : (zs ++ [z]).getD k 0 = if k < zs.length then zs.getD k 0 else if k = zs.length then z else 0 := by
  rw [List.getD_eq_getElem?_getD]
  by_cases h : k < zs.length
  · rw [if_pos h, List.getElem?_append_left h, ← List.getD_eq_getElem?_getD]
  · rw [if_neg h, List.getElem?_append_right (by omega)]
    by_cases h2 : k = zs.length
    · rw [if_pos h2, h2, Nat.sub_self]; rfl
    · rw [if_neg h2, List.getElem?_eq_none (by simp; omega)]; rfl
section
variable {Λ : yL} {f0 : xH} {S : yS} {a o p q cap capx d : Nat} {zs ys : List Int32} {xs bs : List Nat} {x z : Int32} {post : Option Value → xH → Prop}
theorem De_empty_sp (hD : yD Λ a) (h : post none (yH Λ f0 (ywI S 3 1 a 0))) : xSp xT0 (d + 1) j_De_empty [.ref a] (yH Λ f0 S) post :=
  xSp_of (M := m_De_empty) rfl (b_De_empty_0 (ypf hD.1 rfl h))
theorem De_addOrigin_sp (hW : yW Λ) (hD : yD Λ a) (hv : yDv S a zs) (hlt : zs.length < 48) (h : ∀ g v, yDv (yDw S a g v) a (zs ++ [z]) → post none (yH Λ f0 (yDw S a g v))) : xSp xT0 (d + 1) j_De_addOrigin [.ref a, .int z] (yH Λ f0 S) post := by
  refine xSp_of (M := m_De_addOrigin) rfl (b_De_addOrigin_0 (ygi hD.1 rfl (ygr hD.1 rfl (yle hD.2 ?_))))
  rw [hv.2.1]
  refine ⟨fun c => absurd ((leI (a := 48) (b := zs.length) (by omega) (by omega)).mp c) (by omega), fun c => ygr hD.1 rfl (ygi hD.1 rfl ?_)⟩
  rw [hv.2.1]
  refine yas hD.2 (yW_n hW hD.2) (vp_in_nI hlt (by omega)) ?_
  rw [nI_clamp (by omega)]
  refine ygi hD.1 rfl (ypf hD.1 rfl ?_)
  have e : yI (ywA S 3 0 a (upd (yA S 3 0 a) zs.length z)) 3 1 a + 1 = nI (zs.length + 1) := by
    show yI S 3 1 a + 1 = _
    rw [hv.2.1]
    exact nI_1 _
  rw [e]
  refine h (upd (yA S 3 0 a) zs.length z) (nI (zs.length + 1)) ⟨by simp; omega, ?_, fun k hk => ?_⟩
  · rw [yDw_I, if_pos ⟨rfl, rfl, rfl⟩, List.length_append]; rfl
  · rw [yDw_A, if_pos ⟨rfl, rfl, rfl⟩, zA (ys := [])]
    rw [List.length_append] at hk
    have hk : k < zs.length + 1 := hk
    by_cases e2 : k = zs.length
    · rw [if_neg (by omega), if_pos e2, e2]; exact pk_us
    · rw [if_pos (by omega), pk_un e2]; exact hv.2.2 k (by omega)
theorem De_addPlace_sp (hW : yW Λ) (hD : yD Λ a) (hv : yDv S a zs) (hlt : zs.length < 48) (h : ∀ g v, yDv (yDw S a g v) a (zs ++ [z]) → post none (yH Λ f0 (yDw S a g v))) : xSp xT0 (d + 2) j_De_addPlace [.ref a, .int z] (yH Λ f0 S) post :=
  xSp_of (M := m_De_addPlace) rfl (b_De_addPlace_0 ⟨yex hD.1, De_addOrigin_sp hW hD hv hlt h⟩)
theorem De_addTold_sp (hW : yW Λ) (hD : yD Λ a) (hv : yDv S a zs) (hlt : zs.length < 48) (h : ∀ g v, yDv (yDw S a g v) a (zs ++ [z ^^^ (-1)]) → post none (yH Λ f0 (yDw S a g v))) : xSp xT0 (d + 2) j_De_addTold [.ref a, .int z] (yH Λ f0 S) post :=
  xSp_of (M := m_De_addTold) rfl (b_De_addTold_0 ⟨yex hD.1, De_addOrigin_sp hW hD hv hlt h⟩)
theorem De_copyOf_loop (hW : yW Λ) (hD : yD Λ a) (hO : yD Λ o) (hne : o ≠ a) (hw : yDv S o zs) {E : Option Value → xH → Prop} (h : ∀ g, yDv (yDw S a g (nI zs.length)) a zs → E none (yH Λ f0 (yDw S a g (nI zs.length)))) : ∀ n k g, zs.length - k = n → k ≤ zs.length → (∀ j, j < k → g j = zs.getD j 0) → xWp (xT0, xSp xT0 d, none, m_De_copyOf, E) 10 [some (.ref a), some (.ref o), some (.int (nI k))] [] (yH Λ f0 (yDw S a g (nI zs.length))) 0 0 := by
  have hl2 := hw.1
  have e1 : ∀ g, yI (yDw S a g (nI zs.length)) 3 1 a = nI zs.length := fun g => by rw [yDw_I, if_pos ⟨rfl, rfl, rfl⟩]
  intro n
  induction n with
  | zero =>
    intro k g hn hk hg
    refine b_De_copyOf_10 (ygi hD.1 rfl ?_)
    rw [e1]
    refine ⟨fun c => h g ⟨hl2, e1 g, fun j hj => ?_⟩, fun c => absurd ((leI (by omega) (by omega)).mpr (by omega)) c⟩
    rw [yDw_A, if_pos ⟨rfl, rfl, rfl⟩]
    exact hg j (by omega)
  | succ n ih =>
    intro k g hn hk hg
    refine b_De_copyOf_10 (ygi hD.1 rfl ?_)
    rw [e1]
    refine ⟨fun c => absurd ((leI (by omega) (by omega)).mp c) (by omega), fun c => ?_⟩
    have hk1 : k < zs.length := by omega
    refine ygr hD.1 rfl (ygr hO.1 rfl (yal hO.2 (vp_in_nI (by omega) (by omega)) (yas hD.2 (yW_n hW hD.2) (vp_in_nI (by omega) (by omega)) ?_)))
    rw [nI_clamp (by omega)]
    have e2 : yA (yDw S a g (nI zs.length)) 3 0 o k = zs.getD k 0 := by rw [yDw_A, if_neg (fun q => hne q.2.2)]; exact hw.2.2 k hk1
    have e3 : ywA (yDw S a g (nI zs.length)) 3 0 a (upd (yA (yDw S a g (nI zs.length)) 3 0 a) k (zs.getD k 0)) = yDw S a (upd g k (zs.getD k 0)) (nI zs.length) := by
      have h1 : yA (yDw S a g (nI zs.length)) 3 0 a = g := by rw [yDw_A, if_pos ⟨rfl, rfl, rfl⟩]
      rw [h1]
      show ywA (ywA (ywI S 3 1 a (nI zs.length)) 3 0 a g) 3 0 a _ = _
      rw [ywA_A]
      rfl
    rw [e2, e3]
    have := ih (k + 1) (upd g k (zs.getD k 0)) (by omega) (by omega) (fun j hj => by
      by_cases q : j = k
      · subst q; exact pk_us
      · rw [pk_un q]; exact hg j (by omega))
    rw [← nI_1] at this
    exact this
theorem De_copyOf_sp (hW : yW Λ) (hD : yD Λ a) (hO : yD Λ o) (hne : o ≠ a) (hw : yDv S o zs) (h : ∀ g, yDv (yDw S a g (nI zs.length)) a zs → post none (yH Λ f0 (yDw S a g (nI zs.length)))) : xSp xT0 (d + 1) j_De_copyOf [.ref a, .ref o] (yH Λ f0 S) post := by
  refine xSp_of (M := m_De_copyOf) rfl (b_De_copyOf_0 (ygi hO.1 rfl (ypf hD.1 rfl ?_)))
  rw [hw.2.1, yDw_e, ← nI_0]
  exact De_copyOf_loop hW hD hO hne hw h _ 0 _ rfl (Nat.zero_le _) (fun j hj => absurd hj (Nat.not_lt_zero _))
/-- a COPY of all of n bytes -/
def whoD (n : Nat) : List Int32 := (List.range n).map nI
theorem whoD_s (n : Nat) : whoD (n + 1) = whoD n ++ [nI n] := by
  unfold whoD
  rw [List.range_succ, List.map_append]
  rfl
theorem whoD_l (n : Nat) : (whoD n).length = n := by simp [whoD]
theorem whoD_g {n k : Nat} (h : k < n) : (whoD n).getD k 0 = nI k := by
  unfold whoD
  rw [List.getD_eq_getElem?_getD, List.getElem?_map, List.getElem?_range h]
  rfl
theorem De_becomeWhole_loop (hW : yW Λ) (hD : yD Λ a) {n : Nat} (hn : n ≤ 48) {E : Option Value → xH → Prop} (h : ∀ g v, yDv (yDw S a g v) a (whoD n) → E none (yH Λ f0 (yDw S a g v))) : ∀ m k g v, n - k = m → k ≤ n → yDv (yDw S a g v) a (whoD k) → xWp (xT0, xSp xT0 (d + 2), none, m_De_becomeWhole, E) 7 [some (.ref a), some (.int (nI n)), some (.int (nI k))] [] (yH Λ f0 (yDw S a g v)) 0 0 := by
  intro m
  induction m with
  | zero =>
    intro k g v hk1 hk2 hv
    have : k = n := by omega
    subst this
    exact b_De_becomeWhole_7 ⟨fun c => h g v hv, fun c => absurd ((leI (by omega) (by omega)).mpr (Nat.le_refl _)) c⟩
  | succ m ih =>
    intro k g v hk1 hk2 hv
    refine b_De_becomeWhole_7 ⟨fun c => absurd ((leI (by omega) (by omega)).mp c) (by omega), fun c => ⟨yex hD.1, De_addPlace_sp hW hD hv (by rw [whoD_l]; omega) (fun g' v' hv' => ?_)⟩⟩
    rw [yDw_w] at hv' ⊢
    rw [← whoD_s] at hv'
    have := ih (k + 1) g' v' (by omega) (by omega) hv'
    rw [← nI_1] at this
    exact this
theorem De_becomeWhole_sp (hW : yW Λ) (hD : yD Λ a) {n : Nat} (hn : n ≤ 48) (h : ∀ g v, yDv (yDw S a g v) a (whoD n) → post none (yH Λ f0 (yDw S a g v))) : xSp xT0 (d + 3) j_De_becomeWhole [.ref a, .int (nI n)] (yH Λ f0 S) post := by
  refine xSp_of (M := m_De_becomeWhole) rfl (b_De_becomeWhole_0 (ypf hD.1 rfl ?_))
  have hv : yDv (ywI S 3 1 a 0) a [] := yDv_e
  rw [yDw_e] at hv ⊢
  exact De_becomeWhole_loop hW hD hn h _ 0 _ _ rfl (Nat.zero_le _) hv
theorem De_isWhole_loop (hD : yD Λ a) (hv : yDv S a zs) {E : Option Value → xH → Prop} (h : E (some (.int (if zs = whoD zs.length then 1 else 0))) (yH Λ f0 S)) : ∀ m k, zs.length - k = m → k ≤ zs.length → (∀ j, j < k → zs.getD j 0 = nI j) → xWp (xT0, xSp xT0 d, none, m_De_isWhole, E) 12 [some (.ref a), some (.int x), some (.int (nI k))] [] (yH Λ f0 S) 0 0 := by
  have hl := hv.1
  intro m
  induction m with
  | zero =>
    intro k hk1 hk2 hg
    refine b_De_isWhole_12 (ygi hD.1 rfl ?_)
    rw [hv.2.1]
    refine ⟨fun c => ?_, fun c => absurd ((leI (by omega) (by omega)).mpr (by omega)) c⟩
    have e : zs = whoD zs.length := by
      apply List.ext_getElem (by rw [whoD_l])
      intro j h1 h2
      have q1 := hg j (by omega)
      have q2 := whoD_g h1
      rw [List.getD_eq_getElem?_getD, List.getElem?_eq_getElem h1] at q1
      rw [List.getD_eq_getElem?_getD, List.getElem?_eq_getElem h2] at q2
      exact q1.trans q2.symm
    rw [if_pos e] at h
    exact h
  | succ m ih =>
    intro k hk1 hk2 hg
    have hk : k < zs.length := by omega
    refine b_De_isWhole_12 (ygi hD.1 rfl ?_)
    rw [hv.2.1]
    refine ⟨fun c => absurd ((leI (by omega) (by omega)).mp c) (by omega), fun c => ygr hD.1 rfl (yal hD.2 (vp_in_nI (by omega) (by omega)) ?_)⟩
    rw [nI_clamp (by omega), hv.2.2 k hk]
    refine ⟨fun c => ?_, fun c => ?_⟩
    · have := ih (k + 1) (by omega) (by omega) (fun j hj => by
        by_cases q : j = k
        · rw [q]; exact c
        · exact hg j (by omega))
      rw [← nI_1] at this
      exact this
    · have e : ¬ zs = whoD zs.length := fun e => c (by
        have := whoD_g hk
        rw [← e] at this
        exact this)
      rw [if_neg e] at h
      exact h
theorem De_isWhole_sp (hD : yD Λ a) (hv : yDv S a zs) (h : post (some (.int (if nI zs.length = x ∧ zs = whoD zs.length then 1 else 0))) (yH Λ f0 S)) : xSp xT0 (d + 1) j_De_isWhole [.ref a, .int x] (yH Λ f0 S) post := by
  refine xSp_of (M := m_De_isWhole) rfl (b_De_isWhole_0 (ygi hD.1 rfl ?_))
  rw [hv.2.1]
  refine ⟨fun c => ?_, fun c => ?_⟩
  · refine De_isWhole_loop hD hv ?_ _ 0 rfl (Nat.zero_le _) (fun j hj => absurd hj (Nat.not_lt_zero _))
    by_cases e : zs = whoD zs.length
    · rw [if_pos ⟨c, e⟩] at h
      rw [if_pos e]
      exact h
    · rw [if_neg (fun z => e z.2)] at h
      rw [if_neg e]
      exact h
  · rw [if_neg (fun z => c z.1)] at h
    exact h
end
