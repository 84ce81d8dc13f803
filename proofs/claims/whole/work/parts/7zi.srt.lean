/-! 7zi STEPS in their order: one row for one set -/
theorem ordV_tr : ∀ {a b c : List Nat}, 0 < ordV a b → 0 < ordV b c → 0 < ordV a c
  | [], [], _, h, _ => by simp [ordV] at h
  | [], y :: b, _, h, _ => by simp [ordV] at h; omega
  | x :: a, [], [], _, _ => by simp [ordV]
  | x :: a, [], z :: c, _, h => by simp [ordV] at h; omega
  | x :: a, y :: b, [], _, _ => by simp [ordV]
  | x :: a, y :: b, z :: c, h1, h2 => by
    rw [ordV_cons] at h1 h2 ⊢
    by_cases e1 : x = y
    · rw [if_pos e1] at h1
      by_cases e2 : y = z
      · rw [if_pos e2] at h2
        rw [if_pos (e1.trans e2)]
        exact ordV_tr h1 h2
      · rw [if_neg e2] at h2
        rw [if_neg (fun w => e2 (e1.symm.trans w))]
        omega
    · rw [if_neg e1] at h1
      by_cases e2 : y = z
      · rw [if_pos e2] at h2
        rw [if_neg (fun w => e1 (w.trans e2.symm))]
        omega
      · rw [if_neg e2] at h2
        rw [if_neg (by omega)]
        omega
theorem ordV_ir (a : List Nat) : ¬ 0 < ordV a a := fun h => by rw [ordV_0.mpr rfl] at h; exact absurd h (by omega)
/-- a before b -/
def ltV (a b : Sv) : Prop := 0 < ordV b.2.1 a.2.1 ∨ (b.2.1 = a.2.1 ∧ ¬ b.1 = 1 ∧ a.1 = 1)
def kdV (a b : Sv) : Prop := ¬ (a.2.1 = b.2.1 ∧ (a.1 = 1 ↔ b.1 = 1))
theorem behV_i {a b : Sv} : behV b a = true ↔ ltV a b := by unfold behV ltV; exact decide_eq_true_iff
theorem ltV_tr {a b c : Sv} (h1 : ltV a b) (h2 : ltV b c) : ltV a c := by
  rcases h1 with h1 | ⟨e1, e2, e3⟩
  · rcases h2 with h2 | ⟨f1, f2, f3⟩
    · exact Or.inl (ordV_tr h2 h1)
    · exact Or.inl (by rw [f1]; exact h1)
  · rcases h2 with h2 | ⟨f1, f2, f3⟩
    · exact Or.inl (by rw [← e1]; exact h2)
    · exact absurd f3 e2
theorem ltV_as {a b : Sv} (h1 : ltV a b) (h2 : ltV b a) : False := by
  have := ltV_tr h1 h2
  rcases this with h | ⟨_, h3, h4⟩
  · exact ordV_ir _ h
  · exact h3 h4
theorem ltV_to {a b : Sv} (h : kdV a b) (h2 : ¬ ltV b a) : ltV a b := by
  have hn := ordV_neg a.2.1 b.2.1
  by_cases c : 0 < ordV b.2.1 a.2.1
  · exact Or.inl c
  · by_cases c2 : 0 < ordV a.2.1 b.2.1
    · exact absurd (Or.inl c2) h2
    · have e : b.2.1 = a.2.1 := ordV_0.mp (by omega)
      by_cases ca : a.1 = 1
      · by_cases cb : b.1 = 1
        · exact absurd ⟨e.symm, ⟨fun _ => cb, fun _ => ca⟩⟩ h
        · exact Or.inr ⟨e, cb, ca⟩
      · by_cases cb : b.1 = 1
        · exact absurd (Or.inr ⟨e.symm, ca, cb⟩) h2
        · exact absurd ⟨e.symm, ⟨fun w => absurd w ca, fun w => absurd w cb⟩⟩ h
theorem insV_r (v : Sv) (vs : List Sv) : ∀ n j, insV v vs n ≤ j → j < n → behV (vs.getD j sv0) v = true
  | 0, j, _, h => absurd h (Nat.not_lt_zero _)
  | n + 1, j, h1, h2 => by
    rw [insV_s] at h1
    split at h1
    · rename_i hb
      by_cases e : j = n
      · rw [e]; exact hb
      · exact insV_r v vs n j h1 (by omega)
    · omega
theorem insV_b (v : Sv) (vs : List Sv) : ∀ n, 0 < insV v vs n → ¬ behV (vs.getD (insV v vs n - 1) sv0) v = true
  | 0, h => absurd h (Nat.lt_irrefl _)
  | n + 1, h => by
    rw [insV_s] at h ⊢
    split at h
    · rename_i hb
      rw [if_pos hb]
      exact insV_b v vs n h
    · rename_i hb
      rw [if_neg hb]
      exact hb
theorem pwG {R : Sv → Sv → Prop} {vs : List Sv} (h : vs.Pairwise R) {i j : Nat} (hij : i < j) (hj : j < vs.length) : R (vs.getD i sv0) (vs.getD j sv0) := by
  rw [List.getD_eq_getElem?_getD, List.getElem?_eq_getElem (by omega), List.getD_eq_getElem?_getD, List.getElem?_eq_getElem hj]
  exact List.pairwise_iff_getElem.mp h i j (by omega) hj hij
theorem addV_pm (vs : List Sv) (v : Sv) : (addV vs v).Perm (v :: vs) := by
  unfold addV insA
  have h := List.perm_middle (a := v) (l₁ := vs.take (insV v vs vs.length)) (l₂ := vs.drop (insV v vs vs.length))
  rw [List.take_append_drop] at h
  exact h
theorem addV_sr {vs : List Sv} {v : Sv} (h : vs.Pairwise ltV) (hk : ∀ a, a ∈ vs → kdV a v) : (addV vs v).Pairwise ltV := by
  unfold addV insA
  have hle := insV_le v vs vs.length
  have hd := List.take_append_drop (insV v vs vs.length) vs
  have h' := h
  rw [← hd] at h'
  have h1 := List.pairwise_append.mp h'
  have ht : ∀ a, a ∈ vs.take (insV v vs vs.length) → ltV a v := fun a ha => by
    have hm := List.mem_of_mem_take ha
    obtain ⟨j, hj, e⟩ := List.getElem_of_mem ha
    rw [List.length_take] at hj
    have e2 : vs.getD j sv0 = a := by
      rw [List.getElem_take] at e
      rw [List.getD_eq_getElem?_getD, List.getElem?_eq_getElem (by omega)]
      exact e
    have hb := insV_b v vs vs.length (by omega)
    have hl : ltV (vs.getD (insV v vs vs.length - 1) sv0) v := ltV_to (hk _ (Gmem (by omega))) (fun w => hb (behV_i.mpr w))
    by_cases c : j = insV v vs vs.length - 1
    · rw [← e2, c]; exact hl
    · rw [← e2]; exact ltV_tr (pwG h (show j < insV v vs vs.length - 1 by omega) (by omega)) hl
  have hr : ∀ b, b ∈ vs.drop (insV v vs vs.length) → ltV v b := fun b hb => by
    obtain ⟨j, hj, e⟩ := List.getElem_of_mem hb
    rw [List.length_drop] at hj
    have e2 : vs.getD (insV v vs vs.length + j) sv0 = b := by
      rw [List.getElem_drop] at e
      rw [List.getD_eq_getElem?_getD, List.getElem?_eq_getElem (by omega)]
      exact e
    rw [← e2]
    exact behV_i.mp (insV_r v vs vs.length _ (by omega) (by omega))
  refine List.pairwise_append.mpr ⟨h1.1, List.pairwise_cons.mpr ⟨hr, h1.2.1⟩, fun a ha b hb => ?_⟩
  rcases List.mem_cons.mp hb with e | hb
  · rw [e]; exact ht a ha
  · exact h1.2.2 a ha b hb
theorem fold_sr : ∀ (l acc : List Sv), acc.Pairwise ltV → (∀ a, a ∈ acc → ∀ b, b ∈ l → kdV a b) → l.Pairwise kdV → (l.foldl addV acc).Pairwise ltV ∧ (l.foldl addV acc).Perm (acc ++ l)
  | [], acc, h, _, _ => ⟨h, by rw [List.append_nil]; exact List.Perm.refl _⟩
  | v :: l, acc, h, hk, hp => by
    have hp' := List.pairwise_cons.mp hp
    have hpm := addV_pm acc v
    have ih := fold_sr l (addV acc v) (addV_sr h (fun a ha => hk a ha v (List.mem_cons_self ..))) (fun a ha b hb => by
      rcases List.mem_cons.mp (hpm.mem_iff.mp ha) with e | ha
      · rw [e]; exact hp'.1 b hb
      · exact hk a ha b (List.mem_cons_of_mem _ hb)) hp'.2
    refine ⟨ih.1, ih.2.trans ?_⟩
    exact (hpm.append_right l).trans (List.perm_middle (a := v) (l₁ := acc) (l₂ := l)).symm
theorem srt_u : ∀ (l1 l2 : List Sv), l1.Perm l2 → l1.Pairwise ltV → l2.Pairwise ltV → l1 = l2
  | [], l2, h, _, _ => (List.Perm.nil_eq h)
  | a :: l1, [], h, _, _ => absurd h.length_eq (by simp)
  | a :: l1, b :: l2, h, h1, h2 => by
    have h1' := List.pairwise_cons.mp h1
    have h2' := List.pairwise_cons.mp h2
    have hab : a = b := by
      rcases List.mem_cons.mp (h.mem_iff.mp (List.mem_cons_self ..)) with e | ha
      · exact e
      · rcases List.mem_cons.mp (h.mem_iff.mpr (List.mem_cons_self ..)) with e | hb
        · exact e.symm
        · exact (ltV_as (h1'.1 b hb) (h2'.1 a ha)).elim
    subst hab
    rw [srt_u l1 l2 (List.Perm.cons_inv h) h1'.2 h2'.2]
/-- no SOURCE and no TARGET twice -/
def dsR (a b : Sv) : Prop := (¬ a.1 = 0 → ¬ b.1 = 0 → ¬ a.2.2.1 = b.2.2.1) ∧ (¬ a.1 = 1 → ¬ b.1 = 1 → ¬ a.2.1 = b.2.1)
theorem dsR_s {a b : Sv} (h : dsR a b) : dsR b a := ⟨fun x y z => h.1 y x z.symm, fun x y z => h.2 y x z.symm⟩
theorem dsR_i {a : Sv} (h : dsR a a) : False := by
  by_cases c : a.1 = 0
  · exact h.2 (fun z => absurd (c.symm.trans z) (by decide)) (fun z => absurd (c.symm.trans z) (by decide)) rfl
  · exact h.1 c c rfl
theorem dsR_k {a b : Sv} (ha : okV a) (hb : okV b) (h : dsR a b) : kdV a b := fun ⟨e, i⟩ => by
  by_cases c : a.1 = 1
  · have cb := i.mp c
    have ea := ha.2.2.2.2.2.2.2 (Or.inr (Or.inl c))
    have eb := hb.2.2.2.2.2.2.2 (Or.inr (Or.inl cb))
    exact h.1 (by rw [c]; decide) (by rw [cb]; decide) (by rw [← ea, ← eb]; exact e)
  · exact h.2 c (fun z => c (i.mpr z)) e
def okVs (l : List Sv) : Prop := (∀ v, v ∈ l → okV v) ∧ l.Pairwise dsR
theorem okVs_k {l : List Sv} (h : okVs l) : l.Pairwise kdV := List.Pairwise.imp_of_mem (fun ha hb hr => dsR_k (h.1 _ ha) (h.1 _ hb) hr) h.2
theorem okVs_p {l l' : List Sv} (hp : l.Perm l') (h : okVs l) : okVs l' := ⟨fun v hv => h.1 v (hp.mem_iff.mpr hv), (hp.pairwise_iff dsR_s).mp h.2⟩
theorem stV_pm {l : List Sv} (h : okVs l) : (stV l).Perm l := (fold_sr l [] List.Pairwise.nil (fun a ha => absurd ha (List.not_mem_nil)) (okVs_k h)).2
theorem stV_sr {l : List Sv} (h : okVs l) : (stV l).Pairwise ltV := (fold_sr l [] List.Pairwise.nil (fun a ha => absurd ha (List.not_mem_nil)) (okVs_k h)).1
theorem okVs_st {l : List Sv} (h : okVs l) : okVs (stV l) := okVs_p (stV_pm h).symm h
theorem stV_eq {l l' : List Sv} (hp : l.Perm l') (h : okVs l) : stV l = stV l' := srt_u _ _ ((stV_pm h).trans (hp.trans (stV_pm (okVs_p hp h)).symm)) (stV_sr h) (stV_sr (okVs_p hp h))
theorem pm_of : ∀ (l1 l2 : List Sv), l1.Pairwise dsR → l2.Pairwise dsR → (∀ a, a ∈ l1 ↔ a ∈ l2) → l1.Perm l2
  | [], [], _, _, _ => List.Perm.refl _
  | [], b :: l2, _, _, h => absurd ((h b).mpr (List.mem_cons_self ..)) (List.not_mem_nil)
  | a :: l1, l2, h1, h2, h => by
    obtain ⟨s, t, e⟩ := List.append_of_mem ((h a).mp (List.mem_cons_self ..))
    subst e
    have hpm := List.perm_middle (a := a) (l₁ := s) (l₂ := t)
    have h1' := List.pairwise_cons.mp h1
    have h2' := List.pairwise_cons.mp ((hpm.pairwise_iff dsR_s).mp h2)
    refine ((pm_of l1 (s ++ t) h1'.2 h2'.2 (fun x => ⟨fun hx => ?_, fun hx => ?_⟩)).cons a).trans hpm.symm
    · rcases List.mem_cons.mp (hpm.mem_iff.mp ((h x).mp (List.mem_cons_of_mem _ hx))) with e | hx'
      · rw [e] at hx; exact (dsR_i (h1'.1 a hx)).elim
      · exact hx'
    · rcases List.mem_cons.mp ((h x).mpr (hpm.mem_iff.mpr (List.mem_cons_of_mem _ hx))) with e | hx'
      · rw [e] at hx; exact (dsR_i (h2'.1 a hx)).elim
      · exact hx'
