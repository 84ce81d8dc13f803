/-! 60 Patch: STEPS in ORDER -/
abbrev sv0 : Sv := (0, [], [], 0, 0, 0, 0, [], [])
def yPa (Λ : yL) (p : Nat) : Prop := yo Λ p 5 ∧ yr Λ (Λ.2.1 5 0 p) 5 0 p 5 25
/-- a Patch with the STEPS vs, its rows Q: those behind them are blank -/
def yPq (Λ : yL) (S : yS) (p : Nat) (vs : List Sv) (Q : Nat → Nat) : Prop := yPa Λ p ∧ (∀ i, i < 25 → yR S 5 0 p i = some (Q i) ∧ own Λ (Q i) = p ∧ ∃ v, ySv Λ S (Q i) v) ∧ (∀ i j, i < 25 → j < 25 → Q i = Q j → i = j) ∧ vs.length ≤ 24 ∧ yI S 5 1 p = nI vs.length ∧ (∀ i, i < vs.length → ySv Λ S (Q i) (vs.getD i sv0)) ∧ own Λ p ≠ p ∧ ∀ i, i < 25 → own Λ p ≠ Q i
theorem St_ne_Pa {Λ : yL} {S : yS} {s p : Nat} {v : Sv} (hv : ySv Λ S s v) (hp : yPa Λ p) : s ≠ p := by
  intro e
  obtain ⟨x, y, h1⟩ := hv.1.1
  obtain ⟨x', y', h2⟩ := hp.1
  rw [e, h2] at h1
  cases h1
/-- all that is a Patch's: itself, its STEPS, theirs -/
def yAg2 (Λ : yL) (S S' : yS) (p : Nat) : Prop := ∀ c j a, a ≠ p → own Λ a ≠ p → own Λ (own Λ a) ≠ p → yI S' c j a = yI S c j a ∧ yA S' c j a = yA S c j a ∧ yR S' c j a = yR S c j a
theorem yAg2_rf {Λ : yL} {S : yS} {t : Nat} : yAg2 Λ S S t := fun _ _ _ _ _ _ => ⟨rfl, rfl, rfl⟩
theorem yAg2_tr {Λ : yL} {S S1 S2 : yS} {t : Nat} (h1 : yAg2 Λ S S1 t) (h2 : yAg2 Λ S1 S2 t) : yAg2 Λ S S2 t := fun c j a q1 q2 q3 => by
  obtain ⟨a1, a2, a3⟩ := h1 c j a q1 q2 q3
  obtain ⟨b1, b2, b3⟩ := h2 c j a q1 q2 q3
  exact ⟨b1.trans a1, b2.trans a2, b3.trans a3⟩
theorem yAg2_of {Λ : yL} {S S' : yS} {s p : Nat} (h : yAg Λ S S' s) (hs : own Λ s = p) : yAg2 Λ S S' p := fun c j a _ q2 q3 => h c j a (fun e => q2 (by rw [e]; exact hs)) (fun e => q3 (by rw [e]; exact hs))
theorem yAg2_1 {Λ : yL} {S S' : yS} {p : Nat} (h : yAg Λ S S' p) : yAg2 Λ S S' p := fun c j a q1 q2 _ => h c j a q1 q2
section
variable {Λ : yL} {f0 : xH} {S S' : yS} {s o p q t capo d : Nat} {v w : Sv} {vs ws : List Sv} {Q Q' : Nat → Nat} {bs : List Nat} {x : Int32} {post : Option Value → xH → Prop}
theorem yPq_ap (h : yPq Λ S p vs Q) {i j : Nat} (hi : i < 25) (hj : j < 25) (hij : i ≠ j) : apart Λ (Q i) (Q j) := by
  obtain ⟨hs, hr, hinj, -, -, -, -, -⟩ := h
  obtain ⟨v1, h1⟩ := (hr i hi).2.2
  obtain ⟨v2, h2⟩ := (hr j hj).2.2
  exact ⟨fun e => hij (hinj i j hi hj e), by rw [(hr i hi).2.1]; exact fun e => St_ne_Pa h2 hs e.symm, by rw [(hr j hj).2.1]; exact fun e => St_ne_Pa h1 hs e.symm⟩
/-- the row k gets another STEP -/
theorem yPq_mod (h : yPq Λ S p vs Q) {k : Nat} (hk : k < 25) (hn : vs.length ≤ k) (ha : yAg Λ S S' (Q k)) (hv : ySv Λ S' (Q k) v) : yPq Λ S' p vs Q := by
  obtain ⟨hs, hr, hinj, hl, hz, hb, hp1, hp2⟩ := id h
  obtain ⟨v2, hv2⟩ := (hr k hk).2.2
  have hpk : p ≠ Q k := fun e => St_ne_Pa hv2 hs e.symm
  refine ⟨hs, fun i hi => ⟨?_, (hr i hi).2.1, ?_⟩, hinj, hl, ?_, fun i hi => ?_, hp1, hp2⟩
  · rw [(ha 5 0 p hpk (hp2 k hk)).2.2]; exact (hr i hi).1
  · by_cases e : i = k
    · rw [e]; exact ⟨v, hv⟩
    · obtain ⟨v1, h1⟩ := (hr i hi).2.2
      have := yPq_ap h hi hk e
      exact ⟨v1, yAg_Sv ha this.1 this.2.1 this.2.2 h1⟩
  · rw [(ha 5 1 p hpk (hp2 k hk)).1]; exact hz
  · have := yPq_ap h (show i < 25 by omega) hk (by omega)
    exact yAg_Sv ha this.1 this.2.1 this.2.2 (hb i hi)
theorem Pa_size_sp (h : yPq Λ S p vs Q) (hp : post (some (.int (nI vs.length))) (yH Λ f0 S)) : xSp xT0 (d + 1) j_Pa_size [.ref p] (yH Λ f0 S) post := by
  refine xSp_of (M := m_Pa_size) rfl (b_Pa_size_0 (ygi h.1.1 rfl ?_))
  rw [h.2.2.2.2.1]
  exact hp
theorem Pa_has_sp (h : yPq Λ S p vs Q) (h1 : ∀ k, k < vs.length → x = nI k → post (some (.int 1)) (yH Λ f0 S)) (h2 : x < 0 ∨ nI vs.length ≤ x → post (some (.int 0)) (yH Λ f0 S)) : xSp xT0 (d + 1) j_Pa_has [.ref p, .int x] (yH Λ f0 S) post := by
  have hl := h.2.2.2.1
  refine xSp_of (M := m_Pa_has) rfl (b_Pa_has_0 ⟨fun c => h2 (Or.inl c), fun c => ygi h.1.1 rfl ?_⟩)
  rw [h.2.2.2.2.1]
  refine ⟨fun c2 => h2 (Or.inr c2), fun c2 => ?_⟩
  rcases pk_ix x (n := vs.length) (by omega) with q | q | ⟨k, hk, e⟩
  · exact absurd q c
  · exact absurd q c2
  · exact h1 k hk e
theorem Pa_blank_sp (h : yPq Λ S p vs Q) (hp : post (some (.ref (Q vs.length))) (yH Λ f0 S)) : xSp xT0 (d + 1) j_Pa_blank [.ref p] (yH Λ f0 S) post := by
  have hl := h.2.2.2.1
  refine xSp_of (M := m_Pa_blank) rfl (b_Pa_blank_0 (ygr h.1.1 rfl (ygi h.1.1 rfl ?_)))
  rw [h.2.2.2.2.1]
  exact yrl (Q vs.length) h.1.2 (vp_in_nI (by omega) (by omega)) (by rw [nI_clamp (by omega)]; exact (h.2.1 _ (by omega)).1) hp
theorem Pa_at_sp (h : yPq Λ S p vs Q) {k : Nat} (hk : k < vs.length) (hp : post (some (.ref (Q k))) (yH Λ f0 S)) : xSp xT0 (d + 2) j_Pa_at [.ref p, .int (nI k)] (yH Λ f0 S) post := by
  have hl := h.2.2.2.1
  refine xSp_of (M := m_Pa_at) rfl (b_Pa_at_0 ⟨yex h.1.1, Pa_has_sp h (fun j hj e => ⟨fun c => absurd c (by decide), fun c => ygr h.1.1 rfl ?_⟩) (fun z => ?_)⟩)
  · exact yrl (Q k) h.1.2 (vp_in_nI (by omega) (by omega)) (by rw [nI_clamp (by omega)]; exact (h.2.1 _ (by omega)).1) hp
  · rcases z with z | z
    · exact absurd z (nI_pos (by omega))
    · exact absurd ((leI (by omega) (by omega)).mp z) (by omega)
theorem Pa_empty_sp (hs : yPa Λ p) (h : post none (yH Λ f0 (ywI S 5 1 p 0))) : xSp xT0 (d + 1) j_Pa_empty [.ref p] (yH Λ f0 S) post :=
  xSp_of (M := m_Pa_empty) rfl (b_Pa_empty_0 (ypf hs.1 rfl h))
theorem ySv_I5 {c j a : Nat} {z : Int32} (hc : c ≠ 1 ∧ c ≠ 3 ∧ c ≠ 4) (h : ySv Λ S s v) : ySv Λ (ywI S c j a z) s v := by
  obtain ⟨h1, ⟨h2, h3, h4⟩, ⟨h5, h6, h7, h8⟩, h9, h10⟩ := h
  exact ⟨h1, ⟨(ywI_ne _ _ (by omega)).trans h2, yBv_I2 (v := 0) hc.1 h3, yBv_I2 (v := 0) hc.1 h4⟩, ⟨(ywI_ne _ _ (by omega)).trans h5, (ywI_ne _ _ (by omega)).trans h6, (ywI_ne _ _ (by omega)).trans h7, (ywI_ne _ _ (by omega)).trans h8⟩, yDv_I2 hc.2.1 h9, yDv_I2 hc.2.1 h10⟩
theorem yPq_e (h : yPq Λ S p vs Q) : yPq Λ (ywI S 5 1 p 0) p [] Q := by
  obtain ⟨hs, hr, hinj, hl, hz, hb, hp1, hp2⟩ := h
  refine ⟨hs, fun i hi => ⟨(hr i hi).1, (hr i hi).2.1, ?_⟩, hinj, by simp, ywI_s _ _ _ _ _, fun i hi => absurd hi (Nat.not_lt_zero _), hp1, hp2⟩
  obtain ⟨v1, h1⟩ := (hr i hi).2.2
  exact ⟨v1, ySv_I5 (by decide) h1⟩
/-- the first STEP that brings a FILE there -/
theorem Pa_findTarget_loop (h : yPq Λ S p vs Q) (hO : yB Λ o capo) (hw : yBv S o capo bs) {E : Option Value → xH → Prop} (h1 : ∀ k, k < vs.length → ¬ (vs.getD k sv0).1 = 1 → (vs.getD k sv0).2.1 = bs → (∀ j, j < k → ¬ (¬ (vs.getD j sv0).1 = 1 ∧ (vs.getD j sv0).2.1 = bs)) → E (some (.int (nI k))) (yH Λ f0 S)) (h2 : (∀ j, j < vs.length → ¬ (¬ (vs.getD j sv0).1 = 1 ∧ (vs.getD j sv0).2.1 = bs)) → E (some (.int (-1))) (yH Λ f0 S)) : ∀ n k, vs.length - k = n → k ≤ vs.length → (∀ j, j < k → ¬ (¬ (vs.getD j sv0).1 = 1 ∧ (vs.getD j sv0).2.1 = bs)) → xWp (xT0, xSp xT0 (d + 3), none, m_Pa_findTarget, E) 2 [some (.ref p), some (.ref o), some (.int (nI k))] [] (yH Λ f0 S) 0 0 := by
  have hl := h.2.2.2.1
  intro n
  induction n with
  | zero =>
    intro k hk1 hk2 hg
    refine b_Pa_findTarget_2 (ygi h.1.1 rfl ?_)
    rw [h.2.2.2.2.1]
    exact ⟨fun c => h2 (fun j hj => hg j (by omega)), fun c => absurd ((leI (by omega) (by omega)).mpr (by omega)) c⟩
  | succ n ih =>
    intro k hk1 hk2 hg
    have hk : k < vs.length := by omega
    have hvk := h.2.2.2.2.2.1 k hk
    refine b_Pa_findTarget_2 (ygi h.1.1 rfl ?_)
    rw [h.2.2.2.2.1]
    refine ⟨fun c => absurd ((leI (by omega) (by omega)).mp c) (by omega), fun c => ygr h.1.1 rfl (yrl (Q k) h.1.2 (vp_in_nI (by omega) (by omega)) (by rw [nI_clamp (by omega)]; exact (h.2.1 k (by omega)).1) ⟨yex hvk.1.1, St_bringsTo_sp hvk hO hw ?_⟩)⟩
    by_cases e : ¬ (vs.getD k sv0).1 = 1 ∧ (vs.getD k sv0).2.1 = bs
    · rw [if_pos e]
      exact ⟨fun c => absurd c (by decide), fun c => h1 k hk e.1 e.2 hg⟩
    · rw [if_neg e]
      refine ⟨fun c => ?_, fun c => absurd rfl c⟩
      have := ih (k + 1) (by omega) (by omega) (fun j hj => by
        by_cases q : j = k
        · rw [q]; exact e
        · exact hg j (by omega))
      rw [← nI_1] at this
      exact this
theorem Pa_findTarget_sp (h : yPq Λ S p vs Q) (hO : yB Λ o capo) (hw : yBv S o capo bs) (h1 : ∀ k, k < vs.length → ¬ (vs.getD k sv0).1 = 1 → (vs.getD k sv0).2.1 = bs → (∀ j, j < k → ¬ (¬ (vs.getD j sv0).1 = 1 ∧ (vs.getD j sv0).2.1 = bs)) → post (some (.int (nI k))) (yH Λ f0 S)) (h2 : (∀ j, j < vs.length → ¬ (¬ (vs.getD j sv0).1 = 1 ∧ (vs.getD j sv0).2.1 = bs)) → post (some (.int (-1))) (yH Λ f0 S)) : xSp xT0 (d + 4) j_Pa_findTarget [.ref p, .ref o] (yH Λ f0 S) post := by
  refine xSp_of (M := m_Pa_findTarget) rfl (b_Pa_findTarget_0 ?_)
  exact Pa_findTarget_loop h hO hw h1 h2 _ 0 rfl (Nat.zero_le _) (fun j hj => absurd hj (Nat.not_lt_zero _))
theorem Pa_findSource_loop (h : yPq Λ S p vs Q) (hO : yB Λ o capo) (hw : yBv S o capo bs) {E : Option Value → xH → Prop} (h1 : ∀ k, k < vs.length → ¬ (vs.getD k sv0).1 = 0 → (vs.getD k sv0).2.2.1 = bs → (∀ j, j < k → ¬ (¬ (vs.getD j sv0).1 = 0 ∧ (vs.getD j sv0).2.2.1 = bs)) → E (some (.int (nI k))) (yH Λ f0 S)) (h2 : (∀ j, j < vs.length → ¬ (¬ (vs.getD j sv0).1 = 0 ∧ (vs.getD j sv0).2.2.1 = bs)) → E (some (.int (-1))) (yH Λ f0 S)) : ∀ n k, vs.length - k = n → k ≤ vs.length → (∀ j, j < k → ¬ (¬ (vs.getD j sv0).1 = 0 ∧ (vs.getD j sv0).2.2.1 = bs)) → xWp (xT0, xSp xT0 (d + 3), none, m_Pa_findSource, E) 2 [some (.ref p), some (.ref o), some (.int (nI k))] [] (yH Λ f0 S) 0 0 := by
  have hl := h.2.2.2.1
  intro n
  induction n with
  | zero =>
    intro k hk1 hk2 hg
    refine b_Pa_findSource_2 (ygi h.1.1 rfl ?_)
    rw [h.2.2.2.2.1]
    exact ⟨fun c => h2 (fun j hj => hg j (by omega)), fun c => absurd ((leI (by omega) (by omega)).mpr (by omega)) c⟩
  | succ n ih =>
    intro k hk1 hk2 hg
    have hk : k < vs.length := by omega
    have hvk := h.2.2.2.2.2.1 k hk
    refine b_Pa_findSource_2 (ygi h.1.1 rfl ?_)
    rw [h.2.2.2.2.1]
    refine ⟨fun c => absurd ((leI (by omega) (by omega)).mp c) (by omega), fun c => ygr h.1.1 rfl (yrl (Q k) h.1.2 (vp_in_nI (by omega) (by omega)) (by rw [nI_clamp (by omega)]; exact (h.2.1 k (by omega)).1) ⟨yex hvk.1.1, St_takesFrom_sp hvk hO hw ?_⟩)⟩
    by_cases e : ¬ (vs.getD k sv0).1 = 0 ∧ (vs.getD k sv0).2.2.1 = bs
    · rw [if_pos e]
      exact ⟨fun c => absurd c (by decide), fun c => h1 k hk e.1 e.2 hg⟩
    · rw [if_neg e]
      refine ⟨fun c => ?_, fun c => absurd rfl c⟩
      have := ih (k + 1) (by omega) (by omega) (fun j hj => by
        by_cases q : j = k
        · rw [q]; exact e
        · exact hg j (by omega))
      rw [← nI_1] at this
      exact this
theorem Pa_findSource_sp (h : yPq Λ S p vs Q) (hO : yB Λ o capo) (hw : yBv S o capo bs) (h1 : ∀ k, k < vs.length → ¬ (vs.getD k sv0).1 = 0 → (vs.getD k sv0).2.2.1 = bs → (∀ j, j < k → ¬ (¬ (vs.getD j sv0).1 = 0 ∧ (vs.getD j sv0).2.2.1 = bs)) → post (some (.int (nI k))) (yH Λ f0 S)) (h2 : (∀ j, j < vs.length → ¬ (¬ (vs.getD j sv0).1 = 0 ∧ (vs.getD j sv0).2.2.1 = bs)) → post (some (.int (-1))) (yH Λ f0 S)) : xSp xT0 (d + 4) j_Pa_findSource [.ref p, .ref o] (yH Λ f0 S) post := by
  refine xSp_of (M := m_Pa_findSource) rfl (b_Pa_findSource_0 ?_)
  exact Pa_findSource_loop h hO hw h1 h2 _ 0 rfl (Nat.zero_le _) (fun j hj => absurd hj (Nat.not_lt_zero _))
end
