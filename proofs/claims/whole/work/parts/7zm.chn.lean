/-! 7zm two ways to a chain are one -/
theorem pw_u {l : List Sv} (h : l.Pairwise dsR) {a b : Sv} (ha : a ∈ l) (hb : b ∈ l) (hn : ¬ dsR a b) : a = b := by
  obtain ⟨i, hi, ei⟩ := memG ha
  obtain ⟨j, hj, ej⟩ := memG hb
  rw [← ei, ← ej] at hn ⊢
  by_cases c : i = j
  · rw [c]
  · by_cases c2 : i < j
    · exact absurd (pwG h c2 hj) hn
    · exact absurd (dsR_s (pwG h (show j < i by omega) hi)) hn
theorem src_u {l : List Sv} (h : l.Pairwise dsR) {a b : Sv} (ha : a ∈ l) (hb : b ∈ l) (h1 : ¬ a.1 = 0) (h2 : ¬ b.1 = 0) (e : a.2.2.1 = b.2.2.1) : a = b := pw_u h ha hb (fun z => z.1 h1 h2 e)
theorem tgt_u {l : List Sv} (h : l.Pairwise dsR) {a b : Sv} (ha : a ∈ l) (hb : b ∈ l) (h1 : ¬ a.1 = 1) (h2 : ¬ b.1 = 1) (e : a.2.1 = b.2.1) : a = b := pw_u h ha hb (fun z => z.2 h1 h2 e)
def lkJ (v w : Sv) : Prop := ¬ v.1 = 1 ∧ ¬ w.1 = 0 ∧ v.2.1 = w.2.2.1
def lkC (v w : Sv) : Prop := v.1 = 1 ∧ w.1 = 0 ∧ v.2.1 = w.2.1
theorem lk_w {vs : List Sv} (h : okVs vs) {v v' w : Sv} (hv : v ∈ vs) (hv' : v' ∈ vs) (h1 : lkJ v w ∨ lkC v w) (h2 : lkJ v' w ∨ lkC v' w) : v = v' := by
  rcases h1 with h1 | h1
  · rcases h2 with h2 | h2
    · exact tgt_u h.2 hv hv' h1.1 h2.1 (h1.2.2.trans h2.2.2.symm)
    · exact absurd h2.2.1 h1.2.1
  · rcases h2 with h2 | h2
    · exact absurd h1.2.1 h2.2.1
    · have e1 := (h.1 v hv).2.2.2.2.2.2.2 (Or.inr (Or.inl h1.1))
      have e2 := (h.1 v' hv').2.2.2.2.2.2.2 (Or.inr (Or.inl h2.1))
      exact src_u h.2 hv hv' (by rw [h1.1]; decide) (by rw [h2.1]; decide) (by rw [← e1, ← e2]; exact h1.2.2.trans h2.2.2.symm)
theorem lk_v {ws : List Sv} (h : okVs ws) {v w w' : Sv} (hw : w ∈ ws) (hw' : w' ∈ ws) (h1 : lkJ v w ∨ lkC v w) (h2 : lkJ v w' ∨ lkC v w') : w = w' := by
  rcases h1 with h1 | h1
  · rcases h2 with h2 | h2
    · exact src_u h.2 hw hw' h1.2.1 h2.2.1 (h1.2.2.symm.trans h2.2.2)
    · exact absurd h2.1 h1.1
  · rcases h2 with h2 | h2
    · exact absurd h1.1 h2.1
    · exact tgt_u h.2 hw hw' (by rw [h1.2.1]; decide) (by rw [h2.2.1]; decide) (h1.2.2.symm.trans h2.2.2)
theorem fTg_lt {vs : List Sv} {bs : List Nat} {v : Sv} (hv : v ∈ vs) (h1 : ¬ v.1 = 1) (e : v.2.1 = bs) : fTg vs bs < vs.length := by
  obtain ⟨i, hi, ei⟩ := memG hv
  have hle := fstI_le (fun i => decide (¬ (vs.getD i sv0).1 = 1 ∧ (vs.getD i sv0).2.1 = bs)) vs.length
  by_cases z : fTg vs bs < vs.length
  · exact z
  · have := fstI_f (p := fun i => decide (¬ (vs.getD i sv0).1 = 1 ∧ (vs.getD i sv0).2.1 = bs)) (n := vs.length) (i := i) (by show i < fTg vs bs; omega)
    exact absurd ⟨by rw [ei]; exact h1, by rw [ei]; exact e⟩ (of_decide_eq_false this)
theorem fSr_lt {vs : List Sv} {bs : List Nat} {v : Sv} (hv : v ∈ vs) (h1 : ¬ v.1 = 0) (e : v.2.2.1 = bs) : fSr vs bs < vs.length := by
  obtain ⟨i, hi, ei⟩ := memG hv
  by_cases z : fSr vs bs < vs.length
  · exact z
  · have := fstI_f (p := fun i => decide (¬ (vs.getD i sv0).1 = 0 ∧ (vs.getD i sv0).2.2.1 = bs)) (n := vs.length) (i := i) (by show i < fSr vs bs; omega)
    exact absurd ⟨by rw [ei]; exact h1, by rw [ei]; exact e⟩ (of_decide_eq_false this)
theorem fDr_lt {vs : List Sv} {bs : List Nat} {v : Sv} (hv : v ∈ vs) (h1 : v.1 = 1) (e : v.2.1 = bs) : fDr vs bs < vs.length := by
  obtain ⟨i, hi, ei⟩ := memG hv
  by_cases z : fDr vs bs < vs.length
  · exact z
  · have := fstI_f (p := fun i => decide ((vs.getD i sv0).1 = 1 ∧ (vs.getD i sv0).2.1 = bs)) (n := vs.length) (i := i) (by show i < fDr vs bs; omega)
    exact absurd ⟨by rw [ei]; exact h1, by rw [ei]; exact e⟩ (of_decide_eq_false this)
/-- the rules -/
def rulC (vs ws : List Sv) : Prop := (∀ w, w ∈ ws → ¬ w.1 = 0 → (∀ v, v ∈ vs → ¬ lkJ v w) → ∀ v, v ∈ vs → ¬ v.1 = 0 → ¬ v.2.2.1 = w.2.2.1) ∧ (∀ v w, v ∈ vs → w ∈ ws → lkJ v w → goV v w) ∧ ∀ v w, v ∈ vs → w ∈ ws → ¬ v.1 = 1 → ¬ w.1 = 1 → v.2.1 = w.2.1 → ∃ w', w' ∈ ws ∧ lkJ v w'
theorem rulC_of {vs ws : List Sv} (hV : okVs vs) (h : cruA vs ws = 0) : rulC vs ws := by
  have hr : ∀ w, w ∈ ws → cruB vs ws w = 0 := by
    have hI : cruI vs ws = ws.length := by
      have hle := fstI_le (fun i => decide (¬ cruB vs ws (ws.getD i sv0) = 0)) ws.length
      by_cases z : cruI vs ws < ws.length
      · unfold cruA at h
        rw [if_pos z] at h
        have := of_decide_eq_true (fstI_t (p := fun i => decide (¬ cruB vs ws (ws.getD i sv0) = 0)) z)
        exact absurd h this
      · exact Nat.le_antisymm hle (by show ws.length ≤ cruI vs ws; omega)
    intro w hw
    obtain ⟨i, hi, ei⟩ := memG hw
    have := fstI_f (p := fun i => decide (¬ cruB vs ws (ws.getD i sv0) = 0)) (n := ws.length) (i := i) (by show i < cruI vs ws; rw [hI]; exact hi)
    rw [← ei]
    exact Classical.not_not.mp (of_decide_eq_false this)
  refine ⟨fun w hw h0 hn v hv hv0 e => ?_, fun v w hv hw hl => ?_, fun v w hv hw h1 h2 e => ?_⟩
  · have := hr w hw
    unfold cruB at this
    have hnt : ¬ fTg vs w.2.2.1 < vs.length := fun z => by
      have := fTg_t z
      exact hn _ (Gmem z) ⟨this.1, h0, this.2⟩
    rw [if_pos ⟨h0, hnt, fSr_lt hv hv0 e⟩] at this
    cases this
  · have hlt := fTg_lt hv hl.1 hl.2.2
    have hg := cruB_g (hr w hw) hl.2.1 hlt
    have ht := fTg_t hlt
    have ev : vs.getD (fTg vs w.2.2.1) sv0 = v := tgt_u hV.2 (Gmem hlt) hv ht.1 hl.1 (ht.2.trans hl.2.2.symm)
    rw [ev] at hg
    exact hg
  · have hc := hr w hw
    have hlt := fTg_lt hv h1 e
    have hT : cruT vs ws w = 0 := by
      unfold cruB at hc
      split at hc
      · cases hc
      · split at hc
        · cases hc
        · exact hc
    unfold cruT at hT
    by_cases z : fSr ws w.2.1 < ws.length
    · have hs := fSr_t z
      exact ⟨_, Gmem z, h1, hs.1, e.trans hs.2.symm⟩
    · rw [if_pos ⟨h2, hlt, z⟩] at hT
      cases hT
/-- what each side makes of one STEP -/
theorem jfV_i {vs ws : List Sv} (hV : okVs vs) (hW : okVs ws) {v b : Sv} (hv : v ∈ vs) : jfV ws v = some b ↔ (∃ w, w ∈ ws ∧ lkJ v w ∧ joLd v w ∧ b = joV v w) ∨ (∃ w, w ∈ ws ∧ lkC v w ∧ b = chgV v w) ∨ (b = v ∧ ∀ w, w ∈ ws → ¬ (lkJ v w ∨ lkC v w)) := by
  unfold jfV
  by_cases c : v.1 = 1
  · rw [if_neg (fun z => z c)]
    by_cases c2 : fTg ws v.2.1 < ws.length ∧ (ws.getD (fTg ws v.2.1) sv0).1 = 0
    · rw [if_pos c2]
      have ht := fTg_t c2.1
      have hl : lkC v (ws.getD (fTg ws v.2.1) sv0) := ⟨c, c2.2, ht.2.symm⟩
      refine ⟨fun e => Or.inr (Or.inl ⟨_, Gmem c2.1, hl, (Option.some.inj e).symm⟩), fun h => ?_⟩
      rcases h with ⟨w, hw, h1, -⟩ | ⟨w, hw, h1, e⟩ | ⟨e, hn⟩
      · exact absurd c h1.1
      · rw [e, lk_v hW hw (Gmem c2.1) (Or.inr h1) (Or.inr hl)]
      · exact absurd (Or.inr hl) (hn _ (Gmem c2.1))
    · rw [if_neg c2]
      have hn : ∀ w, w ∈ ws → ¬ (lkJ v w ∨ lkC v w) := fun w hw z => by
        rcases z with z | z
        · exact z.1 c
        · have hlt := fTg_lt hw (show ¬ w.1 = 1 by rw [z.2.1]; decide) z.2.2.symm
          have ht := fTg_t hlt
          have ew := tgt_u hW.2 (Gmem hlt) hw ht.1 (by rw [z.2.1]; decide) (ht.2.trans z.2.2)
          exact c2 ⟨hlt, by rw [ew]; exact z.2.1⟩
      refine ⟨fun e => Or.inr (Or.inr ⟨(Option.some.inj e).symm, hn⟩), fun h => ?_⟩
      rcases h with ⟨w, hw, h1, -⟩ | ⟨w, hw, h1, e⟩ | ⟨e, -⟩
      · exact absurd (Or.inl h1) (hn w hw)
      · exact absurd (Or.inr h1) (hn w hw)
      · rw [e]
  · rw [if_pos c]
    by_cases c2 : fSr ws v.2.1 < ws.length
    · rw [if_pos c2]
      have ht := fSr_t c2
      have hl : lkJ v (ws.getD (fSr ws v.2.1) sv0) := ⟨c, ht.1, ht.2.symm⟩
      by_cases c3 : joLd v (ws.getD (fSr ws v.2.1) sv0)
      · rw [if_pos c3]
        refine ⟨fun e => Or.inl ⟨_, Gmem c2, hl, c3, (Option.some.inj e).symm⟩, fun h => ?_⟩
        rcases h with ⟨w, hw, h1, h2, e⟩ | ⟨w, hw, h1, e⟩ | ⟨e, hn⟩
        · rw [e, lk_v hW hw (Gmem c2) (Or.inl h1) (Or.inl hl)]
        · exact absurd h1.1 c
        · exact absurd (Or.inl hl) (hn _ (Gmem c2))
      · rw [if_neg c3]
        refine ⟨fun e => (by cases e), fun h => ?_⟩
        rcases h with ⟨w, hw, h1, h2, e⟩ | ⟨w, hw, h1, e⟩ | ⟨e, hn⟩
        · rw [lk_v hW hw (Gmem c2) (Or.inl h1) (Or.inl hl)] at h2
          exact absurd h2 c3
        · exact absurd h1.1 c
        · exact absurd (Or.inl hl) (hn _ (Gmem c2))
    · rw [if_neg c2]
      have hn : ∀ w, w ∈ ws → ¬ (lkJ v w ∨ lkC v w) := fun w hw z => by
        rcases z with z | z
        · exact c2 (fSr_lt hw z.2.1 z.2.2.symm)
        · exact c z.1
      refine ⟨fun e => Or.inr (Or.inr ⟨(Option.some.inj e).symm, hn⟩), fun h => ?_⟩
      rcases h with ⟨w, hw, h1, -⟩ | ⟨w, hw, h1, e⟩ | ⟨e, -⟩
      · exact absurd (Or.inl h1) (hn w hw)
      · exact absurd (Or.inr h1) (hn w hw)
      · rw [e]
theorem isJ_i {vs : List Sv} (hV : okVs vs) {w : Sv} : isJ vs w = true ↔ ∃ v, v ∈ vs ∧ (lkJ v w ∨ lkC v w) := by
  unfold isJ
  by_cases c : w.1 = 0
  · rw [if_neg (fun z => z c), decide_eq_true_iff]
    refine ⟨fun h => ?_, fun ⟨v, hv, h⟩ => ?_⟩
    · have hs := fSr_t h.1
      have e := (hV.1 _ (Gmem h.1)).2.2.2.2.2.2.2 (Or.inr (Or.inl h.2))
      exact ⟨_, Gmem h.1, Or.inr ⟨h.2, c, e.trans hs.2⟩⟩
    · rcases h with h | h
      · exact absurd c h.2.1
      · have e := (hV.1 _ hv).2.2.2.2.2.2.2 (Or.inr (Or.inl h.1))
        have h0 : ¬ v.1 = 0 := by rw [h.1]; decide
        have es : v.2.2.1 = w.2.1 := e.symm.trans h.2.2
        have hlt := fSr_lt hv h0 es
        have hs := fSr_t hlt
        have ev := src_u hV.2 (Gmem hlt) hv hs.1 h0 (hs.2.trans es.symm)
        exact ⟨hlt, by rw [ev]; exact h.1⟩
  · rw [if_pos c, decide_eq_true_iff]
    refine ⟨fun h => ?_, fun ⟨v, hv, h⟩ => ?_⟩
    · have ht := fTg_t h
      exact ⟨_, Gmem h, Or.inl ⟨ht.1, c, ht.2⟩⟩
    · rcases h with h | h
      · exact fTg_lt hv h.1 h.2.2
      · exact absurd h.2.1 c
theorem cnO_i {vs ws : List Sv} (hV : okVs vs) {w b : Sv} : cnO vs w = some b ↔ (∃ v, v ∈ vs ∧ lkJ v w ∧ joLd v w ∧ b = joV v w) ∨ (∃ v, v ∈ vs ∧ lkC v w ∧ b = chgV v w) ∨ (b = w ∧ ∀ v, v ∈ vs → ¬ (lkJ v w ∨ lkC v w)) := by
  unfold cnO
  by_cases c : ¬ w.1 = 0 ∧ fTg vs w.2.2.1 < vs.length
  · rw [if_pos c]
    have ht := fTg_t c.2
    have hl : lkJ (vs.getD (fTg vs w.2.2.1) sv0) w := ⟨ht.1, c.1, ht.2⟩
    by_cases c3 : joLd (vs.getD (fTg vs w.2.2.1) sv0) w
    · rw [if_pos c3]
      refine ⟨fun e => Or.inl ⟨_, Gmem c.2, hl, c3, (Option.some.inj e).symm⟩, fun h => ?_⟩
      rcases h with ⟨v, hv, h1, h2, e⟩ | ⟨v, hv, h1, e⟩ | ⟨e, hn⟩
      · rw [e, lk_w hV hv (Gmem c.2) (Or.inl h1) (Or.inl hl)]
      · exact absurd h1.2.1 c.1
      · exact absurd (Or.inl hl) (hn _ (Gmem c.2))
    · rw [if_neg c3]
      refine ⟨fun e => (by cases e), fun h => ?_⟩
      rcases h with ⟨v, hv, h1, h2, e⟩ | ⟨v, hv, h1, e⟩ | ⟨e, hn⟩
      · rw [lk_w hV hv (Gmem c.2) (Or.inl h1) (Or.inl hl)] at h2
        exact absurd h2 c3
      · exact absurd h1.2.1 c.1
      · exact absurd (Or.inl hl) (hn _ (Gmem c.2))
  · rw [if_neg c]
    by_cases c2 : w.1 = 0 ∧ fDr vs w.2.1 < vs.length
    · rw [if_pos c2]
      have ht := fDr_t c2.2
      have hl : lkC (vs.getD (fDr vs w.2.1) sv0) w := ⟨ht.1, c2.1, ht.2⟩
      refine ⟨fun e => Or.inr (Or.inl ⟨_, Gmem c2.2, hl, (Option.some.inj e).symm⟩), fun h => ?_⟩
      rcases h with ⟨v, hv, h1, -⟩ | ⟨v, hv, h1, e⟩ | ⟨e, hn⟩
      · exact absurd c2.1 h1.2.1
      · rw [e, lk_w hV hv (Gmem c2.2) (Or.inr h1) (Or.inr hl)]
      · exact absurd (Or.inr hl) (hn _ (Gmem c2.2))
    · rw [if_neg c2]
      have hn : ∀ v, v ∈ vs → ¬ (lkJ v w ∨ lkC v w) := fun v hv z => by
        rcases z with z | z
        · exact c ⟨z.2.1, fTg_lt hv z.1 z.2.2⟩
        · exact c2 ⟨z.2.1, fDr_lt hv z.1 z.2.2⟩
      refine ⟨fun e => Or.inr (Or.inr ⟨(Option.some.inj e).symm, hn⟩), fun h => ?_⟩
      rcases h with ⟨v, hv, h1, -⟩ | ⟨v, hv, h1, e⟩ | ⟨e, -⟩
      · exact absurd (Or.inl h1) (hn v hv)
      · exact absurd (Or.inr h1) (hn v hv)
      · rw [e]
theorem cnK_i {vs : List Sv} (hV : okVs vs) {w : Sv} {k : Nat} (hk : k < vs.length) : cnK vs w = k ↔ (lkJ (vs.getD k sv0) w ∨ lkC (vs.getD k sv0) w) := by
  have hinj : ∀ i, i < vs.length → vs.getD i sv0 = vs.getD k sv0 → i = k := fun i hi e => by
    by_cases c : i = k
    · exact c
    · by_cases c2 : i < k
      · have := pwG hV.2 c2 hk
        rw [e] at this
        exact (dsR_i this).elim
      · have := pwG hV.2 (show k < i by omega) hi
        rw [e] at this
        exact (dsR_i this).elim
  unfold cnK
  by_cases c : ¬ w.1 = 0 ∧ fTg vs w.2.2.1 < vs.length
  · rw [if_pos c]
    have ht := fTg_t c.2
    have hl : lkJ (vs.getD (fTg vs w.2.2.1) sv0) w := ⟨ht.1, c.1, ht.2⟩
    refine ⟨fun e => by rw [← e]; exact Or.inl hl, fun h => ?_⟩
    exact hinj _ c.2 (lk_w hV (Gmem c.2) (Gmem hk) (Or.inl hl) h)
  · rw [if_neg c]
    by_cases c2 : w.1 = 0 ∧ fDr vs w.2.1 < vs.length
    · rw [if_pos c2]
      have ht := fDr_t c2.2
      have hl : lkC (vs.getD (fDr vs w.2.1) sv0) w := ⟨ht.1, c2.1, ht.2⟩
      refine ⟨fun e => by rw [← e]; exact Or.inr hl, fun h => ?_⟩
      exact hinj _ c2.2 (lk_w hV (Gmem c2.2) (Gmem hk) (Or.inr hl) h)
    · rw [if_neg c2]
      refine ⟨fun e => by omega, fun h => ?_⟩
      rcases h with z | z
      · exact absurd ⟨z.2.1, fTg_lt (Gmem hk) z.1 z.2.2⟩ c
      · exact absurd ⟨z.2.1, fDr_lt (Gmem hk) z.1 z.2.2⟩ c2
theorem cnT_i {vs ws : List Sv} (hV : okVs vs) {k : Nat} (hk : k < vs.length) : cnT vs ws k = true ↔ ∃ w, w ∈ ws ∧ (lkJ (vs.getD k sv0) w ∨ lkC (vs.getD k sv0) w) := by
  unfold cnT
  rw [List.any_eq_true]
  exact ⟨fun ⟨w, hw, h⟩ => ⟨w, hw, (cnK_i hV hk).mp (of_decide_eq_true h)⟩, fun ⟨w, hw, h⟩ => ⟨w, hw, decide_eq_true ((cnK_i hV hk).mpr h)⟩⟩
theorem cnU_i {vs ws : List Sv} (hV : okVs vs) {b : Sv} : b ∈ cnU vs ws vs.length ↔ b ∈ vs ∧ ∀ w, w ∈ ws → ¬ (lkJ b w ∨ lkC b w) := by
  unfold cnU
  rw [List.mem_map]
  refine ⟨fun ⟨k, hk, e⟩ => ?_, fun ⟨hb, hn⟩ => ?_⟩
  · have h1 := List.mem_filter.mp hk
    have h2 := List.mem_range.mp h1.1
    have h3 : cnT vs ws k = false := by
      have := h1.2
      cases hc : cnT vs ws k
      · rfl
      · rw [hc] at this; cases this
    rw [← e]
    refine ⟨Gmem h2, fun w hw z => ?_⟩
    have := (cnT_i hV h2).mpr ⟨w, hw, z⟩
    rw [h3] at this; cases this
  · obtain ⟨k, hk, e⟩ := memG hb
    refine ⟨k, List.mem_filter.mpr ⟨List.mem_range.mpr hk, ?_⟩, e⟩
    have : cnT vs ws k = false := by
      cases hc : cnT vs ws k
      · rfl
      · obtain ⟨w, hw, z⟩ := (cnT_i hV hk).mp hc
        rw [e] at z
        exact absurd z (hn w hw)
    show (!cnT vs ws k) = true
    rw [this]; rfl
def chX (vs ws : List Sv) : List Sv := vs.filterMap (jfV ws) ++ ws.filterMap (fun w => if isJ vs w = true then none else some w)
theorem chX_m {vs ws : List Sv} (hV : okVs vs) (hW : okVs ws) (b : Sv) : b ∈ chX vs ws ↔ b ∈ cnM vs ws := by
  have hx2 : b ∈ ws.filterMap (fun w => if isJ vs w = true then none else some w) ↔ b ∈ ws ∧ ∀ v, v ∈ vs → ¬ (lkJ v b ∨ lkC v b) := by
    rw [List.mem_filterMap]
    refine ⟨fun ⟨w, hw, e⟩ => ?_, fun ⟨hb, hn⟩ => ⟨b, hb, ?_⟩⟩
    · split at e
      · cases e
      · rename_i hj
        have e := Option.some.inj e
        subst e
        exact ⟨hw, fun v hv z => hj ((isJ_i hV).mpr ⟨v, hv, z⟩)⟩
    · rw [if_neg (fun z => by obtain ⟨v, hv, q⟩ := (isJ_i hV).mp z; exact hn v hv q)]
  unfold chX cnM
  rw [List.mem_append, List.mem_append, hx2, cnU_i hV, List.mem_filterMap, List.mem_filterMap]
  refine ⟨fun h => ?_, fun h => ?_⟩
  · rcases h with ⟨v, hv, h⟩ | ⟨hb, hn⟩
    · rcases (jfV_i hV hW hv).mp h with ⟨w, hw, h1, h2, e⟩ | ⟨w, hw, h1, e⟩ | ⟨e, hn⟩
      · exact Or.inl ⟨w, hw, (cnO_i (ws := ws) hV).mpr (Or.inl ⟨v, hv, h1, h2, e⟩)⟩
      · exact Or.inl ⟨w, hw, (cnO_i (ws := ws) hV).mpr (Or.inr (Or.inl ⟨v, hv, h1, e⟩))⟩
      · rw [e]; exact Or.inr ⟨hv, hn⟩
    · exact Or.inl ⟨b, hb, (cnO_i (ws := ws) hV).mpr (Or.inr (Or.inr ⟨rfl, hn⟩))⟩
  · rcases h with ⟨w, hw, h⟩ | ⟨hb, hn⟩
    · rcases (cnO_i (ws := ws) hV).mp h with ⟨v, hv, h1, h2, e⟩ | ⟨v, hv, h1, e⟩ | ⟨e, hn⟩
      · exact Or.inl ⟨v, hv, (jfV_i hV hW hv).mpr (Or.inl ⟨w, hw, h1, h2, e⟩)⟩
      · exact Or.inl ⟨v, hv, (jfV_i hV hW hv).mpr (Or.inr (Or.inl ⟨w, hw, h1, e⟩))⟩
      · rw [e]; exact Or.inr ⟨hw, hn⟩
    · exact Or.inl ⟨b, hb, (jfV_i hV hW hb).mpr (Or.inr (Or.inr ⟨rfl, hn⟩))⟩
