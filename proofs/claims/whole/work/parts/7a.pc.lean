/-! 7a PatchChains: its state -/
def bel (Λ : yL) (r a : Nat) : Prop := a = r ∨ own Λ a = r ∨ own Λ (own Λ a) = r
/-- what belongs to the components R, and the Weaver's and the Differ's rows -/
abbrev AX (Λ : yL) (R : Nat → Prop) : Nat → Nat → Prop := fun c a => c = 6 ∨ c = 7 ∨ ∃ r, R r ∧ bel Λ r a
/-- a component of x -/
def yCo (Λ : yL) (x r : Nat) : Prop := own Λ r = x ∧ r ≠ x
abbrev Ab : Type := List Nat × List Nat × List (List Fl) × List (List Sv) × List (Nat × Nat) × Dv
abbrev xq0 (Λ : yL) (x : Nat) : Nat := Λ.2.1 0 0 x
abbrev xq1 (Λ : yL) (x : Nat) : Nat := Λ.2.1 0 1 x
abbrev xq4 (Λ : yL) (x : Nat) : Nat := Λ.2.1 0 4 x
abbrev xq5 (Λ : yL) (x : Nat) : Nat := Λ.2.1 0 5 x
abbrev xq6 (Λ : yL) (x : Nat) : Nat := Λ.2.1 0 6 x
/-- the layout -/
def yLay (Λ : yL) (x : Nat) (T P : Nat → Nat) : Prop := yW Λ ∧ (yo Λ x 0 ∧ own Λ x = x) ∧ (yB Λ (xq0 Λ x) 80 ∧ yCo Λ x (xq0 Λ x)) ∧ (yB Λ (xq1 Λ x) 17 ∧ yCo Λ x (xq1 Λ x)) ∧ xq0 Λ x ≠ xq1 Λ x ∧ (yr Λ (Λ.2.1 0 2 x) 0 2 x 4 12 ∧ yr Λ (Λ.2.1 0 3 x) 0 3 x 6 8) ∧ (yDf Λ (xq4 Λ x) ∧ yCo Λ x (xq4 Λ x)) ∧ (yAp Λ (xq5 Λ x) ∧ yCo Λ x (xq5 Λ x)) ∧ (yDk Λ (xq6 Λ x) ∧ yCo Λ x (xq6 Λ x)) ∧ (∀ t, t < 12 → yCo Λ x (T t) ∧ yo Λ (T t) 2) ∧ (∀ t t', t < 12 → t' < 12 → T t = T t' → t = t') ∧ (∀ p, p < 8 → yCo Λ x (P p) ∧ yo Λ (P p) 5) ∧ ∀ p p', p < 8 → p' < 8 → P p = P p' → p = p'
def QB (Λ : yL) (S : yS) (x : Nat) (bs cs : List Nat) : Prop := yBv S (xq0 Λ x) 80 bs ∧ yBv S (xq1 Λ x) 17 cs
def QT (Λ : yL) (S : yS) (x : Nat) (T : Nat → Nat) (ts : List (List Fl)) : Prop := (∀ t, t < 12 → yR S 0 2 x t = some (T t) ∧ ∃ fs, yTv Λ S (T t) fs) ∧ ts.length ≤ 12 ∧ yI S 0 7 x = nI ts.length ∧ ∀ t, t < ts.length → yTv Λ S (T t) (ts.getD t [])
def QP (Λ : yL) (S : yS) (x : Nat) (P : Nat → Nat) (ps : List (List Sv)) : Prop := (∀ p, p < 8 → yR S 0 3 x p = some (P p) ∧ ∃ vs Q, yPq Λ S (P p) vs Q) ∧ ps.length ≤ 8 ∧ yI S 0 8 x = nI ps.length ∧ ∀ p, p < ps.length → ∃ Q, yPq Λ S (P p) (ps.getD p []) Q
/-- the other object stays as it was -/
def yM0 (Λ : yL) (E0 : yS × Nat) (S : yS) : Prop := yo Λ E0.2 11 ∧ own Λ E0.2 = E0.2 ∧ ∀ j, yI S 11 j E0.2 = yI E0.1 11 j E0.2 ∧ yA S 11 j E0.2 = yA E0.1 11 j E0.2
def yQ (Λ : yL) (E0 : yS × Nat) (S : yS) (x : Nat) (T P C Lx : Nat → Nat) (PL : Nat → Nat → Nat) (B : Ab) : Prop := yLay Λ x T P ∧ QB Λ S x B.1 B.2.1 ∧ QT Λ S x T B.2.2.1 ∧ QP Λ S x P B.2.2.2.1 ∧ yDl Λ S (xq4 Λ x) ∧ yCf S (xq5 Λ x) B.2.2.2.2.1 ∧ yKv Λ S (xq6 Λ x) C Lx PL B.2.2.2.2.2 ∧ yM0 Λ E0 S
section
variable {Λ : yL} {f0 : xH} {S S' : yS} {x r a c i d t p : Nat} {T P C Lx Q : Nat → Nat} {PL : Nat → Nat → Nat} {B : Ab} {R : Nat → Prop} {fs : List Fl} {vs : List Sv} {ts : List (List Fl)} {ps : List (List Sv)} {bs cs : List Nat} {cl : List (Nat × Nat)} {D : Dv} {n : Nat} {y : Int32} {E0 : yS × Nat} {post : Option Value → xH → Prop}
theorem yCo_top (hx : yo Λ x 0 ∧ own Λ x = x) (h : yCo Λ x r) : yTop Λ r := ⟨by rw [h.1]; exact hx.1, by rw [h.1]; exact hx.2⟩
theorem AX_n (hx : yo Λ x 0 ∧ own Λ x = x) (hR : ∀ r, R r → yCo Λ x r) (hr : yCo Λ x r) (hn : ¬ R r) (hc : c ≠ 6 ∧ c ≠ 7) (hb : bel Λ r a) : ¬ AX Λ R c a := by
  rintro (z | z | ⟨s, hs, z⟩)
  · exact hc.1 z
  · exact hc.2 z
  · have hrs : r ≠ s := fun e => hn (by rw [e]; exact hs)
    obtain ⟨h1, h2⟩ := hR s hs
    rcases hb with hb | hb | hb <;> rcases z with z | z | z
    · exact hrs (hb.symm.trans z)
    · rw [hb, hr.1] at z; exact h2 z.symm
    · rw [hb, hr.1, hx.2] at z; exact h2 z.symm
    · rw [z, h1] at hb; exact hr.2 hb.symm
    · exact hrs (hb.symm.trans z)
    · rw [hb, hr.1] at z; exact h2 z.symm
    · rw [z, h1, hx.2] at hb; exact hr.2 hb.symm
    · rw [z, h1] at hb; exact hr.2 hb.symm
    · exact hrs (hb.symm.trans z)
theorem AX_x (hx : yo Λ x 0 ∧ own Λ x = x) (hR : ∀ r, R r → yCo Λ x r) : ¬ AX Λ R 0 x := by
  rintro (z | z | ⟨s, hs, z⟩)
  · exact absurd z (by decide)
  · exact absurd z (by decide)
  · obtain ⟨h1, h2⟩ := hR s hs
    rcases z with z | z | z
    · exact h2 z.symm
    · rw [hx.2] at z; exact h2 z.symm
    · rw [hx.2, hx.2] at z; exact h2 z.symm
theorem Bv_AX (hx : yo Λ x 0 ∧ own Λ x = x) (hR : ∀ r, R r → yCo Λ x r) (k : yFr (AX Λ R) S S') (hr : yCo Λ x r) (hn : ¬ R r) (h : yBv S r n bs) : yBv S' r n bs := yFr_Bv k (AX_n hx hR hr hn ⟨by decide, by decide⟩ (Or.inl rfl)) h
theorem Tv_AX (hx : yo Λ x 0 ∧ own Λ x = x) (hR : ∀ r, R r → yCo Λ x r) (k : yFr (AX Λ R) S S') (hr : yCo Λ x r) (hn : ¬ R r) (h : yTv Λ S r fs) : yTv Λ S' r fs := yFr_Tv k (AX_n hx hR hr hn ⟨by decide, by decide⟩ (Or.inl rfl)) (fun _ _ _ hb => AX_n hx hR hr hn ⟨by decide, by decide⟩ (Or.inr (Or.inl hb))) h
theorem Pq_AX (hx : yo Λ x 0 ∧ own Λ x = x) (hR : ∀ r, R r → yCo Λ x r) (k : yFr (AX Λ R) S S') (hr : yCo Λ x r) (hn : ¬ R r) (h : yPq Λ S r vs Q) : yPq Λ S' r vs Q := yFr_Pq k (AX_n hx hR hr hn ⟨by decide, by decide⟩ (Or.inl rfl)) (fun _ hb => AX_n hx hR hr hn ⟨by decide, by decide⟩ (Or.inr (Or.inl hb))) (fun _ hb => ⟨AX_n hx hR hr hn ⟨by decide, by decide⟩ (Or.inr (Or.inr hb)), AX_n hx hR hr hn ⟨by decide, by decide⟩ (Or.inr (Or.inr hb))⟩) h
theorem Cf_AX (hx : yo Λ x 0 ∧ own Λ x = x) (hR : ∀ r, R r → yCo Λ x r) (k : yFr (AX Λ R) S S') (hr : yCo Λ x r) (hn : ¬ R r) (h : yCf S r cl) : yCf S' r cl := yCf_fr k (AX_n hx hR hr hn ⟨by decide, by decide⟩ (Or.inl rfl)) h
theorem Kv_AX (hx : yo Λ x 0 ∧ own Λ x = x) (hR : ∀ r, R r → yCo Λ x r) (k : yFr (AX Λ R) S S') (hr : yCo Λ x r) (hn : ¬ R r) (h : yKv Λ S r C Lx PL D) : yKv Λ S' r C Lx PL D := by
  have nk : ¬ AX Λ R 10 r := AX_n hx hR hr hn ⟨by decide, by decide⟩ (Or.inl rfl)
  obtain ⟨⟨a1, a2, a3, a4, a5⟩, b, c, f⟩ := h
  refine ⟨⟨a1, fun s hs => ⟨?_, (a2 s hs).2⟩, a3, fun i hi => ⟨?_, (a4 i hi).2⟩, a5⟩, fun s hs => ⟨?_, ?_⟩, fun i hi => ?_, ?_⟩
  · rw [(k 10 0 r nk).2.2]; exact (a2 s hs).1
  · rw [(k 10 2 r nk).2.2]; exact (a4 i hi).1
  · exact yFr_Bv k (AX_n hx hR hr hn ⟨by decide, by decide⟩ (Or.inr (Or.inl (a2 s hs).2.2))) (b s hs).1
  · rw [(k 10 1 r nk).2.1]; exact (b s hs).2
  · exact yLv_fr k (AX_n hx hR hr hn ⟨by decide, by decide⟩ (Or.inr (Or.inl (a4 i hi).2.1))) (fun b cap hB hb => AX_n hx hR hr hn ⟨by decide, by decide⟩ (Or.inr (Or.inr (by rw [hb]; exact (a4 i hi).2.1)))) (c i hi)
  · refine ⟨f.1, ?_, ?_, ?_, ?_⟩
    · rw [(k 10 4 r nk).1]; exact f.2.1
    · rw [(k 10 5 r nk).1]; exact f.2.2.1
    · rw [(k 10 6 r nk).1]; exact f.2.2.2.1
    · rw [(k 10 7 r nk).1]; exact f.2.2.2.2
theorem M0_AX (hx : yo Λ x 0 ∧ own Λ x = x) (hR : ∀ r, R r → yCo Λ x r) (k : yFr (AX Λ R) S S') (h : yM0 Λ E0 S) : yM0 Λ E0 S' := by
  have n : ¬ AX Λ R 11 E0.2 := by
    rintro (z | z | ⟨r, hr, z⟩)
    · exact absurd z (by decide)
    · exact absurd z (by decide)
    · have e : E0.2 = r := by
        rcases z with z | z | z
        · exact z
        · rw [h.2.1] at z; exact z
        · rw [h.2.1, h.2.1] at z; exact z
      have := (hR r hr).1
      rw [← e, h.2.1] at this
      exact yo_ne h.1 hx.1 (by decide) this
  exact ⟨h.1, h.2.1, fun j => ⟨by rw [(k 11 j _ n).1]; exact (h.2.2 j).1, by rw [(k 11 j _ n).2.1]; exact (h.2.2 j).2⟩⟩
theorem QB_fr (hL : yLay Λ x T P) (hR : ∀ r, R r → yCo Λ x r) (k : yFr (AX Λ R) S S') (h0 : ¬ R (xq0 Λ x)) (h1 : ¬ R (xq1 Λ x)) (h : QB Λ S x bs cs) : QB Λ S' x bs cs := ⟨Bv_AX hL.2.1 hR k hL.2.2.1.2 h0 h.1, Bv_AX hL.2.1 hR k hL.2.2.2.1.2 h1 h.2⟩
theorem QT_set (hL : yLay Λ x T P) (hR : ∀ r, R r → yCo Λ x r) (k : yFr (AX Λ R) S S') {i : Nat} (hn : ∀ t, t < 12 → t ≠ i → ¬ R (T t)) (hT : yTv Λ S' (T i) fs) (h : QT Λ S x T ts) : QT Λ S' x T (ts.set i fs) := by
  have hTc := hL.2.2.2.2.2.2.2.2.2.1
  refine ⟨fun t ht => ⟨?_, ?_⟩, by rw [List.length_set]; exact h.2.1, ?_, fun t ht => ?_⟩
  · rw [(k 0 2 x (AX_x hL.2.1 hR)).2.2]; exact (h.1 t ht).1
  · by_cases e : t = i
    · rw [e]; exact ⟨fs, hT⟩
    · obtain ⟨gs, hg⟩ := (h.1 t ht).2
      exact ⟨gs, Tv_AX hL.2.1 hR k (hTc t ht).1 (hn t ht e) hg⟩
  · rw [List.length_set, (k 0 7 x (AX_x hL.2.1 hR)).1]; exact h.2.2.1
  · rw [List.length_set] at ht
    have ht' : t < 12 := Nat.lt_of_lt_of_le ht h.2.1
    rw [List.getD_eq_getElem?_getD, List.getElem?_set]
    by_cases e : i = t
    · rw [if_pos e, if_pos (by omega)]
      rw [e] at hT
      exact hT
    · rw [if_neg e, ← List.getD_eq_getElem?_getD]
      exact Tv_AX hL.2.1 hR k (hTc t ht').1 (hn t ht' (fun z => e z.symm)) (h.2.2.2 t ht)
theorem QT_fr (hL : yLay Λ x T P) (hR : ∀ r, R r → yCo Λ x r) (k : yFr (AX Λ R) S S') (hn : ∀ t, t < 12 → ¬ R (T t)) (h : QT Λ S x T ts) : QT Λ S' x T ts := by
  have hTc := hL.2.2.2.2.2.2.2.2.2.1
  refine ⟨fun t ht => ⟨?_, ?_⟩, h.2.1, ?_, fun t ht => ?_⟩
  · rw [(k 0 2 x (AX_x hL.2.1 hR)).2.2]; exact (h.1 t ht).1
  · obtain ⟨gs, hg⟩ := (h.1 t ht).2
    exact ⟨gs, Tv_AX hL.2.1 hR k (hTc t ht).1 (hn t ht) hg⟩
  · rw [(k 0 7 x (AX_x hL.2.1 hR)).1]; exact h.2.2.1
  · have ht' : t < 12 := Nat.lt_of_lt_of_le ht h.2.1
    exact Tv_AX hL.2.1 hR k (hTc t ht').1 (hn t ht') (h.2.2.2 t ht)
theorem QP_set (hL : yLay Λ x T P) (hR : ∀ r, R r → yCo Λ x r) (k : yFr (AX Λ R) S S') {i : Nat} (hn : ∀ t, t < 8 → t ≠ i → ¬ R (P t)) (hT : yPq Λ S' (P i) vs Q) (h : QP Λ S x P ps) : QP Λ S' x P (ps.set i vs) := by
  have hTc := hL.2.2.2.2.2.2.2.2.2.2.2.1
  refine ⟨fun t ht => ⟨?_, ?_⟩, by rw [List.length_set]; exact h.2.1, ?_, fun t ht => ?_⟩
  · rw [(k 0 3 x (AX_x hL.2.1 hR)).2.2]; exact (h.1 t ht).1
  · by_cases e : t = i
    · rw [e]; exact ⟨vs, Q, hT⟩
    · obtain ⟨gs, Q', hg⟩ := (h.1 t ht).2
      exact ⟨gs, Q', Pq_AX hL.2.1 hR k (hTc t ht).1 (hn t ht e) hg⟩
  · rw [List.length_set, (k 0 8 x (AX_x hL.2.1 hR)).1]; exact h.2.2.1
  · rw [List.length_set] at ht
    have ht' : t < 8 := Nat.lt_of_lt_of_le ht h.2.1
    rw [List.getD_eq_getElem?_getD, List.getElem?_set]
    by_cases e : i = t
    · rw [if_pos e, if_pos (by omega)]
      rw [e] at hT
      exact ⟨Q, hT⟩
    · rw [if_neg e, ← List.getD_eq_getElem?_getD]
      obtain ⟨Q', hg⟩ := h.2.2.2 t ht
      exact ⟨Q', Pq_AX hL.2.1 hR k (hTc t ht').1 (hn t ht' (fun z => e z.symm)) hg⟩
theorem QP_fr (hL : yLay Λ x T P) (hR : ∀ r, R r → yCo Λ x r) (k : yFr (AX Λ R) S S') (hn : ∀ t, t < 8 → ¬ R (P t)) (h : QP Λ S x P ps) : QP Λ S' x P ps := by
  have hTc := hL.2.2.2.2.2.2.2.2.2.2.2.1
  refine ⟨fun t ht => ⟨?_, ?_⟩, h.2.1, ?_, fun t ht => ?_⟩
  · rw [(k 0 3 x (AX_x hL.2.1 hR)).2.2]; exact (h.1 t ht).1
  · obtain ⟨gs, Q', hg⟩ := (h.1 t ht).2
    exact ⟨gs, Q', Pq_AX hL.2.1 hR k (hTc t ht).1 (hn t ht) hg⟩
  · rw [(k 0 8 x (AX_x hL.2.1 hR)).1]; exact h.2.2.1
  · have ht' : t < 8 := Nat.lt_of_lt_of_le ht h.2.1
    obtain ⟨Q', hg⟩ := h.2.2.2 t ht
    exact ⟨Q', Pq_AX hL.2.1 hR k (hTc t ht').1 (hn t ht') hg⟩
/-- the components are of different classes -/
theorem Lay_c (hL : yLay Λ x T P) : yo Λ (xq0 Λ x) 1 ∧ yo Λ (xq1 Λ x) 1 ∧ yo Λ (xq5 Λ x) 8 ∧ yo Λ (xq6 Λ x) 10 ∧ (∀ t, t < 12 → yo Λ (T t) 2) ∧ ∀ p, p < 8 → yo Λ (P p) 5 := ⟨hL.2.2.1.1.1, hL.2.2.2.1.1.1, hL.2.2.2.2.2.2.2.1.1.1, hL.2.2.2.2.2.2.2.2.1.1.1, fun t ht => (hL.2.2.2.2.2.2.2.2.2.1 t ht).2, fun t ht => (hL.2.2.2.2.2.2.2.2.2.2.2.1 t ht).2⟩
/-- a TREE has changed -/
theorem yQ_T (h : yQ Λ E0 S x T P C Lx PL B) {i : Nat} (hi : i < 12) (k : yFr (AT Λ (T i)) S S') (hT : yTv Λ S' (T i) fs) : yQ Λ E0 S' x T P C Lx PL (B.1, B.2.1, B.2.2.1.set i fs, B.2.2.2) := by
  obtain ⟨hL, hB, hTT, hP, hD, hC, hK, hM⟩ := h
  obtain ⟨c0, c1, c5, c6, cT, cP⟩ := Lay_c hL
  have hR : ∀ r, (fun r => r = T i) r → yCo Λ x r := fun r e => by rw [show r = T i from e]; exact (hL.2.2.2.2.2.2.2.2.2.1 i hi).1
  have k' : yFr (AX Λ (fun r => r = T i)) S S' := yFr_mo k (fun c a z => Or.inr (Or.inr ⟨T i, rfl, z.elim Or.inl (fun z => Or.inr (Or.inl z))⟩))
  refine ⟨hL, QB_fr hL hR k' (yo_ne c0 (cT i hi) (by decide)) (yo_ne c1 (cT i hi) (by decide)) hB, QT_set hL hR k' (fun t ht e z => e (hL.2.2.2.2.2.2.2.2.2.2.1 t i ht hi z)) hT hTT, QP_fr hL hR k' (fun t ht => yo_ne (cP t ht) (cT i hi) (by decide)) hP, fun j hj => ?_, Cf_AX hL.2.1 hR k' hL.2.2.2.2.2.2.2.1.2 (yo_ne c5 (cT i hi) (by decide)) hC, Kv_AX hL.2.1 hR k' hL.2.2.2.2.2.2.2.2.1.2 (yo_ne c6 (cT i hi) (by decide)) hK, M0_AX hL.2.1 hR k' hM⟩
  have n7 : ¬ AT Λ (T i) 7 (xq4 Λ x) := by
    rintro (z | z)
    · exact yo_ne hL.2.2.2.2.2.2.1.1.1 (cT i hi) (by decide) z
    · rw [hL.2.2.2.2.2.2.1.2.1] at z; exact yo_ne hL.2.1.1 (cT i hi) (by decide) z
  rw [(k 7 3 _ n7).2.2]
  exact hD j hj
/-- a PATCH has changed -/
theorem yQ_P (h : yQ Λ E0 S x T P C Lx PL B) {i : Nat} (hi : i < 8) (k : yFr (AD Λ (P i)) S S') (hD' : yDl Λ S' (xq4 Λ x)) (hT : yPq Λ S' (P i) vs Q) : yQ Λ E0 S' x T P C Lx PL (B.1, B.2.1, B.2.2.1, B.2.2.2.1.set i vs, B.2.2.2.2) := by
  obtain ⟨hL, hB, hTT, hP, hD, hC, hK, hM⟩ := h
  obtain ⟨c0, c1, c5, c6, cT, cP⟩ := Lay_c hL
  have hR : ∀ r, (fun r => r = P i) r → yCo Λ x r := fun r e => by rw [show r = P i from e]; exact (hL.2.2.2.2.2.2.2.2.2.2.2.1 i hi).1
  have k' : yFr (AX Λ (fun r => r = P i)) S S' := yFr_mo k (fun c a z => by
    rcases z with z | z | z
    · exact Or.inr (Or.inl z)
    · exact Or.inl z
    · exact Or.inr (Or.inr ⟨P i, rfl, z⟩))
  exact ⟨hL, QB_fr hL hR k' (yo_ne c0 (cP i hi) (by decide)) (yo_ne c1 (cP i hi) (by decide)) hB, QT_fr hL hR k' (fun t ht => yo_ne (cT t ht) (cP i hi) (by decide)) hTT, QP_set hL hR k' (fun t ht e z => e (hL.2.2.2.2.2.2.2.2.2.2.2.2 t i ht hi z)) hT hP, hD', Cf_AX hL.2.1 hR k' hL.2.2.2.2.2.2.2.1.2 (yo_ne c5 (cP i hi) (by decide)) hC, Kv_AX hL.2.1 hR k' hL.2.2.2.2.2.2.2.2.1.2 (yo_ne c6 (cP i hi) (by decide)) hK, M0_AX hL.2.1 hR k' hM⟩
theorem Dl_AP (hL : yLay Λ x T P) {i : Nat} (hi : i < 8) (k : yFr (AP Λ (P i)) S S') (h : yDl Λ S (xq4 Λ x)) : yDl Λ S' (xq4 Λ x) := fun j hj => by
  obtain ⟨c0, c1, c5, c6, cT, cP⟩ := Lay_c hL
  have n7 : ¬ AP Λ (P i) 7 (xq4 Λ x) := by
    rintro (z | z | z | z)
    · exact absurd z (by decide)
    · exact yo_ne hL.2.2.2.2.2.2.1.1.1 (cP i hi) (by decide) z
    · rw [hL.2.2.2.2.2.2.1.2.1] at z; exact yo_ne hL.2.1.1 (cP i hi) (by decide) z
    · rw [hL.2.2.2.2.2.2.1.2.1, hL.2.1.2] at z; exact yo_ne hL.2.1.1 (cP i hi) (by decide) z
  rw [(k 7 3 _ n7).2.2]
  exact h j hj
/-- an APPLICATION -/
theorem yQ_A (h : yQ Λ E0 S x T P C Lx PL B) {i : Nat} (hi : i < 12) (k : yFr (AR Λ (xq5 Λ x) (T i)) S S') (hT : yTv Λ S' (T i) fs) (hC' : yCf S' (xq5 Λ x) cl) : yQ Λ E0 S' x T P C Lx PL (B.1, B.2.1, B.2.2.1.set i fs, B.2.2.2.1, cl, B.2.2.2.2.2) := by
  obtain ⟨hL, hB, hTT, hP, hD, hC, hK, hM⟩ := h
  obtain ⟨c0, c1, c5, c6, cT, cP⟩ := Lay_c hL
  have hR : ∀ r, (fun r => r = xq5 Λ x ∨ r = T i) r → yCo Λ x r := fun r e => by
    rcases (show r = xq5 Λ x ∨ r = T i from e) with e | e
    · rw [e]; exact hL.2.2.2.2.2.2.2.1.2
    · rw [e]; exact (hL.2.2.2.2.2.2.2.2.2.1 i hi).1
  have k' : yFr (AX Λ (fun r => r = xq5 Λ x ∨ r = T i)) S S' := yFr_mo k (fun c a z => by
    rcases z with z | z | z | z
    · exact Or.inr (Or.inr ⟨xq5 Λ x, Or.inl rfl, Or.inl z⟩)
    · exact Or.inr (Or.inr ⟨xq5 Λ x, Or.inl rfl, Or.inr (Or.inl z)⟩)
    · exact Or.inr (Or.inr ⟨T i, Or.inr rfl, Or.inl z⟩)
    · exact Or.inr (Or.inr ⟨T i, Or.inr rfl, Or.inr (Or.inl z)⟩))
  have hno : ∀ {r c}, yo Λ r c → c ≠ 8 → c ≠ 2 → ¬ (r = xq5 Λ x ∨ r = T i) := fun hr h1 h2 z => z.elim (yo_ne hr c5 h1) (yo_ne hr (cT i hi) h2)
  refine ⟨hL, QB_fr hL hR k' (hno c0 (by decide) (by decide)) (hno c1 (by decide) (by decide)) hB, QT_set hL hR k' (fun t ht e z => z.elim (yo_ne (cT t ht) c5 (by decide)) (fun z => e (hL.2.2.2.2.2.2.2.2.2.2.1 t i ht hi z))) hT hTT, QP_fr hL hR k' (fun t ht => hno (cP t ht) (by decide) (by decide)) hP, fun j hj => ?_, hC', Kv_AX hL.2.1 hR k' hL.2.2.2.2.2.2.2.2.1.2 (hno c6 (by decide) (by decide)) hK, M0_AX hL.2.1 hR k' hM⟩
  have n7 : ¬ AR Λ (xq5 Λ x) (T i) 7 (xq4 Λ x) := by
    rintro (z | z | z | z)
    · exact yo_ne hL.2.2.2.2.2.2.1.1.1 c5 (by decide) z
    · rw [hL.2.2.2.2.2.2.1.2.1] at z; exact yo_ne hL.2.1.1 c5 (by decide) z
    · exact yo_ne hL.2.2.2.2.2.2.1.1.1 (cT i hi) (by decide) z
    · rw [hL.2.2.2.2.2.2.1.2.1] at z; exact yo_ne hL.2.1.1 (cT i hi) (by decide) z
  rw [(k 7 3 _ n7).2.2]
  exact hD j hj
/-- the disk has changed -/
theorem yQ_K (h : yQ Λ E0 S x T P C Lx PL B) (k : yFr (AK Λ (xq6 Λ x)) S S') (hK' : yKv Λ S' (xq6 Λ x) C Lx PL D) : yQ Λ E0 S' x T P C Lx PL (B.1, B.2.1, B.2.2.1, B.2.2.2.1, B.2.2.2.2.1, D) := by
  obtain ⟨hL, hB, hTT, hP, hD, hC, hK, hM⟩ := h
  obtain ⟨c0, c1, c5, c6, cT, cP⟩ := Lay_c hL
  have hR : ∀ r, (fun r => r = xq6 Λ x) r → yCo Λ x r := fun r e => by rw [show r = xq6 Λ x from e]; exact hL.2.2.2.2.2.2.2.2.1.2
  have k' : yFr (AX Λ (fun r => r = xq6 Λ x)) S S' := yFr_mo k (fun c a z => Or.inr (Or.inr ⟨xq6 Λ x, rfl, z⟩))
  refine ⟨hL, QB_fr hL hR k' (yo_ne c0 c6 (by decide)) (yo_ne c1 c6 (by decide)) hB, QT_fr hL hR k' (fun t ht => yo_ne (cT t ht) c6 (by decide)) hTT, QP_fr hL hR k' (fun t ht => yo_ne (cP t ht) c6 (by decide)) hP, fun j hj => ?_, Cf_AX hL.2.1 hR k' hL.2.2.2.2.2.2.2.1.2 (yo_ne c5 c6 (by decide)) hC, hK', M0_AX hL.2.1 hR k' hM⟩
  have n7 : ¬ AK Λ (xq6 Λ x) 7 (xq4 Λ x) := by
    rintro (z | z | z)
    · exact yo_ne hL.2.2.2.2.2.2.1.1.1 c6 (by decide) z
    · rw [hL.2.2.2.2.2.2.1.2.1] at z; exact yo_ne hL.2.1.1 c6 (by decide) z
    · rw [hL.2.2.2.2.2.2.1.2.1, hL.2.1.2] at z; exact yo_ne hL.2.1.1 c6 (by decide) z
  rw [(k 7 3 _ n7).2.2]
  exact hD j hj
/-- the disk, and a TREE -/
theorem yQ_O (h : yQ Λ E0 S x T P C Lx PL B) {i : Nat} (hi : i < 12) (k : yFr (AO Λ (xq6 Λ x) (T i)) S S') (hT : yTv Λ S' (T i) fs) (hK' : yKv Λ S' (xq6 Λ x) C Lx PL D) : yQ Λ E0 S' x T P C Lx PL (B.1, B.2.1, B.2.2.1.set i fs, B.2.2.2.1, B.2.2.2.2.1, D) := by
  obtain ⟨hL, hB, hTT, hP, hD, hC, hK, hM⟩ := h
  obtain ⟨c0, c1, c5, c6, cT, cP⟩ := Lay_c hL
  have hR : ∀ r, (fun r => r = xq6 Λ x ∨ r = T i) r → yCo Λ x r := fun r e => by
    rcases (show r = xq6 Λ x ∨ r = T i from e) with e | e
    · rw [e]; exact hL.2.2.2.2.2.2.2.2.1.2
    · rw [e]; exact (hL.2.2.2.2.2.2.2.2.2.1 i hi).1
  have k' : yFr (AX Λ (fun r => r = xq6 Λ x ∨ r = T i)) S S' := yFr_mo k (fun c a z => by
    rcases z with z | z | z
    · exact Or.inr (Or.inr ⟨xq6 Λ x, Or.inl rfl, Or.inl z.2⟩)
    · exact Or.inr (Or.inr ⟨T i, Or.inr rfl, Or.inl z⟩)
    · exact Or.inr (Or.inr ⟨T i, Or.inr rfl, Or.inr (Or.inl z)⟩))
  have hno : ∀ {r c}, yo Λ r c → c ≠ 10 → c ≠ 2 → ¬ (r = xq6 Λ x ∨ r = T i) := fun hr h1 h2 z => z.elim (yo_ne hr c6 h1) (yo_ne hr (cT i hi) h2)
  refine ⟨hL, QB_fr hL hR k' (hno c0 (by decide) (by decide)) (hno c1 (by decide) (by decide)) hB, QT_set hL hR k' (fun t ht e z => z.elim (yo_ne (cT t ht) c6 (by decide)) (fun z => e (hL.2.2.2.2.2.2.2.2.2.2.1 t i ht hi z))) hT hTT, QP_fr hL hR k' (fun t ht => hno (cP t ht) (by decide) (by decide)) hP, fun j hj => ?_, Cf_AX hL.2.1 hR k' hL.2.2.2.2.2.2.2.1.2 (hno c5 (by decide) (by decide)) hC, hK', M0_AX hL.2.1 hR k' hM⟩
  have n7 : ¬ AO Λ (xq6 Λ x) (T i) 7 (xq4 Λ x) := by
    rintro (z | z | z)
    · exact absurd z.1 (by decide)
    · exact yo_ne hL.2.2.2.2.2.2.1.1.1 (cT i hi) (by decide) z
    · rw [hL.2.2.2.2.2.2.1.2.1] at z; exact yo_ne hL.2.1.1 (cT i hi) (by decide) z
  rw [(k 7 3 _ n7).2.2]
  exact hD j hj
/-- the tape, the path at hand -/
theorem yQ_B (h : yQ Λ E0 S x T P C Lx PL B) (k : yFr (fun c a => c = 1 ∧ (a = xq0 Λ x ∨ a = xq1 Λ x)) S S') (hB' : QB Λ S' x bs cs) : yQ Λ E0 S' x T P C Lx PL (bs, cs, B.2.2) := by
  obtain ⟨hL, hB, hTT, hP, hD, hC, hK, hM⟩ := h
  obtain ⟨c0, c1, c5, c6, cT, cP⟩ := Lay_c hL
  have hR : ∀ r, (fun r => r = xq0 Λ x ∨ r = xq1 Λ x) r → yCo Λ x r := fun r e => by
    rcases (show r = xq0 Λ x ∨ r = xq1 Λ x from e) with e | e
    · rw [e]; exact hL.2.2.1.2
    · rw [e]; exact hL.2.2.2.1.2
  have k' : yFr (AX Λ (fun r => r = xq0 Λ x ∨ r = xq1 Λ x)) S S' := yFr_mo k (fun c a z => by
    rcases z.2 with w | w
    · exact Or.inr (Or.inr ⟨xq0 Λ x, Or.inl rfl, Or.inl w⟩)
    · exact Or.inr (Or.inr ⟨xq1 Λ x, Or.inr rfl, Or.inl w⟩))
  have hno : ∀ {r c}, yo Λ r c → c ≠ 1 → ¬ (r = xq0 Λ x ∨ r = xq1 Λ x) := fun hr h1 z => z.elim (yo_ne hr c0 h1) (yo_ne hr c1 h1)
  refine ⟨hL, hB', QT_fr hL hR k' (fun t ht => hno (cT t ht) (by decide)) hTT, QP_fr hL hR k' (fun t ht => hno (cP t ht) (by decide)) hP, fun j hj => ?_, Cf_AX hL.2.1 hR k' hL.2.2.2.2.2.2.2.1.2 (hno c5 (by decide)) hC, Kv_AX hL.2.1 hR k' hL.2.2.2.2.2.2.2.2.1.2 (hno c6 (by decide)) hK, M0_AX hL.2.1 hR k' hM⟩
  rw [(k 7 3 _ (fun z => absurd z.1 (by decide))).2.2]
  exact hD j hj
/-- a count of x has changed -/
theorem yQ_I (h : yQ Λ E0 S x T P C Lx PL B) {j : Nat} {v : Int32} (hT : QT Λ (ywI S 0 j x v) x T ts) (hP : QP Λ (ywI S 0 j x v) x P ps) : yQ Λ E0 (ywI S 0 j x v) x T P C Lx PL (B.1, B.2.1, ts, ps, B.2.2.2.2) := by
  obtain ⟨hL, hB, _, _, hD, hC, hK, hM⟩ := h
  have k : yFr (fun c a => c = 0) S (ywI S 0 j x v) := yFr_wI rfl
  refine ⟨hL, ⟨yFr_Bv k (by decide) hB.1, yFr_Bv k (by decide) hB.2⟩, hT, hP, hD, yCf_fr k (by decide) hC, ?_, hM.1, hM.2.1, fun j' => ⟨by rw [(k 11 j' _ (show ¬ (11 = 0) by decide)).1]; exact (hM.2.2 j').1, (hM.2.2 j').2⟩⟩
  obtain ⟨⟨a1, a2, a3, a4, a5⟩, b, c, f⟩ := hK
  refine ⟨⟨a1, a2, a3, a4, a5⟩, fun s hs => ⟨yFr_Bv k (by decide) (b s hs).1, (b s hs).2⟩, fun i hi => yLv_fr k (by decide) (fun _ _ _ _ => by decide) (c i hi), ⟨f.1, ?_, ?_, ?_, ?_⟩⟩
  · rw [(k 10 4 _ (show ¬ (10 = 0) by decide)).1]; exact f.2.1
  · rw [(k 10 5 _ (show ¬ (10 = 0) by decide)).1]; exact f.2.2.1
  · rw [(k 10 6 _ (show ¬ (10 = 0) by decide)).1]; exact f.2.2.2.1
  · rw [(k 10 7 _ (show ¬ (10 = 0) by decide)).1]; exact f.2.2.2.2
theorem QT_0 {j : Nat} {v : Int32} (h : QT Λ S x T ts) (hj : j ≠ 7) : QT Λ (ywI S 0 j x v) x T ts := by
  have k : yFr (fun c a => c = 0) S (ywI S 0 j x v) := yFr_wI rfl
  have hT : ∀ {r fs}, yTv Λ S r fs → yTv Λ (ywI S 0 j x v) r fs := fun hv => yFr_Tv k (by decide) (fun _ _ _ _ => by decide) hv
  refine ⟨fun t ht => ⟨(h.1 t ht).1, ?_⟩, h.2.1, ?_, fun t ht => hT (h.2.2.2 t ht)⟩
  · obtain ⟨fs, hf⟩ := (h.1 t ht).2
    exact ⟨fs, hT hf⟩
  · rw [ywI_ne _ _ (fun z => hj z.2.1.symm)]; exact h.2.2.1
theorem QP_0 {j : Nat} {v : Int32} (h : QP Λ S x P ps) (hj : j ≠ 8) : QP Λ (ywI S 0 j x v) x P ps := by
  have k : yFr (fun c a => c = 0) S (ywI S 0 j x v) := yFr_wI rfl
  have hT : ∀ {r vs Q}, yPq Λ S r vs Q → yPq Λ (ywI S 0 j x v) r vs Q := fun hv => yFr_Pq k (by decide) (fun _ _ => by decide) (fun _ _ => ⟨by decide, by decide⟩) hv
  refine ⟨fun t ht => ⟨(h.1 t ht).1, ?_⟩, h.2.1, ?_, fun t ht => ?_⟩
  · obtain ⟨vs, Q, hf⟩ := (h.1 t ht).2
    exact ⟨vs, Q, hT hf⟩
  · rw [ywI_ne _ _ (fun z => hj z.2.1.symm)]; exact h.2.2.1
  · obtain ⟨Q, hf⟩ := h.2.2.2 t ht
    exact ⟨Q, hT hf⟩
/-- the first n TREES, or the one behind them too -/
theorem QT_n {v : Nat} (h : QT Λ S x T ts) {us : List (List Fl)} (hl : us.length ≤ 12) (hv : v = us.length) (hu : ∀ t, t < us.length → yTv Λ S (T t) (us.getD t [])) : QT Λ (ywI S 0 7 x (nI v)) x T us := by
  have k : yFr (fun c a => c = 0) S (ywI S 0 7 x (nI v)) := yFr_wI rfl
  have hT : ∀ {r fs}, yTv Λ S r fs → yTv Λ (ywI S 0 7 x (nI v)) r fs := fun hv => yFr_Tv k (by decide) (fun _ _ _ _ => by decide) hv
  refine ⟨fun t ht => ⟨(h.1 t ht).1, ?_⟩, hl, by rw [ywI_s, hv], fun t ht => hT (hu t ht)⟩
  obtain ⟨fs, hf⟩ := (h.1 t ht).2
  exact ⟨fs, hT hf⟩
theorem QP_n {v : Nat} (h : QP Λ S x P ps) {us : List (List Sv)} (hl : us.length ≤ 8) (hv : v = us.length) (hu : ∀ t, t < us.length → ∃ Q, yPq Λ S (P t) (us.getD t []) Q) : QP Λ (ywI S 0 8 x (nI v)) x P us := by
  have k : yFr (fun c a => c = 0) S (ywI S 0 8 x (nI v)) := yFr_wI rfl
  have hT : ∀ {r vs Q}, yPq Λ S r vs Q → yPq Λ (ywI S 0 8 x (nI v)) r vs Q := fun hv => yFr_Pq k (by decide) (fun _ _ => by decide) (fun _ _ => ⟨by decide, by decide⟩) hv
  refine ⟨fun t ht => ⟨(h.1 t ht).1, ?_⟩, hl, by rw [ywI_s, hv], fun t ht => ?_⟩
  · obtain ⟨vs, Q, hf⟩ := (h.1 t ht).2
    exact ⟨vs, Q, hT hf⟩
  · obtain ⟨Q, hf⟩ := hu t ht
    exact ⟨Q, hT hf⟩
end
