/-! 66 frames: what a component holds stays when others change -/
theorem yo_ne {Λ : yL} {a b c c' : Nat} (h : yo Λ a c) (h' : yo Λ b c') (hc : c ≠ c') : a ≠ b := by
  intro e
  obtain ⟨x, y, h1⟩ := h
  obtain ⟨x', y', h2⟩ := h'
  rw [e, h2] at h1
  exact hc (congrArg (fun z => z.2.1) h1).symm
/-- belongs to the PatchChains itself -/
def yTop (Λ : yL) (t : Nat) : Prop := yo Λ (own Λ t) 0 ∧ own Λ (own Λ t) = own Λ t
/-- one STEP, and the Weaver -/
abbrev AS (Λ : yL) (s : Nat) : Nat → Nat → Prop := fun c a => c = 6 ∨ a = s ∨ own Λ a = s
/-- one PATCH, and the Weaver -/
abbrev AP (Λ : yL) (p : Nat) : Nat → Nat → Prop := fun c a => c = 6 ∨ a = p ∨ own Λ a = p ∨ own Λ (own Λ a) = p
section
variable {Λ : yL} {f0 : xH} {S S' : yS} {s t p o b cap d : Nat} {v w : Sv} {vs : List Sv} {Q : Nat → Nat} {A : Nat → Nat → Prop} {fs : List Fl} {bs : List Nat} {zs : List Int32} {x : Int32} {post : Option Value → xH → Prop}
theorem yFr_Tv (h : yFr A S S') (ht : ¬ A 2 t) (hb : ∀ b cap, yB Λ b cap → own Λ b = t → ¬ A 1 b) (hv : yTv Λ S t fs) : yTv Λ S' t fs := by
  obtain ⟨hs, P, C, hp, hl, hn, h0, hbb⟩ := hv
  refine ⟨hs, P, C, ⟨fun i hi => ?_, hp.2⟩, hl, ?_, yFr_Bv h (hb _ _ hs.2.2.2.1 hs.2.2.2.2) h0, fun i hi => ?_⟩
  · refine ⟨?_, (hp.1 i hi).2⟩
    rw [(h 2 0 t ht).2.2, (h 2 1 t ht).2.2]
    exact (hp.1 i hi).1
  · rw [(h 2 3 t ht).1]; exact hn
  · have := hp.1 i (by omega)
    exact ⟨yFr_Bv h (hb _ _ this.2.1.1 this.2.2.1) (hbb i hi).1, yFr_Bv h (hb _ _ this.2.1.2 this.2.2.2) (hbb i hi).2⟩
theorem yFr_Sv (h : yFr A S S') (h4 : ¬ A 4 s) (hb : ∀ b, own Λ b = s → ¬ A 1 b ∧ ¬ A 3 b) (hv : ySv Λ S s v) : ySv Λ S' s v := by
  obtain ⟨k1, ⟨k2, k3, k4⟩, ⟨k5, k6, k7, k8⟩, k9, k10⟩ := hv
  obtain ⟨o1, o2, o3, o4⟩ := k1.2.2.1
  exact ⟨k1, ⟨(h 4 4 s h4).1.trans k2, yFr_Bv h (hb _ o1).1 k3, yFr_Bv h (hb _ o2).1 k4⟩, ⟨(h 4 5 s h4).1.trans k5, (h 4 6 s h4).1.trans k6, (h 4 7 s h4).1.trans k7, (h 4 8 s h4).1.trans k8⟩, yFr_Dv h (hb _ o3).2 k9, yFr_Dv h (hb _ o4).2 k10⟩
theorem yFr_Pq (h : yFr A S S') (hp : ¬ A 5 p) (hs : ∀ s, own Λ s = p → ¬ A 4 s) (hb : ∀ b, own Λ (own Λ b) = p → ¬ A 1 b ∧ ¬ A 3 b) (hv : yPq Λ S p vs Q) : yPq Λ S' p vs Q := by
  obtain ⟨hs1, hr, hinj, hl, hz, hb1, hp1, hp2⟩ := hv
  have hst : ∀ i, i < 25 → ∀ u, ySv Λ S (Q i) u → ySv Λ S' (Q i) u := fun i hi u hu => yFr_Sv h (hs _ (hr i hi).2.1) (fun b e => hb b (by rw [e]; exact (hr i hi).2.1)) hu
  refine ⟨hs1, fun i hi => ⟨?_, (hr i hi).2.1, ?_⟩, hinj, hl, ?_, fun i hi => hst i (by omega) _ (hb1 i hi), hp1, hp2⟩
  · rw [(h 5 0 p hp).2.2]; exact (hr i hi).1
  · obtain ⟨u, hu⟩ := (hr i hi).2.2
    exact ⟨u, hst i hi u hu⟩
  · rw [(h 5 1 p hp).1]; exact hz
theorem yFr_ofAg (h : yAg Λ S S' s) : yFr (AS Λ s) S S' := fun c j a q => h c j a (fun e => q (Or.inr (Or.inl e))) (fun e => q (Or.inr (Or.inr e)))
theorem AS_AP (hs : own Λ s = p) : ∀ c a, AS Λ s c a → AP Λ p c a := fun c a z => by
  rcases z with z | z | z
  · exact Or.inl z
  · exact Or.inr (Or.inr (Or.inl (by rw [z]; exact hs)))
  · exact Or.inr (Or.inr (Or.inr (by rw [z]; exact hs)))
theorem yFr_Ag2 (h : yAg2 Λ S S' p) : yFr (AP Λ p) S S' := fun c j a q => h c j a (fun e => q (Or.inr (Or.inl e))) (fun e => q (Or.inr (Or.inr (Or.inl e)))) (fun e => q (Or.inr (Or.inr (Or.inr e))))
theorem yFr_Ag1 (h : yAg Λ S S' p) : yFr (AP Λ p) S S' := yFr_Ag2 (yAg2_1 h)
/-- a TREE stays when a STEP, or a PATCH, changes -/
theorem Tv_AP (h : yFr (AP Λ p) S S') (hp : yPa Λ p) (ht : yTop Λ t) (hv : yTv Λ S t fs) : yTv Λ S' t fs := by
  have hto := hv.1.1
  refine yFr_Tv h ?_ (fun b cap hB hb => ?_) hv
  · rintro (z | z | z | z)
    · exact absurd z (by decide)
    · exact yo_ne hto hp.1 (by decide) z
    · exact yo_ne ht.1 hp.1 (by decide) z
    · rw [ht.2] at z; exact yo_ne ht.1 hp.1 (by decide) z
  · rintro (z | z | z | z)
    · exact absurd z (by decide)
    · exact yo_ne hB.1 hp.1 (by decide) z
    · rw [hb] at z; exact yo_ne hto hp.1 (by decide) z
    · rw [hb] at z; exact yo_ne ht.1 hp.1 (by decide) z
theorem Tv_AS (h : yFr (AS Λ s) S S') (hs : yo Λ s 4) (ht : yTop Λ t) (hv : yTv Λ S t fs) : yTv Λ S' t fs := by
  have hto := hv.1.1
  refine yFr_Tv h ?_ (fun b cap hB hb => ?_) hv
  · rintro (z | z | z)
    · exact absurd z (by decide)
    · exact yo_ne hto hs (by decide) z
    · exact yo_ne ht.1 hs (by decide) z
  · rintro (z | z | z)
    · exact absurd z (by decide)
    · exact yo_ne hB.1 hs (by decide) z
    · rw [hb] at z; exact yo_ne hto hs (by decide) z
theorem Sv_AS (h : yFr (AS Λ s) S S') (ha : apart Λ o s) (hv : ySv Λ S o v) : ySv Λ S' o v := by
  refine yFr_Sv h ?_ (fun b hb => ?_) hv
  · rintro (z | z | z)
    · exact absurd z (by decide)
    · exact ha.1 z
    · exact ha.2.1 z
  · have : ¬ (b = s ∨ own Λ b = s) := by
      rintro (z | z)
      · exact ha.2.2 (by rw [← z]; exact hb)
      · exact ha.1 (by rw [← hb]; exact z)
    exact ⟨fun z => z.elim (fun z => absurd z (by decide)) this, fun z => z.elim (fun z => absurd z (by decide)) this⟩
theorem Pq_AS (h : yPq Λ S p vs Q) {k : Nat} (hk : k < 25) (hn : vs.length ≤ k) (ha : yFr (AS Λ (Q k)) S S') (hv : ySv Λ S' (Q k) v) : yPq Λ S' p vs Q := by
  obtain ⟨hs, hr, hinj, hl, hz, hb, hp1, hp2⟩ := id h
  have hpk : ¬ AS Λ (Q k) 5 p := by
    rintro (z | z | z)
    · exact absurd z (by decide)
    · exact yo_ne hs.1 hv.1.1 (by decide) z
    · exact hp2 k hk z
  refine ⟨hs, fun i hi => ⟨?_, (hr i hi).2.1, ?_⟩, hinj, hl, ?_, fun i hi => ?_, hp1, hp2⟩
  · rw [(ha 5 0 p hpk).2.2]; exact (hr i hi).1
  · by_cases e : i = k
    · rw [e]; exact ⟨v, hv⟩
    · obtain ⟨v1, h1⟩ := (hr i hi).2.2
      exact ⟨v1, Sv_AS ha (yPq_ap h hi hk e) h1⟩
  · rw [(ha 5 1 p hpk).1]; exact hz
  · exact Sv_AS ha (yPq_ap h (show i < 25 by omega) hk (by omega)) (hb i hi)
theorem ySv_d2 (h : ySv Λ S s v) (ha : yFr (A36 (yDe Λ s)) S S') (hg : yDv S' (yDe Λ s) zs) : ySv Λ S' s (v.1, v.2.1, v.2.2.1, v.2.2.2.1, v.2.2.2.2.1, v.2.2.2.2.2.1, v.2.2.2.2.2.2.1, zs, v.2.2.2.2.2.2.2.2) := by
  obtain ⟨h1, ⟨h2, h3, h4⟩, ⟨h5, h6, h7, h8⟩, h9, h10⟩ := h
  have n4 : ¬ A36 (yDe Λ s) 4 s := by rintro (z | z); exact absurd z (by decide); exact absurd z.1 (by decide)
  have n1 : ∀ b, ¬ A36 (yDe Λ s) 1 b := by rintro b (z | z); exact absurd z (by decide); exact absurd z.1 (by decide)
  exact ⟨h1, ⟨(ha 4 4 s n4).1.trans h2, yFr_Bv ha (n1 _) h3, yFr_Bv ha (n1 _) h4⟩, ⟨(ha 4 5 s n4).1.trans h5, (ha 4 6 s n4).1.trans h6, (ha 4 7 s n4).1.trans h7, (ha 4 8 s n4).1.trans h8⟩, hg, yFr_Dv ha (by rintro (z | z); exact absurd z (by decide); exact h1.2.2.2.2 z.2.symm) h10⟩
theorem ySv_b2 (h : ySv Λ S s v) (ha : yFr (A36 (yBa Λ s)) S S') (hg : yDv S' (yBa Λ s) zs) : ySv Λ S' s (v.1, v.2.1, v.2.2.1, v.2.2.2.1, v.2.2.2.2.1, v.2.2.2.2.2.1, v.2.2.2.2.2.2.1, v.2.2.2.2.2.2.2.1, zs) := by
  obtain ⟨h1, ⟨h2, h3, h4⟩, ⟨h5, h6, h7, h8⟩, h9, h10⟩ := h
  have n4 : ¬ A36 (yBa Λ s) 4 s := by rintro (z | z); exact absurd z (by decide); exact absurd z.1 (by decide)
  have n1 : ∀ b, ¬ A36 (yBa Λ s) 1 b := by rintro b (z | z); exact absurd z (by decide); exact absurd z.1 (by decide)
  exact ⟨h1, ⟨(ha 4 4 s n4).1.trans h2, yFr_Bv ha (n1 _) h3, yFr_Bv ha (n1 _) h4⟩, ⟨(ha 4 5 s n4).1.trans h5, (ha 4 6 s n4).1.trans h6, (ha 4 7 s n4).1.trans h7, (ha 4 8 s n4).1.trans h8⟩, yFr_Dv ha (by rintro (z | z); exact absurd z (by decide); exact h1.2.2.2.2 z.2) h9, hg⟩
theorem A36_AS (ho : own Λ o = s) : ∀ c a, A36 o c a → AS Λ s c a := fun c a z => by
  rcases z with z | z
  · exact Or.inl z
  · exact Or.inr (Or.inr (by rw [z.2]; exact ho))
/-- INVERSES -/
def invP (vs : List Sv) : List Sv := vs.foldl (fun r v => addV r (invV v)) []
theorem addV_len (vs : List Sv) (v : Sv) : (addV vs v).length = vs.length + 1 := insA_len (insV_le _ _ _)
theorem foldl_addV_len {α : Type} (g : α → Sv) : ∀ (l : List α) (r : List Sv), (l.foldl (fun r v => addV r (g v)) r).length = r.length + l.length
  | [], r => rfl
  | a :: l, r => by
    show (l.foldl _ (addV r (g a))).length = _
    rw [foldl_addV_len g l, addV_len, List.length_cons]
    omega
theorem svG {vs : List Sv} {k : Nat} (h : k < vs.length) : vs.take (k + 1) = vs.take k ++ [vs.getD k sv0] := by
  rw [List.take_succ, List.getD_eq_getElem?_getD, List.getElem?_eq_getElem h]; rfl
theorem Pa_inverseOf_sp (hW : yW Λ) {q : Nat} {ws : List Sv} {Q' : Nat → Nat} (hP : yPq Λ S p ws Q) (hQ : yPq Λ S q vs Q') (hpq : q ≠ p) (tp : yTop Λ p) (tq : yTop Λ q) (h : ∀ S' Q2, yFr (AP Λ p) S S' → yPq Λ S' p (invP vs) Q2 → post none (yH Λ f0 S')) : xSp xT0 (d + 4) j_Pa_inverseOf [.ref p, .ref q] (yH Λ f0 S) post := by
  have hql := hQ.2.2.2.1
  have hf : ∀ {S1}, yFr (AP Λ p) S S1 → yPq Λ S1 q vs Q' := fun k1 => by
    refine yFr_Pq k1 ?_ (fun s hs => ?_) (fun b hb => ?_) hQ
    · rintro (z | z | z | z)
      · exact absurd z (by decide)
      · exact hpq z
      · exact yo_ne tq.1 hP.1.1 (by decide) z
      · rw [tq.2] at z; exact yo_ne tq.1 hP.1.1 (by decide) z
    · rintro (z | z | z | z)
      · exact absurd z (by decide)
      · rw [z] at hs; exact yo_ne tp.1 hQ.1.1 (by decide) hs
      · exact hpq (hs.symm.trans z)
      · rw [hs] at z; exact yo_ne tq.1 hP.1.1 (by decide) z
    · have : ¬ (b = p ∨ own Λ b = p ∨ own Λ (own Λ b) = p) := by
        rintro (z | z | z)
        · rw [z, tp.2] at hb; exact yo_ne tp.1 hQ.1.1 (by decide) hb
        · rw [z] at hb; exact yo_ne tp.1 hQ.1.1 (by decide) hb
        · exact hpq (hb.symm.trans z)
      exact ⟨fun z => z.elim (fun z => absurd z (by decide)) this, fun z => z.elim (fun z => absurd z (by decide)) this⟩
  refine xSp_of (M := m_Pa_inverseOf) rfl (b_Pa_inverseOf_0 ⟨yex hP.1.1, Pa_empty_sp hP.1 ?_⟩)
  show xWp _ _ _ _ _ _ _
  have hl : ∀ k, k ≤ vs.length → (∀ S1 Q1, yFr (AP Λ p) S S1 → yPq Λ S1 p (invP (vs.take k)) Q1 → xWp (xT0, xSp xT0 (d + 3), none, m_Pa_inverseOf, post) 6 [some (.ref p), some (.ref q), some (.int (nI k))] [] (yH Λ f0 S1) 0 0) := by
    refine loopUp ?_ ?_
    · intro S1 Q1 k1 hp1
      have hq1 := hf k1
      refine b_Pa_inverseOf_6 (ygi hQ.1.1 rfl ?_)
      rw [hq1.2.2.2.2.1]
      refine brle (by omega) (by omega) (fun _ => ?_) (fun q => absurd q (by omega))
      rw [List.take_length] at hp1
      exact h S1 Q1 k1 hp1
    · intro k hk ih S1 Q1 k1 hp1
      have hq1 := hf k1
      have hlen : (invP (vs.take k)).length = k := by
        unfold invP
        rw [foldl_addV_len, List.length_take, List.length_nil]
        omega
      refine b_Pa_inverseOf_6 (ygi hQ.1.1 rfl ?_)
      rw [hq1.2.2.2.2.1]
      refine brle (by omega) (by omega) (fun q => absurd q (by omega)) (fun _ => ⟨yex hP.1.1, Pa_blank_sp hp1 (ygr hQ.1.1 rfl (yrl (Q' k) hQ.1.2 (vp_in_nI (by omega) (by omega)) (by rw [nI_clamp (by omega)]; exact (hq1.2.1 k (by omega)).1) ?_))⟩)
      rw [hlen]
      obtain ⟨vb, hvb⟩ := (hp1.2.1 k (by omega)).2.2
      have hvk := hq1.2.2.2.2.2.1 k hk
      have hap : apart Λ (Q' k) (Q1 k) := by
        refine ⟨fun e => hpq ?_, ?_, ?_⟩
        · rw [← (hq1.2.1 k (by omega)).2.1, e]; exact (hp1.2.1 k (by omega)).2.1
        · rw [(hq1.2.1 k (by omega)).2.1]; exact yo_ne hQ.1.1 hvb.1.1 (by decide)
        · rw [(hp1.2.1 k (by omega)).2.1]; exact yo_ne hP.1.1 hvk.1.1 (by decide)
      refine ⟨yex hvb.1.1, St_inverseOf_sp hW hvb hvk hap (fun S2 k2 v2 => ⟨yex hP.1.1, ?_⟩)⟩
      have k2' : yFr (AS Λ (Q1 k)) S1 S2 := yFr_ofAg k2
      have hp2 := Pq_AS hp1 (by omega) (by omega) k2' v2
      refine Pa_keepBlank_sp hW hp2 (by rw [hlen]; exact v2) (fun _ S3 Q3 k3 hp3 => ?_) (fun q => absurd q (by omega))
      show xWp _ _ _ _ _ _ _
      rw [nI_1]
      refine ih S3 Q3 (yFr_tr k1 (yFr_tr (yFr_mo k2' (AS_AP (hp1.2.1 k (by omega)).2.1)) (yFr_Ag1 k3))) ?_
      rw [svG hk]
      unfold invP
      rw [List.foldl_append]
      exact hp3
  exact hl 0 (Nat.zero_le _) _ Q (yFr_wI (Or.inr (Or.inl rfl))) (by
    show yPq Λ _ p [] Q
    exact yPq_e hP)
end
