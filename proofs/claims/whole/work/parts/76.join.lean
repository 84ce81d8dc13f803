/-! 76 Joiner: CHAINS of two -/
def fTg (vs : List Sv) (bs : List Nat) : Nat := fstI (fun i => decide (¬ (vs.getD i sv0).1 = 1 ∧ (vs.getD i sv0).2.1 = bs)) vs.length
def fSr (vs : List Sv) (bs : List Nat) : Nat := fstI (fun i => decide (¬ (vs.getD i sv0).1 = 0 ∧ (vs.getD i sv0).2.2.1 = bs)) vs.length
abbrev goV (w v : Sv) : Prop := w.2.2.2.2.2.1 = v.2.2.2.1 ∧ w.2.2.2.2.2.2.1 = v.2.2.2.2.1
/-- the RULE that a STEP of the second breaks -/
def cruT (vs ws : List Sv) (v : Sv) : Nat := if ¬ v.1 = 1 ∧ fTg vs v.2.1 < vs.length ∧ ¬ fSr ws v.2.1 < ws.length then 3 else 0
def cruB (vs ws : List Sv) (v : Sv) : Nat := if ¬ v.1 = 0 ∧ ¬ fTg vs v.2.2.1 < vs.length ∧ fSr vs v.2.2.1 < vs.length then 1 else if ¬ v.1 = 0 ∧ fTg vs v.2.2.1 < vs.length ∧ ¬ goV (vs.getD (fTg vs v.2.2.1) sv0) v then 2 else cruT vs ws v
theorem cruB_le (vs ws : List Sv) (v : Sv) : cruB vs ws v ≤ 3 := by
  unfold cruB cruT
  repeat' split
  all_goals omega
def cruI (vs ws : List Sv) : Nat := fstI (fun i => decide (¬ cruB vs ws (ws.getD i sv0) = 0)) ws.length
def cruA (vs ws : List Sv) : Nat := if cruI vs ws < ws.length then cruB vs ws (ws.getD (cruI vs ws) sv0) else 0
abbrev joLd (w w2 : Sv) : Prop := ¬ (w.1 = 0 ∧ w2.1 = 1) ∧ (w.1 = 0 ∨ w2.1 = 1 ∨ ¬ joP w w2 = joF w w2 ∨ ¬ joW w w2)
/-- what becomes of a STEP of the first -/
def jfV (ws : List Sv) (v : Sv) : Option Sv := if ¬ v.1 = 1 then (if fSr ws v.2.1 < ws.length then (if joLd v (ws.getD (fSr ws v.2.1) sv0) then some (joV v (ws.getD (fSr ws v.2.1) sv0)) else none) else some v) else (if fTg ws v.2.1 < ws.length ∧ (ws.getD (fTg ws v.2.1) sv0).1 = 0 then some (chgV v (ws.getD (fTg ws v.2.1) sv0)) else some v)
def isJ (vs : List Sv) (v : Sv) : Bool := if ¬ v.1 = 0 then decide (fTg vs v.2.2.1 < vs.length) else decide (fSr vs v.2.1 < vs.length ∧ (vs.getD (fSr vs v.2.1) sv0).1 = 1)
def kpV (a : Option (List Sv)) (o : Option Sv) : Option (List Sv) := a.bind (fun r => match o with
  | none => some r
  | some v => if r.length < 24 then some (addV r v) else none)
def jn1 (vs ws : List Sv) (n : Nat) : Option (List Sv) := (List.range n).foldl (fun a i => kpV a (jfV ws (vs.getD i sv0))) (some [])
def jn2 (vs ws : List Sv) (n : Nat) : Option (List Sv) := (List.range n).foldl (fun a i => kpV a (if isJ vs (ws.getD i sv0) = true then none else some (ws.getD i sv0))) (jn1 vs ws vs.length)
theorem fold_none {f : Option (List Sv) → Nat → Option (List Sv)} (hf : ∀ i, f none i = none) {a : Option (List Sv)} {k : Nat} (h : (List.range k).foldl f a = none) : ∀ n, (List.range (k + n)).foldl f a = none
  | 0 => h
  | n + 1 => by rw [← Nat.add_assoc, rgF, fold_none hf h n]; exact hf _
section
variable {Λ : yL} {f0 : xH} {S0 S S' : yS} {s p q r o cap d : Nat} {Q Q' QR : Nat → Nat} {vs ws rs : List Sv} {v w : Sv} {bs cs : List Nat} {x y : Int32} {post : Option Value → xH → Prop}
theorem Pa_findTarget2 (h : yPq Λ S p vs Q) (hO : yB Λ o cap) (hw : yBv S o cap bs) (hp : post (some (.int (ixI (fTg vs bs) vs.length))) (yH Λ f0 S)) : xSp xT0 (d + 4) j_Pa_findTarget [.ref p, .ref o] (yH Λ f0 S) post := by
  refine Pa_findTarget_sp h hO hw (fun k hk e1 e2 hg => ?_) (fun hg => ?_)
  · have e : fTg vs bs = k := fstI_eq (Nat.le_of_lt hk) (fun i hi => decide_eq_false (hg i hi)) (Or.inr (decide_eq_true ⟨e1, e2⟩))
    have e3 : ixI k vs.length = nI k := if_pos hk
    rw [e, e3] at hp
    exact hp
  · have e : fTg vs bs = vs.length := fstI_eq (Nat.le_refl _) (fun i hi => decide_eq_false (hg i hi)) (Or.inl rfl)
    have e3 : ixI vs.length vs.length = -1 := if_neg (Nat.lt_irrefl _)
    rw [e, e3] at hp
    exact hp
theorem Pa_findSource2 (h : yPq Λ S p vs Q) (hO : yB Λ o cap) (hw : yBv S o cap bs) (hp : post (some (.int (ixI (fSr vs bs) vs.length))) (yH Λ f0 S)) : xSp xT0 (d + 4) j_Pa_findSource [.ref p, .ref o] (yH Λ f0 S) post := by
  refine Pa_findSource_sp h hO hw (fun k hk e1 e2 hg => ?_) (fun hg => ?_)
  · have e : fSr vs bs = k := fstI_eq (Nat.le_of_lt hk) (fun i hi => decide_eq_false (hg i hi)) (Or.inr (decide_eq_true ⟨e1, e2⟩))
    have e3 : ixI k vs.length = nI k := if_pos hk
    rw [e, e3] at hp
    exact hp
  · have e : fSr vs bs = vs.length := fstI_eq (Nat.le_refl _) (fun i hi => decide_eq_false (hg i hi)) (Or.inl rfl)
    have e3 : ixI vs.length vs.length = -1 := if_neg (Nat.lt_irrefl _)
    rw [e, e3] at hp
    exact hp
theorem Jo_ruleBrokenBy_sp (hP : yPq Λ S p vs Q) (hQ : yPq Λ S q ws Q') (hv : ySv Λ S s v) (hp : post (some (.int (nI (cruB vs ws v)))) (yH Λ f0 S)) : xSp xT0 (d + 5) j_Jo_ruleBrokenBy [.ref s, .ref p, .ref q] (yH Λ f0 S) post := by
  have hl := hP.2.2.2.1
  have hl2 := hQ.2.2.2.1
  have h54 : cruB vs ws v = cruT vs ws v → ∀ (u3 : Option Value), xWp (xT0, xSp xT0 (d + 4), none, m_Jo_ruleBrokenBy, post) 54 [some (.ref s), some (.ref p), some (.ref q), u3] [] (yH Λ f0 S) 0 0 := by
    intro er u3
    rw [er] at hp
    unfold cruT at hp
    refine b_Jo_ruleBrokenBy_54 ⟨yex hv.1.1, St_hasTarget_sp hv ?_⟩
    by_cases c : v.1 = 1
    · rw [if_pos c]
      rw [if_neg (fun z => z.1 c)] at hp
      exact ⟨fun _ => hp, fun z => absurd rfl z⟩
    · rw [if_neg c]
      refine ⟨fun z => absurd z (by decide), fun _ => ygr hv.1.1 rfl ⟨yex hP.1.1, Pa_findTarget2 hP hv.1.2.1.1 hv.2.1.2.1 (xviI (brix (by omega) (fun c2 => ?_) (fun c2 e2 => ygr hv.1.1 rfl ⟨yex hQ.1.1, Pa_findSource2 hQ hv.1.2.1.1 hv.2.1.2.1 (xviI (brixn (by omega) (fun c3 e3 => ?_) (fun c3 => ?_)))⟩)))⟩⟩
      · rw [if_neg (fun z => c2 z.2.1)] at hp; exact hp
      · rw [if_neg (fun z => z.2.2 c3)] at hp; exact hp
      · rw [if_pos ⟨c, c2, c3⟩] at hp; exact hp
  refine xSp_of (M := m_Jo_ruleBrokenBy) rfl (b_Jo_ruleBrokenBy_0 ⟨yex hv.1.1, St_hasSource_sp hv ?_⟩)
  unfold cruB at hp h54
  by_cases c : v.1 = 0
  · rw [if_pos c]
    refine ⟨fun _ => h54 ?_ _, fun z => absurd rfl z⟩
    rw [if_neg (fun z => z.1 c), if_neg (fun z => z.1 c)]
  · rw [if_neg c]
    refine ⟨fun z => absurd z (by decide), fun _ => ygr hv.1.1 rfl ⟨yex hP.1.1, Pa_findTarget2 hP hv.1.2.1.2.1 hv.2.1.2.2 (xviI (brixn (by omega) (fun c2 e2 => ?_) (fun c2 => ygr hv.1.1 rfl ⟨yex hP.1.1, Pa_findSource2 hP hv.1.2.1.2.1 hv.2.1.2.2 (xviI (brix (by omega) (fun c3 => ?_) (fun c3 e3 => ?_)))⟩)))⟩⟩
    · refine b_Jo_ruleBrokenBy_35 (brix (by omega) (fun z => absurd c2 z) (fun _ e2 => ?_))
      rw [e2]
      refine ⟨yex hP.1.1, Pa_at_sp hP c2 (xvrI ⟨yex hv.1.1, St_goesOnFrom_sp hv (hP.2.2.2.2.2.1 _ c2) (xviI ?_)⟩)⟩
      by_cases c3 : goV (vs.getD (fTg vs v.2.2.1) sv0) v
      · rw [if_pos c3]
        refine ⟨fun _ => h54 ?_ _, fun z => absurd (by decide) z⟩
        rw [if_neg (fun z => z.2.1 c2), if_neg (fun z => z.2.2 c3)]
      · rw [if_neg c3]
        rw [if_neg (fun z => z.2.1 c2), if_pos ⟨c, c2, c3⟩] at hp
        exact ⟨fun z => absurd rfl z, fun _ => hp⟩
    · refine b_Jo_ruleBrokenBy_35 (brix (by omega) (fun _ => h54 ?_ _) (fun z _ => absurd z c2))
      rw [if_neg (fun z => c3 z.2.2), if_neg (fun z => c2 z.2.1)]
    · rw [if_pos ⟨c, c2, c3⟩] at hp
      exact hp
theorem Jo_ruleBroken_sp (hP : yPq Λ S p vs Q) (hQ : yPq Λ S q ws Q') (hp : post (some (.int (nI (cruA vs ws)))) (yH Λ f0 S)) : xSp xT0 (d + 6) j_Jo_ruleBroken [.ref p, .ref q] (yH Λ f0 S) post := by
  have hl := hP.2.2.2.1
  have hl2 := hQ.2.2.2.1
  refine xSp_of (M := m_Jo_ruleBroken) rfl (b_Jo_ruleBroken_0 ?_)
  have hlo : ∀ k, k ≤ ws.length → (∀ (u3 : Option Value), (∀ j, j < k → decide (¬ cruB vs ws (ws.getD j sv0) = 0) = false) → xWp (xT0, xSp xT0 (d + 5), none, m_Jo_ruleBroken, post) 2 [some (.ref p), some (.ref q), some (.int (nI k)), u3] [] (yH Λ f0 S) 0 0) := by
    refine loopUp ?_ ?_
    · intro u3 hg
      refine b_Jo_ruleBroken_2 ⟨yex hQ.1.1, Pa_size_sp hQ (brle (by omega) (by omega) (fun _ => ?_) (fun q => absurd q (by omega)))⟩
      have e : cruI vs ws = ws.length := fstI_eq (Nat.le_refl _) hg (Or.inl rfl)
      unfold cruA at hp
      rw [e, if_neg (Nat.lt_irrefl _)] at hp
      exact hp
    · intro k hk ih u3 hg
      refine b_Jo_ruleBroken_2 ⟨yex hQ.1.1, Pa_size_sp hQ (brle (by omega) (by omega) (fun q => absurd q (by omega)) (fun _ => ⟨yex hQ.1.1, Pa_at_sp hQ hk (xvrI (Jo_ruleBrokenBy_sp hP hQ (hQ.2.2.2.2.2.1 k hk) (xviI ?_)))⟩))⟩
      have hr := cruB_le vs ws (ws.getD k sv0)
      rw [nI_1]
      refine breq (b := 0) (by omega) (by omega) (fun c => ih _ (fun j hj => ?_)) (fun c => ?_)
      · by_cases z : j = k
        · rw [z]; exact decide_eq_false (fun w => w c)
        · exact hg j (by omega)
      · have e : cruI vs ws = k := fstI_eq (Nat.le_of_lt hk) hg (Or.inr (decide_eq_true c))
        unfold cruA at hp
        rw [e, if_pos hk] at hp
        exact hp
  exact hlo 0 (Nat.zero_le _) none (fun j hj => absurd hj (Nat.not_lt_zero _))
theorem Pq_AP (k : yFr (AP Λ r) S S') (hr : yo Λ r 5) (tp : yTop Λ p) (tr : yTop Λ r) (hpr : p ≠ r) (hP : yPq Λ S p vs Q) : yPq Λ S' p vs Q := by
  refine yFr_Pq k ?_ (fun s hs => ?_) (fun b hb => ?_) hP
  · rintro (z | z | z | z)
    · exact absurd z (by decide)
    · exact hpr z
    · exact yo_ne tp.1 hr (by decide) z
    · rw [tp.2] at z; exact yo_ne tp.1 hr (by decide) z
  · rintro (z | z | z | z)
    · exact absurd z (by decide)
    · rw [z] at hs; exact yo_ne tr.1 hP.1.1 (by decide) hs
    · exact hpr (hs.symm.trans z)
    · rw [hs] at z; exact yo_ne tp.1 hr (by decide) z
  · have : ¬ (b = r ∨ own Λ b = r ∨ own Λ (own Λ b) = r) := by
      rintro (z | z | z)
      · rw [z, tr.2] at hb; exact yo_ne tr.1 hP.1.1 (by decide) hb
      · rw [z] at hb; exact yo_ne tr.1 hP.1.1 (by decide) hb
      · exact hpr (hb.symm.trans z)
    exact ⟨fun z => z.elim (fun z => absurd z (by decide)) this, fun z => z.elim (fun z => absurd z (by decide)) this⟩
theorem apart_of (hP : yPq Λ S p vs Q) (hR : yPq Λ S r rs QR) (hpr : p ≠ r) {i k : Nat} (hi : i < vs.length) (hk : k < 25) : apart Λ (Q i) (QR k) := by
  have hl := hP.2.2.2.1
  have hi' : i < 25 := by omega
  obtain ⟨v1, h1⟩ := (hP.2.1 i hi').2.2
  obtain ⟨v2, h2⟩ := (hR.2.1 k hk).2.2
  refine ⟨fun e => hpr ?_, ?_, ?_⟩
  · rw [← (hP.2.1 i hi').2.1, e]; exact (hR.2.1 k hk).2.1
  · rw [(hP.2.1 i hi').2.1]; exact yo_ne hP.1.1 h2.1.1 (by decide)
  · rw [(hR.2.1 k hk).2.1]; exact yo_ne hR.1.1 h1.1.1 (by decide)
/-- keeps what has come into the blank one -/
theorem Jo_keep (hW : yW Λ) (hR : yPq Λ S r rs QR) {S1 : yS} (k1 : yAg Λ S S1 (QR rs.length)) (v1 : ySv Λ S1 (QR rs.length) v) (h1 : rs.length < 24 → ∀ S' Q', yFr (AP Λ r) S S' → yPq Λ S' r (addV rs v) Q' → post (some (.int 1)) (yH Λ f0 S')) (h0 : ¬ rs.length < 24 → ∀ S' Q', yFr (AP Λ r) S S' → yPq Λ S' r rs Q' → post (some (.int 0)) (yH Λ f0 S')) : xSp xT0 (d + 3) j_Pa_keepBlank [.ref r] (yH Λ f0 S1) post := by
  have hl := hR.2.2.2.1
  have k1' : yFr (AS Λ (QR rs.length)) S S1 := yFr_ofAg k1
  have k1'' := yFr_mo k1' (AS_AP (hR.2.1 rs.length (by omega)).2.1)
  have hR1 := Pq_AS hR (by omega) (Nat.le_refl _) k1' v1
  exact Pa_keepBlank_sp hW hR1 v1 (fun hlt S2 Q2 k2 hR2 => h1 hlt S2 Q2 (yFr_tr k1'' (yFr_Ag1 k2)) hR2) (fun e => h0 (by omega) S1 QR k1'' hR1)
theorem Jo_keepCopy_sp (hW : yW Λ) (hP : yPq Λ S p vs Q) (hR : yPq Λ S r rs QR) (hpr : p ≠ r) {i : Nat} (hi : i < vs.length) (h1 : rs.length < 24 → ∀ S' Q', yFr (AP Λ r) S S' → yPq Λ S' r (addV rs (vs.getD i sv0)) Q' → post (some (.int 1)) (yH Λ f0 S')) (h0 : ¬ rs.length < 24 → ∀ S' Q', yFr (AP Λ r) S S' → yPq Λ S' r rs Q' → post (some (.int 0)) (yH Λ f0 S')) : xSp xT0 (d + 4) j_Jo_keepCopy [.ref (Q i), .ref r] (yH Λ f0 S) post := by
  have hl := hR.2.2.2.1
  obtain ⟨vb, hvb⟩ := (hR.2.1 rs.length (by omega)).2.2
  refine xSp_of (M := m_Jo_keepCopy) rfl (b_Jo_keepCopy_0 ⟨yex hR.1.1, Pa_blank_sp hR (xvrI ⟨yex hvb.1.1, St_copyOf_sp hW hvb (hP.2.2.2.2.2.1 i hi) (apart_of hP hR hpr hi (by omega)) (fun S1 k1 v1 => xvvI ⟨yex hR.1.1, Jo_keep hW hR k1 v1 (fun hlt S2 Q2 k2 hR2 => xviI ⟨Or.inr rfl, h1 hlt S2 Q2 k2 hR2⟩) (fun hlt S2 Q2 k2 hR2 => xviI ⟨Or.inl rfl, h0 hlt S2 Q2 k2 hR2⟩)⟩)⟩)⟩)
theorem Jo_joinFirst_sp (hW : yW Λ) (hP : yPq Λ S p vs Q) (hQ : yPq Λ S q ws Q') (hR : yPq Λ S r rs QR) (hpr : p ≠ r) (hqr : q ≠ r) {i : Nat} (hi : i < vs.length) (h1 : ∀ S' rs' Q2, kpV (some rs) (jfV ws (vs.getD i sv0)) = some rs' → yFr (AP Λ r) S S' → yPq Λ S' r rs' Q2 → post (some (.int 1)) (yH Λ f0 S')) (h0 : ∀ S' Q2, kpV (some rs) (jfV ws (vs.getD i sv0)) = none → yFr (AP Λ r) S S' → yPq Λ S' r rs Q2 → post (some (.int 0)) (yH Λ f0 S')) : xSp xT0 (d + 5) j_Jo_joinFirst [.ref (Q i), .ref q, .ref r] (yH Λ f0 S) post := by
  have hl := hP.2.2.2.1
  have hl2 := hQ.2.2.2.1
  have hl3 := hR.2.2.2.1
  have hv := hP.2.2.2.2.2.1 i hi
  obtain ⟨vb, hvb⟩ := (hR.2.1 rs.length (by omega)).2.2
  have hk1 : ∀ {v2 : Sv}, jfV ws (vs.getD i sv0) = some v2 → rs.length < 24 → ∀ S2 Q2, yFr (AP Λ r) S S2 → yPq Λ S2 r (addV rs v2) Q2 → post (some (.int 1)) (yH Λ f0 S2) := fun {v2} e hlt S2 Q2 k2 hR2 => h1 S2 _ Q2 (by rw [e]; show (if rs.length < 24 then some (addV rs v2) else none) = _; rw [if_pos hlt]) k2 hR2
  have hk0 : ∀ {v2 : Sv}, jfV ws (vs.getD i sv0) = some v2 → ¬ rs.length < 24 → ∀ S2 Q2, yFr (AP Λ r) S S2 → yPq Λ S2 r rs Q2 → post (some (.int 0)) (yH Λ f0 S2) := fun {v2} e hlt S2 Q2 k2 hR2 => h0 S2 Q2 (by rw [e]; show (if rs.length < 24 then some (addV rs v2) else none) = _; rw [if_neg hlt]) k2 hR2
  have hcp : jfV ws (vs.getD i sv0) = some (vs.getD i sv0) → ∀ {K : Option Value → xH → Prop}, (K = fun w f => xvi w (fun v => (v = 0 ∨ v = 1) ∧ post (some (.int v)) f)) → xSp xT0 (d + 4) j_Jo_keepCopy [.ref (Q i), .ref r] (yH Λ f0 S) K := fun e {K} hK => by
    rw [hK]
    exact Jo_keepCopy_sp hW hP hR hpr hi (fun hlt S2 Q2 k2 hR2 => xviI ⟨Or.inr rfl, hk1 e hlt S2 Q2 k2 hR2⟩) (fun hlt S2 Q2 k2 hR2 => xviI ⟨Or.inl rfl, hk0 e hlt S2 Q2 k2 hR2⟩)
  refine xSp_of (M := m_Jo_joinFirst) rfl (b_Jo_joinFirst_0 ⟨yex hv.1.1, St_hasTarget_sp hv ?_⟩)
  by_cases c : (vs.getD i sv0).1 = 1
  · rw [if_pos c]
    refine ⟨fun _ => ygr hv.1.1 rfl ⟨yex hQ.1.1, Pa_findTarget2 hQ hv.1.2.1.1 hv.2.1.2.1 (xviI (brix (by omega) (fun c2 => hcp ?_ rfl) (fun c2 e2 => ?_)))⟩, fun z => absurd rfl z⟩
    · unfold jfV
      rw [if_neg (fun z => z c), if_neg (fun z => c2 z.1)]
    · rw [e2]
      have hv2 := hQ.2.2.2.2.2.1 _ c2
      refine ⟨yex hQ.1.1, Pa_at_sp hQ c2 (xvrI (ygi hv2.1.1 rfl ?_))⟩
      rw [hv2.2.1.1]
      refine ⟨fun c3 => ?_, fun c3 => hcp ?_ rfl⟩
      · have e : jfV ws (vs.getD i sv0) = some (chgV (vs.getD i sv0) (ws.getD (fTg ws (vs.getD i sv0).2.1) sv0)) := by
          unfold jfV
          rw [if_neg (fun z => z c), if_pos ⟨c2, c3⟩]
        exact ⟨yex hR.1.1, Pa_blank_sp hR (xvrI ⟨yex hQ.1.1, Pa_at_sp hQ c2 (xvrI ⟨yex hvb.1.1, St_changeOf_sp hW hvb hv hv2 (apart_of hP hR hpr hi (by omega)) (apart_of hQ hR hqr c2 (by omega)) (fun S1 k1 v1 => xvvI ⟨yex hR.1.1, Jo_keep hW hR k1 v1 (fun hlt S2 Q2 k2 hR2 => xviI ⟨Or.inr rfl, hk1 e hlt S2 Q2 k2 hR2⟩) (fun hlt S2 Q2 k2 hR2 => xviI ⟨Or.inl rfl, hk0 e hlt S2 Q2 k2 hR2⟩)⟩)⟩)⟩)⟩
      · unfold jfV
        rw [if_neg (fun z => z c), if_neg (fun z => c3 z.2)]
  · rw [if_neg c]
    refine ⟨fun z => absurd z (by decide), fun _ => ygr hv.1.1 rfl ⟨yex hQ.1.1, Pa_findSource2 hQ hv.1.2.1.1 hv.2.1.2.1 (xviI (brixn (by omega) (fun c2 e2 => ?_) (fun c2 => hcp ?_ rfl)))⟩⟩
    · rw [e2]
      have hv2 := hQ.2.2.2.2.2.1 _ c2
      refine ⟨yex hR.1.1, Pa_blank_sp hR (xvrI ⟨yex hQ.1.1, Pa_at_sp hQ c2 (xvrI ⟨yex hvb.1.1, St_joinOf_sp hW hvb hv hv2 (apart_of hP hR hpr hi (by omega)) (apart_of hQ hR hqr c2 (by omega)) (fun hj S1 k1 v1 => xviI ⟨fun z => absurd z (by decide), fun _ => ⟨yex hR.1.1, ?_⟩⟩) (fun hj S1 v' k1 v1 => xviI ⟨fun _ => ?_, fun z => absurd rfl z⟩)⟩)⟩)⟩
      · have e : jfV ws (vs.getD i sv0) = some (joV (vs.getD i sv0) (ws.getD (fSr ws (vs.getD i sv0).2.1) sv0)) := by
          unfold jfV
          rw [if_pos c, if_pos c2, if_pos (show joLd _ _ from hj)]
        exact Jo_keep hW hR k1 v1 (fun hlt S2 Q2 k2 hR2 => xviI ⟨fun z => absurd z (by decide), fun _ => hk1 e hlt S2 Q2 k2 hR2⟩) (fun hlt S2 Q2 k2 hR2 => xviI ⟨fun _ => hk0 e hlt S2 Q2 k2 hR2, fun z => absurd rfl z⟩)
      · have e : jfV ws (vs.getD i sv0) = none := by
          unfold jfV
          rw [if_pos c, if_pos c2, if_neg (show ¬ joLd _ _ from hj)]
        have k1' : yFr (AS Λ (QR rs.length)) S S1 := yFr_ofAg k1
        exact h1 S1 rs QR (by rw [e]; rfl) (yFr_mo k1' (AS_AP (hR.2.1 rs.length (by omega)).2.1)) (Pq_AS hR (by omega) (Nat.le_refl _) k1' v1)
    · unfold jfV
      rw [if_pos c, if_neg c2]
theorem Jo_isJoined_sp (hP : yPq Λ S p vs Q) (hv : ySv Λ S s v) (hp : post (some (.int (bI (isJ vs v)))) (yH Λ f0 S)) : xSp xT0 (d + 5) j_Jo_isJoined [.ref s, .ref p] (yH Λ f0 S) post := by
  have hl := hP.2.2.2.1
  refine xSp_of (M := m_Jo_isJoined) rfl (b_Jo_isJoined_0 ⟨yex hv.1.1, St_hasSource_sp hv ?_⟩)
  unfold isJ at hp
  by_cases c : v.1 = 0
  · rw [if_pos c]
    rw [if_neg (fun z => z c)] at hp
    refine ⟨fun _ => ygr hv.1.1 rfl ⟨yex hP.1.1, Pa_findSource2 hP hv.1.2.1.1 hv.2.1.2.1 (xviI (brix (by omega) (fun c2 => ?_) (fun c2 e2 => ?_)))⟩, fun z => absurd rfl z⟩
    · rw [decide_eq_false (fun z => c2 z.1)] at hp; exact hp
    · rw [e2]
      have hv2 := hP.2.2.2.2.2.1 _ c2
      refine ⟨yex hP.1.1, Pa_at_sp hP c2 (xvrI (ygi hv2.1.1 rfl ?_))⟩
      rw [hv2.2.1.1]
      refine ⟨fun c3 => ?_, fun c3 => ?_⟩
      · rw [decide_eq_false (fun z => c3 z.2)] at hp; exact hp
      · rw [decide_eq_true ⟨c2, Classical.not_not.mp c3⟩] at hp; exact hp
  · rw [if_neg c]
    rw [if_pos c] at hp
    refine ⟨fun z => absurd z (by decide), fun _ => ygr hv.1.1 rfl ⟨yex hP.1.1, Pa_findTarget2 hP hv.1.2.1.2.1 hv.2.1.2.2 (xviI (brix (by omega) (fun c2 => ?_) (fun c2 e2 => ?_)))⟩⟩
    · rw [decide_eq_false c2] at hp; exact hp
    · rw [decide_eq_true c2] at hp; exact hp
theorem Jo_join_sp (hW : yW Λ) (tp : yTop Λ p) (tq : yTop Λ q) (tr : yTop Λ r) (hP : yPq Λ S p vs Q) (hQ : yPq Λ S q ws Q') (hR : yPq Λ S r rs QR) (hpr : p ≠ r) (hqr : q ≠ r) (h1 : ∀ S' rs' Q2, jn2 vs ws ws.length = some rs' → yFr (AP Λ r) S S' → yPq Λ S' r rs' Q2 → post (some (.int 1)) (yH Λ f0 S')) (h0 : ∀ S' rs' Q2, jn2 vs ws ws.length = none → yFr (AP Λ r) S S' → yPq Λ S' r rs' Q2 → post (some (.int 0)) (yH Λ f0 S')) : xSp xT0 (d + 6) j_Jo_join [.ref p, .ref q, .ref r] (yH Λ f0 S) post := by
  have hl := hP.2.2.2.1
  have hl2 := hQ.2.2.2.1
  have hr5 := hR.1.1
  refine xSp_of (M := m_Jo_join) rfl (b_Jo_join_0 ⟨yex hR.1.1, Pa_empty_sp hR.1 (xvvI ?_)⟩)
  have hlo2 : ∀ k, k ≤ ws.length → (∀ S1 rs1 Q1, yFr (AP Λ r) S S1 → yPq Λ S1 r rs1 Q1 → jn2 vs ws k = some rs1 → xWp (xT0, xSp xT0 (d + 5), none, m_Jo_join, post) 37 [some (.ref p), some (.ref q), some (.ref r), some (.int (nI k))] [] (yH Λ f0 S1) 0 0) := by
    refine loopUp ?_ ?_
    · intro S1 rs1 Q1 k1 hR1 e
      have hQ1 := Pq_AP k1 hr5 tq tr hqr hQ
      exact b_Jo_join_37 ⟨yex hQ1.1.1, Pa_size_sp hQ1 (brle (by omega) (by omega) (fun _ => h1 S1 rs1 Q1 e k1 hR1) (fun q => absurd q (by omega)))⟩
    · intro k hk ih S1 rs1 Q1 k1 hR1 e
      have hP1 := Pq_AP k1 hr5 tp tr hpr hP
      have hQ1 := Pq_AP k1 hr5 tq tr hqr hQ
      have es : jn2 vs ws (k + 1) = kpV (some rs1) (if isJ vs (ws.getD k sv0) = true then none else some (ws.getD k sv0)) := by
        unfold jn2 at e ⊢
        rw [rgF, e]
      refine b_Jo_join_37 ⟨yex hQ1.1.1, Pa_size_sp hQ1 (brle (by omega) (by omega) (fun q => absurd q (by omega)) (fun _ => ⟨yex hQ1.1.1, Pa_at_sp hQ1 hk (xvrI (Jo_isJoined_sp hP1 (hQ1.2.2.2.2.2.1 k hk) (xviI (brBn (fun c => ?_) (fun c => ⟨yex hQ1.1.1, Pa_at_sp hQ1 hk (xvrI (Jo_keepCopy_sp hW hQ1 hR1 hqr hk (fun hlt S2 Q2 k2 hR2 => xviI ⟨fun _ => ?_, fun z => absurd (by decide) z⟩) (fun hlt S2 Q2 k2 hR2 => xviI ⟨fun z => absurd rfl z, fun _ => ?_⟩)))⟩)))))⟩))⟩
      · rw [nI_1]
        rw [if_pos c] at es
        exact ih S1 rs1 Q1 k1 hR1 es
      · rw [nI_1]
        rw [if_neg (by rw [c]; decide)] at es
        exact ih S2 _ Q2 (yFr_tr k1 k2) hR2 (by rw [es]; show (if rs1.length < 24 then some (addV rs1 _) else none) = _; rw [if_pos hlt])
      · rw [if_neg (by rw [c]; decide)] at es
        have en : jn2 vs ws (k + 1) = none := by rw [es]; show (if rs1.length < 24 then some (addV rs1 _) else none) = _; rw [if_neg hlt]
        have := fold_none (fun _ => rfl) en (ws.length - (k + 1))
        rw [show k + 1 + (ws.length - (k + 1)) = ws.length by omega] at this
        exact h0 S2 rs1 Q2 this (yFr_tr k1 k2) hR2
  have hlo1 : ∀ k, k ≤ vs.length → (∀ S1 rs1 Q1, yFr (AP Λ r) S S1 → yPq Λ S1 r rs1 Q1 → jn1 vs ws k = some rs1 → xWp (xT0, xSp xT0 (d + 5), none, m_Jo_join, post) 6 [some (.ref p), some (.ref q), some (.ref r), some (.int (nI k))] [] (yH Λ f0 S1) 0 0) := by
    refine loopUp ?_ ?_
    · intro S1 rs1 Q1 k1 hR1 e
      have hP1 := Pq_AP k1 hr5 tp tr hpr hP
      exact b_Jo_join_6 ⟨yex hP1.1.1, Pa_size_sp hP1 (brle (by omega) (by omega) (fun _ => hlo2 0 (Nat.zero_le _) S1 rs1 Q1 k1 hR1 e) (fun q => absurd q (by omega)))⟩
    · intro k hk ih S1 rs1 Q1 k1 hR1 e
      have hP1 := Pq_AP k1 hr5 tp tr hpr hP
      have hQ1 := Pq_AP k1 hr5 tq tr hqr hQ
      have es : jn1 vs ws (k + 1) = kpV (some rs1) (jfV ws (vs.getD k sv0)) := by
        unfold jn1 at e ⊢
        rw [rgF, e]
      refine b_Jo_join_6 ⟨yex hP1.1.1, Pa_size_sp hP1 (brle (by omega) (by omega) (fun q => absurd q (by omega)) (fun _ => ⟨yex hP1.1.1, Pa_at_sp hP1 hk (xvrI (Jo_joinFirst_sp hW hP1 hQ1 hR1 hpr hqr hk (fun S2 rs2 Q2 e2 k2 hR2 => xviI ⟨fun _ => ?_, fun z => absurd (by decide) z⟩) (fun S2 Q2 e2 k2 hR2 => xviI ⟨fun z => absurd rfl z, fun _ => ?_⟩)))⟩))⟩
      · rw [nI_1]
        exact ih S2 rs2 Q2 (yFr_tr k1 k2) hR2 (es.trans e2)
      · have en : jn1 vs ws (k + 1) = none := es.trans e2
        have := fold_none (fun _ => rfl) en (vs.length - (k + 1))
        rw [show k + 1 + (vs.length - (k + 1)) = vs.length by omega] at this
        have e3 : jn1 vs ws vs.length = none := this
        have : jn2 vs ws (0 + ws.length) = none := fold_none (fun _ => rfl) (k := 0) e3 ws.length
        rw [Nat.zero_add] at this
        exact h0 S2 rs1 Q2 this (yFr_tr k1 k2) hR2
  exact hlo1 0 (Nat.zero_le _) _ [] QR (yFr_wI (Or.inr (Or.inl rfl))) (yPq_e hR) rfl
end
