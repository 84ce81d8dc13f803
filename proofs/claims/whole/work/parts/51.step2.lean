/-! 51 Step: what changes it -/
theorem ne_own {Λ : yL} {b b' o s : Nat} (h : own Λ b = o) (h' : own Λ b' = s) (hne : o ≠ s) : b ≠ b' := fun e => hne (h.symm.trans (by rw [e]; exact h'))
/-- o is another object than s, and none owns the other -/
def apart (Λ : yL) (o s : Nat) : Prop := o ≠ s ∧ own Λ o ≠ s ∧ own Λ s ≠ o
section
variable {Λ : yL} {f0 : xH} {S S' : yS} {s o o2 t q r capr capq d : Nat} {v w w2 : Sv} {bs cs : List Nat} {zs : List Int32} {x : Int32} {post : Option Value → xH → Prop}
theorem St_copySource_sp (hv : ySv Λ S s v) (hw : ySv Λ S o w) (ha : apart Λ o s) (h : ∀ S', yAg Λ S S' s → ySv Λ S' s (v.1, v.2.1, v.2.2.1, w.2.2.2.1, w.2.2.2.2.1, v.2.2.2.2.2) → post none (yH Λ f0 S')) : xSp xT0 (d + 1) j_St_copySource [.ref s, .ref o] (yH Λ f0 S) post := by
  refine xSp_of (M := m_St_copySource) rfl (b_St_copySource_0 (ygi hw.1.1 rfl (ypf hv.1.1 rfl (ygi hw.1.1 rfl (ypf hv.1.1 rfl ?_)))))
  have e1 : yI S 4 5 o = w.2.2.2.1 := hw.2.2.1.1
  have e2 : yI (ywI S 4 5 s (yI S 4 5 o)) 4 6 o = w.2.2.2.2.1 := (ywI_ne _ _ (by omega)).trans hw.2.2.1.2.1
  rw [e2, e1]
  exact h _ (yAg_tr yAg_I yAg_I) (ySv_6 (ySv_5 hv))
theorem St_copyTarget_sp (hv : ySv Λ S s v) (hw : ySv Λ S o w) (ha : apart Λ o s) (h : ∀ S', yAg Λ S S' s → ySv Λ S' s (v.1, v.2.1, v.2.2.1, v.2.2.2.1, v.2.2.2.2.1, w.2.2.2.2.2.1, w.2.2.2.2.2.2.1, v.2.2.2.2.2.2.2) → post none (yH Λ f0 S')) : xSp xT0 (d + 1) j_St_copyTarget [.ref s, .ref o] (yH Λ f0 S) post := by
  refine xSp_of (M := m_St_copyTarget) rfl (b_St_copyTarget_0 (ygi hw.1.1 rfl (ypf hv.1.1 rfl (ygi hw.1.1 rfl (ypf hv.1.1 rfl ?_)))))
  have e1 : yI S 4 7 o = w.2.2.2.2.2.1 := hw.2.2.1.2.2.1
  have e2 : yI (ywI S 4 7 s (yI S 4 7 o)) 4 8 o = w.2.2.2.2.2.2.1 := (ywI_ne _ _ (by omega)).trans hw.2.2.1.2.2.2
  rw [e2, e1]
  exact h _ (yAg_tr yAg_I yAg_I) (ySv_8 (ySv_7 hv))
/-- a PATH of another object comes into PATH -/
theorem St_cpP (hW : yW Λ) (hv : ySv Λ S s v) (hR : yB Λ r capr) (hr : yBv S r capr bs) (hb : bs.length ≤ 17) (ho : own Λ r ≠ s) (h : ∀ S', yAg Λ S S' s → ySv Λ S' s (v.1, bs, v.2.2) → post none (yH Λ f0 S')) : (∃ fs, yH Λ f0 S (yP Λ s) = some (xO 1 fs)) ∧ xSp xT0 (d + 1) j_By_copyOf [.ref (yP Λ s), .ref r] (yH Λ f0 S) post :=
  ⟨yex hv.1.2.1.1.1, By_copyOf_sp hW hv.1.2.1.1 hR (fun e => ho (by rw [e]; exact hv.1.2.2.1.1)) hr hb (fun _ hg => h _ (yAg_Bw hv.1.2.2.1.1) (ySv_p hv hg))⟩
theorem St_cpF (hW : yW Λ) (hv : ySv Λ S s v) (hR : yB Λ r capr) (hr : yBv S r capr bs) (hb : bs.length ≤ 17) (ho : own Λ r ≠ s) (h : ∀ S', yAg Λ S S' s → ySv Λ S' s (v.1, v.2.1, bs, v.2.2.2) → post none (yH Λ f0 S')) : (∃ fs, yH Λ f0 S (yF Λ s) = some (xO 1 fs)) ∧ xSp xT0 (d + 1) j_By_copyOf [.ref (yF Λ s), .ref r] (yH Λ f0 S) post :=
  ⟨yex hv.1.2.1.2.1.1, By_copyOf_sp hW hv.1.2.1.2.1 hR (fun e => ho (by rw [e]; exact hv.1.2.2.1.2.1)) hr hb (fun _ hg => h _ (yAg_Bw hv.1.2.2.1.2.1) (ySv_f hv hg))⟩
theorem St_cpD (hW : yW Λ) (hv : ySv Λ S s v) (hR : yD Λ r) (hr : yDv S r zs) (ho : own Λ r ≠ s) (h : ∀ S', yAg Λ S S' s → ySv Λ S' s (v.1, v.2.1, v.2.2.1, v.2.2.2.1, v.2.2.2.2.1, v.2.2.2.2.2.1, v.2.2.2.2.2.2.1, zs, v.2.2.2.2.2.2.2.2) → post none (yH Λ f0 S')) : (∃ fs, yH Λ f0 S (yDe Λ s) = some (xO 3 fs)) ∧ xSp xT0 (d + 1) j_De_copyOf [.ref (yDe Λ s), .ref r] (yH Λ f0 S) post :=
  ⟨yex hv.1.2.1.2.2.1.1, De_copyOf_sp hW hv.1.2.1.2.2.1 hR (fun e => ho (by rw [e]; exact hv.1.2.2.1.2.2.1)) hr (fun _ hg => h _ (yAg_Dw hv.1.2.2.1.2.2.1) (ySv_d hv hg))⟩
theorem St_cpB (hW : yW Λ) (hv : ySv Λ S s v) (hR : yD Λ r) (hr : yDv S r zs) (ho : own Λ r ≠ s) (h : ∀ S', yAg Λ S S' s → ySv Λ S' s (v.1, v.2.1, v.2.2.1, v.2.2.2.1, v.2.2.2.2.1, v.2.2.2.2.2.1, v.2.2.2.2.2.2.1, v.2.2.2.2.2.2.2.1, zs) → post none (yH Λ f0 S')) : (∃ fs, yH Λ f0 S (yBa Λ s) = some (xO 3 fs)) ∧ xSp xT0 (d + 1) j_De_copyOf [.ref (yBa Λ s), .ref r] (yH Λ f0 S) post :=
  ⟨yex hv.1.2.1.2.2.2.1, De_copyOf_sp hW hv.1.2.1.2.2.2 hR (fun e => ho (by rw [e]; exact hv.1.2.2.1.2.2.2)) hr (fun _ hg => h _ (yAg_Dw hv.1.2.2.1.2.2.2) (ySv_b hv hg))⟩
theorem ap_own (hw : ySv Λ S o w) (ha : apart Λ o s) : own Λ (yP Λ o) ≠ s ∧ own Λ (yF Λ o) ≠ s ∧ own Λ (yDe Λ o) ≠ s ∧ own Λ (yBa Λ o) ≠ s := by
  obtain ⟨a1, a2, a3, a4⟩ := hw.1.2.2.1
  exact ⟨by rw [a1]; exact ha.1, by rw [a2]; exact ha.1, by rw [a3]; exact ha.1, by rw [a4]; exact ha.1⟩
theorem St_copyOf_sp (hW : yW Λ) (hv : ySv Λ S s v) (hw : ySv Λ S o w) (ha : apart Λ o s) (h : ∀ S', yAg Λ S S' s → ySv Λ S' s w → post none (yH Λ f0 S')) : xSp xT0 (d + 2) j_St_copyOf [.ref s, .ref o] (yH Λ f0 S) post := by
  obtain ⟨o1, o2, o3, o4⟩ := ap_own hw ha
  refine xSp_of (M := m_St_copyOf) rfl (b_St_copyOf_0 (ygi hw.1.1 rfl (ypf hv.1.1 rfl ?_)))
  rw [hw.2.1.1]
  have k1 : yAg Λ S (ywI S 4 4 s w.1) s := yAg_I
  have hw1 := yAg_Sv k1 ha.1 ha.2.1 ha.2.2 hw
  refine ygr hv.1.1 rfl (ygr hw.1.1 rfl (St_cpP hW (ySv_4 hv) hw.1.2.1.1 hw1.2.1.2.1 hw1.2.1.2.1.1 o1 (fun S2 k2 v2 => ?_)))
  have k2 := yAg_tr k1 k2
  have hw2 := yAg_Sv k2 ha.1 ha.2.1 ha.2.2 hw
  refine ygr hv.1.1 rfl (ygr hw.1.1 rfl (St_cpF hW v2 hw.1.2.1.2.1 hw2.2.1.2.2 hw2.2.1.2.2.1 o2 (fun S3 k3 v3 => ?_)))
  have k3 := yAg_tr k2 k3
  have hw3 := yAg_Sv k3 ha.1 ha.2.1 ha.2.2 hw
  refine ⟨yex hv.1.1, St_copySource_sp v3 hw3 ha (fun S4 k4 v4 => ?_)⟩
  have k4 := yAg_tr k3 k4
  have hw4 := yAg_Sv k4 ha.1 ha.2.1 ha.2.2 hw
  refine ⟨yex hv.1.1, St_copyTarget_sp v4 hw4 ha (fun S5 k5 v5 => ?_)⟩
  have k5 := yAg_tr k4 k5
  have hw5 := yAg_Sv k5 ha.1 ha.2.1 ha.2.2 hw
  refine ygr hv.1.1 rfl (ygr hw.1.1 rfl (St_cpD hW v5 hw.1.2.1.2.2.1 hw5.2.2.2.1 o3 (fun S6 k6 v6 => ?_)))
  have k6 := yAg_tr k5 k6
  have hw6 := yAg_Sv k6 ha.1 ha.2.1 ha.2.2 hw
  refine ygr hv.1.1 rfl (ygr hw.1.1 rfl (St_cpB hW v6 hw.1.2.1.2.2.2 hw6.2.2.2.2 o4 (fun S7 k7 v7 => ?_)))
  exact h S7 (yAg_tr k6 k7) v7
/-- the INVERSE of a STEP -/
def invV (w : Sv) : Sv := (if w.1 = 0 then 1 else if w.1 = 1 then 0 else w.1, w.2.2.1, w.2.1, w.2.2.2.2.2.1, w.2.2.2.2.2.2.1, w.2.2.2.1, w.2.2.2.2.1, w.2.2.2.2.2.2.2.2, w.2.2.2.2.2.2.2.1)
theorem St_inverseOf_28 (hW : yW Λ) (hv : ySv Λ S s v) (hw : ySv Λ S o w) (ha : apart Λ o s) {b : Int32} {E : Option Value → xH → Prop} (h : ∀ S', yAg Λ S S' s → ySv Λ S' s (b, (invV w).2) → E none (yH Λ f0 S')) : xWp (xT0, xSp xT0 (d + 1), none, m_St_inverseOf, E) 28 [some (.ref s), some (.ref o)] [.int b, .ref s] (yH Λ f0 S) 0 0 := by
  obtain ⟨o1, o2, o3, o4⟩ := ap_own hw ha
  refine b_St_inverseOf_28 (ypf hv.1.1 rfl ?_)
  have k1 : yAg Λ S (ywI S 4 4 s b) s := yAg_I
  have hw1 := yAg_Sv k1 ha.1 ha.2.1 ha.2.2 hw
  refine ygr hv.1.1 rfl (ygr hw.1.1 rfl (St_cpP hW (ySv_4 hv) hw.1.2.1.2.1 hw1.2.1.2.2 hw1.2.1.2.2.1 o2 (fun S2 k2 v2 => ?_)))
  have k2 := yAg_tr k1 k2
  have hw2 := yAg_Sv k2 ha.1 ha.2.1 ha.2.2 hw
  refine ygr hv.1.1 rfl (ygr hw.1.1 rfl (St_cpF hW v2 hw.1.2.1.1 hw2.2.1.2.1 hw2.2.1.2.1.1 o1 (fun S3 k3 v3 => ?_)))
  have k3 := yAg_tr k2 k3
  have hw3 := yAg_Sv k3 ha.1 ha.2.1 ha.2.2 hw
  refine ygi hw.1.1 rfl (ypf hv.1.1 rfl ?_)
  rw [hw3.2.2.1.2.2.1]
  have v4 := ySv_5 (x := w.2.2.2.2.2.1) v3
  have k4 : yAg Λ S (ywI S3 4 5 s w.2.2.2.2.2.1) s := yAg_tr k3 yAg_I
  have hw4 := yAg_Sv k4 ha.1 ha.2.1 ha.2.2 hw
  refine ygi hw.1.1 rfl (ypf hv.1.1 rfl ?_)
  rw [hw4.2.2.1.2.2.2]
  have v5 := ySv_6 (x := w.2.2.2.2.2.2.1) v4
  have k5 := yAg_tr k4 (yAg_I (Λ := Λ) (S := ywI S3 4 5 s w.2.2.2.2.2.1) (t := s) (c := 4) (j := 6) (v := w.2.2.2.2.2.2.1))
  have hw5 := yAg_Sv k5 ha.1 ha.2.1 ha.2.2 hw
  refine ygi hw.1.1 rfl (ypf hv.1.1 rfl ?_)
  rw [hw5.2.2.1.1]
  have v6 := ySv_7 (x := w.2.2.2.1) v5
  have k6 := yAg_tr k5 (yAg_I (Λ := Λ) (t := s) (c := 4) (j := 7) (v := w.2.2.2.1))
  have hw6 := yAg_Sv k6 ha.1 ha.2.1 ha.2.2 hw
  refine ygi hw.1.1 rfl (ypf hv.1.1 rfl ?_)
  rw [hw6.2.2.1.2.1]
  have v7 := ySv_8 (x := w.2.2.2.2.1) v6
  have k7 := yAg_tr k6 (yAg_I (Λ := Λ) (t := s) (c := 4) (j := 8) (v := w.2.2.2.2.1))
  have hw7 := yAg_Sv k7 ha.1 ha.2.1 ha.2.2 hw
  refine ygr hv.1.1 rfl (ygr hw.1.1 rfl (St_cpD hW v7 hw.1.2.1.2.2.2 hw7.2.2.2.2 o4 (fun S8 k8 v8 => ?_)))
  have k8 := yAg_tr k7 k8
  have hw8 := yAg_Sv k8 ha.1 ha.2.1 ha.2.2 hw
  refine ygr hv.1.1 rfl (ygr hw.1.1 rfl (St_cpB hW v8 hw.1.2.1.2.2.1 hw8.2.2.2.1 o3 (fun S9 k9 v9 => ?_)))
  exact h S9 (yAg_tr k8 k9) v9
theorem St_inverseOf_sp (hW : yW Λ) (hv : ySv Λ S s v) (hw : ySv Λ S o w) (ha : apart Λ o s) (h : ∀ S', yAg Λ S S' s → ySv Λ S' s (invV w) → post none (yH Λ f0 S')) : xSp xT0 (d + 2) j_St_inverseOf [.ref s, .ref o] (yH Λ f0 S) post := by
  refine xSp_of (M := m_St_inverseOf) rfl (b_St_inverseOf_0 (ygi hw.1.1 rfl ?_))
  rw [hw.2.1.1]
  refine ⟨fun c => ygi hw.1.1 rfl ?_, fun c => St_inverseOf_28 hW hv hw ha ?_⟩
  · rw [hw.2.1.1]
    refine ⟨fun c2 => ygi hw.1.1 rfl ?_, fun c2 => St_inverseOf_28 hW hv hw ha ?_⟩
    · rw [hw.2.1.1]
      refine St_inverseOf_28 hW hv hw ha ?_
      have e : (w.1, (invV w).2) = invV w := by unfold invV; rw [if_neg c, if_neg c2]
      rw [e]
      exact h
    · have e : ((0 : Int32), (invV w).2) = invV w := by unfold invV; rw [if_neg c, if_pos (Classical.not_not.mp c2)]
      rw [e]
      exact h
  · have e : ((1 : Int32), (invV w).2) = invV w := by unfold invV; rw [if_pos (Classical.not_not.mp c)]
    rw [e]
    exact h
/-- CHANGE out of a DROP w and an ADD w2 -/
def chgV (w w2 : Sv) : Sv := (2, w2.2.1, w.2.1, w.2.2.2.1, w.2.2.2.2.1, w2.2.2.2.2.2.1, w2.2.2.2.2.2.2.1, w2.2.2.2.2.2.2.2.1, w.2.2.2.2.2.2.2.2)
theorem St_changeOf_sp (hW : yW Λ) (hv : ySv Λ S s v) (hw : ySv Λ S o w) (hw2 : ySv Λ S o2 w2) (ha : apart Λ o s) (ha2 : apart Λ o2 s) (h : ∀ S', yAg Λ S S' s → ySv Λ S' s (chgV w w2) → post none (yH Λ f0 S')) : xSp xT0 (d + 2) j_St_changeOf [.ref s, .ref o, .ref o2] (yH Λ f0 S) post := by
  obtain ⟨o1, p2, o3, o4⟩ := ap_own hw ha
  obtain ⟨q1, q2, q3, q4⟩ := ap_own hw2 ha2
  refine xSp_of (M := m_St_changeOf) rfl (b_St_changeOf_0 (ypf hv.1.1 rfl ?_))
  have k1 : yAg Λ S (ywI S 4 4 s 2) s := yAg_I
  have a1 := yAg_Sv k1 ha2.1 ha2.2.1 ha2.2.2 hw2
  refine ygr hv.1.1 rfl (ygr hw2.1.1 rfl (St_cpP hW (ySv_4 hv) hw2.1.2.1.1 a1.2.1.2.1 a1.2.1.2.1.1 q1 (fun S2 k2 v2 => ?_)))
  have k2 := yAg_tr k1 k2
  have b2 := yAg_Sv k2 ha.1 ha.2.1 ha.2.2 hw
  refine ygr hv.1.1 rfl (ygr hw.1.1 rfl (St_cpF hW v2 hw.1.2.1.1 b2.2.1.2.1 b2.2.1.2.1.1 o1 (fun S3 k3 v3 => ?_)))
  have k3 := yAg_tr k2 k3
  have b3 := yAg_Sv k3 ha.1 ha.2.1 ha.2.2 hw
  refine ⟨yex hv.1.1, St_copySource_sp v3 b3 ha (fun S4 k4 v4 => ?_)⟩
  have k4 := yAg_tr k3 k4
  have a4 := yAg_Sv k4 ha2.1 ha2.2.1 ha2.2.2 hw2
  refine ⟨yex hv.1.1, St_copyTarget_sp v4 a4 ha2 (fun S5 k5 v5 => ?_)⟩
  have k5 := yAg_tr k4 k5
  have a5 := yAg_Sv k5 ha2.1 ha2.2.1 ha2.2.2 hw2
  refine ygr hv.1.1 rfl (ygr hw2.1.1 rfl (St_cpD hW v5 hw2.1.2.1.2.2.1 a5.2.2.2.1 q3 (fun S6 k6 v6 => ?_)))
  have k6 := yAg_tr k5 k6
  have b6 := yAg_Sv k6 ha.1 ha.2.1 ha.2.2 hw
  refine ygr hv.1.1 rfl (ygr hw.1.1 rfl (St_cpB hW v6 hw.1.2.1.2.2.2 b6.2.2.2.2 o4 (fun S7 k7 v7 => ?_)))
  exact h S7 (yAg_tr k6 k7) v7
/-- PATH and content of a SOURCE -/
theorem St_setSource_sp (hW : yW Λ) (hv : ySv Λ S s v) (hR : yB Λ r capr) (hr : yBv S r capr bs) (hb : bs.length ≤ 17) (ho : own Λ r ≠ s) (hQ : yB Λ q capq) (hq : yBv S q capq cs) (hqs : q ≠ s) (hoq : own Λ q ≠ s) (h : ∀ S', yAg Λ S S' s → ySv Λ S' s (v.1, v.2.1, bs, (if v.1 = 0 then -2 else nI cs.length), (if v.1 = 0 then -2 else nI (sumB cs)), v.2.2.2.2.2) → post none (yH Λ f0 S')) : xSp xT0 (d + 2) j_St_setSource [.ref s, .ref r, .ref q] (yH Λ f0 S) post := by
  have h25 : ∀ S1, yAg Λ S S1 s → ySv Λ S1 s (v.1, v.2.1, bs, v.2.2.2) → xWp (xT0, xSp xT0 (d + 1), none, m_St_setSource, post) 25 [some (.ref s), some (.ref r), some (.ref q)] [.int (if v.1 = 0 then -2 else nI cs.length), .ref s] (yH Λ f0 S1) 0 0 := by
    intro S1 k1 v1
    refine b_St_setSource_25 (ypf hv.1.1 rfl ⟨yex hv.1.1, St_hasSource_sp (ySv_5 v1) ?_⟩)
    have k2 := yAg_tr k1 (yAg_I (Λ := Λ) (t := s) (c := 4) (j := 5) (v := if v.1 = 0 then -2 else nI cs.length))
    by_cases c : v.1 = 0
    · simp only [if_pos c] at h k2 v1 ⊢
      exact ⟨fun _ => ypf hv.1.1 rfl (h _ (yAg_tr k2 yAg_I) (ySv_6 (ySv_5 v1))), fun z => absurd rfl z⟩
    · simp only [if_neg c] at h k2 v1 ⊢
      exact ⟨fun z => absurd z (by decide), fun _ => ⟨yex hQ.1, By_sum_sp hQ (yAg_Bv k2 hqs hoq hq) (ypf hv.1.1 rfl (h _ (yAg_tr k2 yAg_I) (ySv_6 (ySv_5 v1))))⟩⟩
  refine xSp_of (M := m_St_setSource) rfl (b_St_setSource_0 (ygr hv.1.1 rfl (St_cpF hW hv hR hr hb ho (fun S1 k1 v1 => ⟨yex hv.1.1, St_hasSource_sp v1 ?_⟩))))
  have := h25 S1 k1 v1
  by_cases c : v.1 = 0
  · simp only [if_pos c] at this ⊢
    exact ⟨fun _ => this, fun z => absurd rfl z⟩
  · simp only [if_neg c] at this ⊢
    exact ⟨fun z => absurd z (by decide), fun _ => ⟨yex hQ.1, By_size_sp hQ (yAg_Bv k1 hqs hoq hq) this⟩⟩
theorem St_setTarget_sp (hW : yW Λ) (hv : ySv Λ S s v) (hR : yB Λ r capr) (hr : yBv S r capr bs) (hb : bs.length ≤ 17) (ho : own Λ r ≠ s) (hQ : yB Λ q capq) (hq : yBv S q capq cs) (hqs : q ≠ s) (hoq : own Λ q ≠ s) (h : ∀ S', yAg Λ S S' s → ySv Λ S' s (v.1, bs, v.2.2.1, v.2.2.2.1, v.2.2.2.2.1, (if v.1 = 1 then -2 else nI cs.length), (if v.1 = 1 then -2 else nI (sumB cs)), v.2.2.2.2.2.2.2) → post none (yH Λ f0 S')) : xSp xT0 (d + 2) j_St_setTarget [.ref s, .ref r, .ref q] (yH Λ f0 S) post := by
  have h25 : ∀ S1, yAg Λ S S1 s → ySv Λ S1 s (v.1, bs, v.2.2) → xWp (xT0, xSp xT0 (d + 1), none, m_St_setTarget, post) 25 [some (.ref s), some (.ref r), some (.ref q)] [.int (if v.1 = 1 then -2 else nI cs.length), .ref s] (yH Λ f0 S1) 0 0 := by
    intro S1 k1 v1
    refine b_St_setTarget_25 (ypf hv.1.1 rfl ⟨yex hv.1.1, St_hasTarget_sp (ySv_7 v1) ?_⟩)
    have k2 := yAg_tr k1 (yAg_I (Λ := Λ) (t := s) (c := 4) (j := 7) (v := if v.1 = 1 then -2 else nI cs.length))
    by_cases c : v.1 = 1
    · simp only [if_pos c] at h k2 v1 ⊢
      exact ⟨fun _ => ypf hv.1.1 rfl (h _ (yAg_tr k2 yAg_I) (ySv_8 (ySv_7 v1))), fun z => absurd rfl z⟩
    · simp only [if_neg c] at h k2 v1 ⊢
      exact ⟨fun z => absurd z (by decide), fun _ => ⟨yex hQ.1, By_sum_sp hQ (yAg_Bv k2 hqs hoq hq) (ypf hv.1.1 rfl (h _ (yAg_tr k2 yAg_I) (ySv_8 (ySv_7 v1))))⟩⟩
  refine xSp_of (M := m_St_setTarget) rfl (b_St_setTarget_0 (ygr hv.1.1 rfl (St_cpP hW hv hR hr hb ho (fun S1 k1 v1 => ⟨yex hv.1.1, St_hasTarget_sp v1 ?_⟩))))
  have := h25 S1 k1 v1
  by_cases c : v.1 = 1
  · simp only [if_pos c] at this ⊢
    exact ⟨fun _ => this, fun z => absurd rfl z⟩
  · simp only [if_neg c] at this ⊢
    exact ⟨fun z => absurd z (by decide), fun _ => ⟨yex hQ.1, By_size_sp hQ (yAg_Bv k1 hqs hoq hq) this⟩⟩
end
