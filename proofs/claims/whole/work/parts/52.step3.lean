/-! 52 Step: joinOf: one STEP out of two -/
def joP (w w2 : Sv) : List Nat := if w2.1 = 1 then w.2.2.1 else w2.2.1
def joF (w w2 : Sv) : List Nat := if w.1 = 0 then w2.2.1 else w.2.2.1
def joD (w w2 : Sv) : List Int32 := joinD w.2.2.2.2.2.2.2.1 w2.2.2.2.2.2.2.2.1
def joB (w w2 : Sv) : List Int32 := joinD w2.2.2.2.2.2.2.2.2 w.2.2.2.2.2.2.2.2
abbrev joW (w w2 : Sv) : Prop := nI (joD w w2).length = w.2.2.2.1 ∧ joD w w2 = whoD (joD w w2).length
/-- what sort it is -/
def joK (w w2 : Sv) : Int32 := if w.1 = 0 then 0 else if w2.1 = 1 then 1 else if joP w w2 = joF w w2 then 2 else if joW w w2 then 3 else 4
/-- is something left of the two -/
def joL (w w2 : Sv) : Prop := ¬ (w.1 = 0 ∧ w2.1 = 1) ∧ (w.1 = 0 ∨ w2.1 = 1 ∨ ¬ joP w w2 = joF w w2 ∨ ¬ joW w w2)
def joV (w w2 : Sv) : Sv := (joK w w2, joP w w2, joF w w2, w.2.2.2.1, w.2.2.2.2.1, w2.2.2.2.2.2.1, w2.2.2.2.2.2.2.1, joD w w2, joB w w2)
section
variable {Λ : yL} {f0 : xH} {S S' : yS} {s o o2 d : Nat} {v w w2 : Sv} {x : Int32} {post : Option Value → xH → Prop}
theorem St_join_105 (hW : yW Λ) (hs : ySt Λ s) (hw : ySv Λ S o w) (hw2 : ySv Λ S o2 w2) (ha : apart Λ o s) (ha2 : apart Λ o2 s) (hno : ¬ (w.1 = 0 ∧ w2.1 = 1)) (h1 : joL w w2 → ∀ S', yAg Λ S S' s → ySv Λ S' s (joV w w2) → post (some (.int 1)) (yH Λ f0 S')) (h0 : ¬ joL w w2 → ∀ S' v', yAg Λ S S' s → ySv Λ S' s v' → post (some (.int 0)) (yH Λ f0 S')) {S1 : yS} {x1 : Int32} {fr : List Nat} {u3 u4 : Option Value} {r : Nat} (k1 : yAg Λ S S1 s) (v1 : ySv Λ S1 s (x1, joP w w2, fr, w.2.2.2.1, w.2.2.2.2.1, w2.2.2.2.2.2.1, w2.2.2.2.2.2.2.1, joD w w2, joB w w2)) (hR : yB Λ r 17) (hr : yBv S1 r 17 (joF w w2)) (hor : own Λ r ≠ s) : xWp (xT0, xSp xT0 (d + 2), none, m_St_joinOf, post) 105 [some (.ref s), some (.ref o), some (.ref o2), u3, u4] [.ref r, .ref (yF Λ s)] (yH Λ f0 S1) 0 0 := by
  refine b_St_joinOf_105 (St_cpF hW v1 hR hr hr.1 hor (fun S2 k2 v2 => ygi hw.1.1 rfl ?_))
  have k2 := yAg_tr k1 k2
  have a2 := yAg_Sv k2 ha.1 ha.2.1 ha.2.2 hw
  have b2 := yAg_Sv k2 ha2.1 ha2.2.1 ha2.2.2 hw2
  rw [a2.2.1.1]
  have h123 : w.1 = 0 ∨ w2.1 = 1 → xWp (xT0, xSp xT0 (d + 2), none, m_St_joinOf, post) 123 [some (.ref s), some (.ref o), some (.ref o2), u3, u4] [] (yH Λ f0 S2) 0 0 := by
    intro hc
    have hL : joL w w2 := ⟨hno, by rcases hc with q | q; exact Or.inl q; exact Or.inr (Or.inl q)⟩
    refine b_St_joinOf_123 (ygi hw.1.1 rfl ?_)
    rw [a2.2.1.1]
    refine ⟨fun c => ypf hs.1 rfl (h1 hL _ (yAg_tr k2 yAg_I) ?_), fun c => ypf hs.1 rfl (h1 hL _ (yAg_tr k2 yAg_I) ?_)⟩
    · have e : joK w w2 = 1 := by unfold joK; rw [if_neg c, if_pos (hc.resolve_left c)]
      have := ySv_4 (x := 1) v2
      rw [← e] at this ⊢
      exact this
    · have e : joK w w2 = 0 := by unfold joK; rw [if_pos (Classical.not_not.mp c)]
      have := ySv_4 (x := 0) v2
      rw [← e] at this ⊢
      exact this
  refine ⟨fun c => h123 (Or.inl c), fun c => ygi hw2.1.1 rfl ?_⟩
  rw [b2.2.1.1]
  refine ⟨fun c2 => ?_, fun c2 => h123 (Or.inr (Classical.not_not.mp c2))⟩
  refine ygr hs.1 rfl (ygr hs.1 rfl ⟨yex hs.2.1.1.1, By_equalTo_sp hs.2.1.1 hs.2.1.2.1 v2.2.1.2.1 v2.2.1.2.2 (ygr hs.1 rfl (ygi hs.1 rfl ⟨yex hs.2.1.2.2.1.1, De_isWhole_sp hs.2.1.2.2.1 v2.2.2.2.1 ?_⟩))⟩)
  rw [v2.2.2.1.1]
  dsimp only
  have h185 : ∀ (b3 b4 : Int32) (z : Int32), (b3 = 0 ↔ ¬ joP w w2 = joF w w2) → (b4 = 0 ↔ ¬ joW w w2) → z = joK w w2 → xWp (xT0, xSp xT0 (d + 2), none, m_St_joinOf, post) 185 [some (.ref s), some (.ref o), some (.ref o2), some (.int b3), some (.int b4)] [.int z, .ref s] (yH Λ f0 S2) 0 0 := by
    intro b3 b4 z e3 e4 ez
    have v3 := ySv_4 (x := z) v2
    refine b_St_joinOf_185 (ypf hs.1 rfl ⟨fun c3 => ?_, fun c3 => ⟨fun c4 => ?_, fun c4 => ?_⟩⟩)
    · rw [ez] at v3 ⊢
      exact h1 ⟨hno, Or.inr (Or.inr (Or.inl (e3.mp c3)))⟩ _ (yAg_tr k2 yAg_I) v3
    · refine h0 (fun q => ?_) _ _ (yAg_tr k2 yAg_I) v3
      rcases q.2 with q | q | q | q
      · exact c q
      · exact c2 q
      · exact c3 (e3.mpr q)
      · exact c4 (e4.mpr q)
    · rw [ez] at v3 ⊢
      exact h1 ⟨hno, Or.inr (Or.inr (Or.inr (e4.mp (Classical.not_not.mp c4))))⟩ _ (yAg_tr k2 yAg_I) v3
  have hK : joK w w2 = if joP w w2 = joF w w2 then 2 else if joW w w2 then 3 else 4 := by unfold joK; rw [if_neg c, if_neg c2]
  by_cases e3 : joP w w2 = joF w w2
  · rw [if_pos e3] at hK
    rw [if_pos e3]
    refine ⟨fun q => absurd q (by decide), fun _ => ?_⟩
    by_cases e4 : joW w w2
    · rw [if_pos (show _ ∧ _ from e4)]
      exact h185 1 1 2 ⟨fun q => absurd q (by decide), fun q => absurd e3 q⟩ ⟨fun q => absurd q (by decide), fun q => absurd e4 q⟩ hK.symm
    · rw [if_neg (show ¬ (_ ∧ _) from e4)]
      exact h185 1 0 2 ⟨fun q => absurd q (by decide), fun q => absurd e3 q⟩ ⟨fun _ => e4, fun _ => rfl⟩ hK.symm
  · rw [if_neg e3] at hK
    rw [if_neg e3]
    refine ⟨fun _ => ?_, fun q => absurd rfl q⟩
    by_cases e4 : joW w w2
    · rw [if_pos e4] at hK
      rw [if_pos (show _ ∧ _ from e4)]
      exact ⟨fun q => absurd q (by decide), fun _ => h185 0 1 3 ⟨fun _ => e3, fun _ => rfl⟩ ⟨fun q => absurd q (by decide), fun q => absurd e4 q⟩ hK.symm⟩
    · rw [if_neg e4] at hK
      rw [if_neg (show ¬ (_ ∧ _) from e4)]
      exact ⟨fun _ => h185 0 0 4 ⟨fun _ => e3, fun _ => rfl⟩ ⟨fun _ => e4, fun _ => rfl⟩ hK.symm, fun q => absurd rfl q⟩
theorem St_join_57 (hW : yW Λ) (hs : ySt Λ s) (hw : ySv Λ S o w) (hw2 : ySv Λ S o2 w2) (ha : apart Λ o s) (ha2 : apart Λ o2 s) (hno : ¬ (w.1 = 0 ∧ w2.1 = 1)) (h1 : joL w w2 → ∀ S', yAg Λ S S' s → ySv Λ S' s (joV w w2) → post (some (.int 1)) (yH Λ f0 S')) (h0 : ¬ joL w w2 → ∀ S' v', yAg Λ S S' s → ySv Λ S' s v' → post (some (.int 0)) (yH Λ f0 S')) {S1 : yS} {x1 : Int32} {pa fr : List Nat} {u3 u4 : Option Value} (k1 : yAg Λ S S1 s) (v1 : ySv Λ S1 s (x1, pa, fr, w.2.2.2.1, w.2.2.2.2.1, w2.2.2.2.2.2.1, w2.2.2.2.2.2.2.1, joD w w2, joB w w2)) : xWp (xT0, xSp xT0 (d + 2), none, m_St_joinOf, post) 57 [some (.ref s), some (.ref o), some (.ref o2), u3, u4] [] (yH Λ f0 S1) 0 0 := by
  obtain ⟨o1, p2, o3, o4⟩ := ap_own hw ha
  obtain ⟨q1, q2, q3, q4⟩ := ap_own hw2 ha2
  have a1 := yAg_Sv k1 ha.1 ha.2.1 ha.2.2 hw
  have b1 := yAg_Sv k1 ha2.1 ha2.2.1 ha2.2.2 hw2
  have h80 : ∀ r, yB Λ r 17 → yBv S1 r 17 (joP w w2) → own Λ r ≠ s → xWp (xT0, xSp xT0 (d + 2), none, m_St_joinOf, post) 80 [some (.ref s), some (.ref o), some (.ref o2), u3, u4] [.ref r, .ref (yP Λ s)] (yH Λ f0 S1) 0 0 := by
    intro r hR hr hor
    refine b_St_joinOf_80 (St_cpP hW v1 hR hr hr.1 hor (fun S2 k2 v2 => ygr hs.1 rfl (ygi hw.1.1 rfl ?_)))
    have k2 := yAg_tr k1 k2
    have a2 := yAg_Sv k2 ha.1 ha.2.1 ha.2.2 hw
    have b2 := yAg_Sv k2 ha2.1 ha2.2.1 ha2.2.2 hw2
    rw [a2.2.1.1]
    refine ⟨fun c => ygr hw.1.1 rfl ?_, fun c => ygr hw2.1.1 rfl ?_⟩
    · have e : joF w w2 = w.2.2.1 := by unfold joF; rw [if_neg c]
      exact St_join_105 hW hs hw hw2 ha ha2 hno h1 h0 k2 v2 hw.1.2.1.2.1 (by rw [e]; exact a2.2.1.2.2) p2
    · have e : joF w w2 = w2.2.1 := by unfold joF; rw [if_pos (Classical.not_not.mp c)]
      exact St_join_105 hW hs hw hw2 ha ha2 hno h1 h0 k2 v2 hw2.1.2.1.1 (by rw [e]; exact b2.2.1.2.1) q1
  refine b_St_joinOf_57 (ygr hs.1 rfl (ygi hw2.1.1 rfl ?_))
  rw [b1.2.1.1]
  refine ⟨fun c => ygr hw2.1.1 rfl ?_, fun c => ygr hw.1.1 rfl ?_⟩
  · have e : joP w w2 = w2.2.1 := by unfold joP; rw [if_neg c]
    exact h80 _ hw2.1.2.1.1 (by rw [e]; exact b1.2.1.2.1) q1
  · have e : joP w w2 = w.2.2.1 := by unfold joP; rw [if_pos (Classical.not_not.mp c)]
    exact h80 _ hw.1.2.1.2.1 (by rw [e]; exact a1.2.1.2.2) p2
theorem St_joinOf_sp (hW : yW Λ) (hv : ySv Λ S s v) (hw : ySv Λ S o w) (hw2 : ySv Λ S o2 w2) (ha : apart Λ o s) (ha2 : apart Λ o2 s) (h1 : joL w w2 → ∀ S', yAg Λ S S' s → ySv Λ S' s (joV w w2) → post (some (.int 1)) (yH Λ f0 S')) (h0 : ¬ joL w w2 → ∀ S' v', yAg Λ S S' s → ySv Λ S' s v' → post (some (.int 0)) (yH Λ f0 S')) : xSp xT0 (d + 3) j_St_joinOf [.ref s, .ref o, .ref o2] (yH Λ f0 S) post := by
  obtain ⟨o1, p2, o3, o4⟩ := ap_own hw ha
  obtain ⟨q1, q2, q3, q4⟩ := ap_own hw2 ha2
  have hs := hv.1
  refine xSp_of (M := m_St_joinOf) rfl (b_St_joinOf_0 ⟨yex hs.1, St_copySource_sp hv hw ha (fun S1 k1 v1 => ⟨yex hs.1, St_copyTarget_sp v1 (yAg_Sv k1 ha2.1 ha2.2.1 ha2.2.2 hw2) ha2 (fun S2 k2 v2 => ?_)⟩)⟩)
  have k2 := yAg_tr k1 k2
  have a2 := yAg_Sv k2 ha.1 ha.2.1 ha.2.2 hw
  have b2 := yAg_Sv k2 ha2.1 ha2.2.1 ha2.2.2 hw2
  refine ygr hs.1 rfl (ygr hw.1.1 rfl (ygr hw2.1.1 rfl ⟨yex hs.2.1.2.2.1.1, De_joinOf_sp hW hs.2.1.2.2.1 hw.1.2.1.2.2.1 hw2.1.2.1.2.2.1 (fun e => o3 ((congrArg (own Λ) e).trans hs.2.2.1.2.2.1)) (fun e => q3 ((congrArg (own Λ) e).trans hs.2.2.1.2.2.1)) a2.2.2.2.1 b2.2.2.2.1 (fun g n hg => ?_)⟩))
  have k3 := yAg_tr k2 (yAg_Dw (S := S2) (g := g) (v := n) hs.2.2.1.2.2.1)
  have v3 := ySv_d v2 hg
  have a3 := yAg_Sv k3 ha.1 ha.2.1 ha.2.2 hw
  have b3 := yAg_Sv k3 ha2.1 ha2.2.1 ha2.2.2 hw2
  refine ygr hs.1 rfl (ygr hw2.1.1 rfl (ygr hw.1.1 rfl ⟨yex hs.2.1.2.2.2.1, De_joinOf_sp hW hs.2.1.2.2.2 hw2.1.2.1.2.2.2 hw.1.2.1.2.2.2 (fun e => q4 ((congrArg (own Λ) e).trans hs.2.2.1.2.2.2)) (fun e => o4 ((congrArg (own Λ) e).trans hs.2.2.1.2.2.2)) b3.2.2.2.2 a3.2.2.2.2 (fun g' n' hg' => ygi hw.1.1 rfl ?_)⟩))
  have k4 := yAg_tr k3 (yAg_Dw (S := yDw S2 (yDe Λ s) g n) (g := g') (v := n') hs.2.2.1.2.2.2)
  have v4 := ySv_b v3 hg'
  have a4 := yAg_Sv k4 ha.1 ha.2.1 ha.2.2 hw
  have b4 := yAg_Sv k4 ha2.1 ha2.2.1 ha2.2.2 hw2
  rw [a4.2.1.1]
  refine ⟨fun c => St_join_57 hW hs hw hw2 ha ha2 (fun q => c q.1) h1 h0 k4 v4, fun c => ygi hw2.1.1 rfl ?_⟩
  rw [b4.2.1.1]
  exact ⟨fun c2 => St_join_57 hW hs hw hw2 ha ha2 (fun q => c2 q.2) h1 h0 k4 v4, fun c2 => h0 (fun q => q.1 ⟨Classical.not_not.mp c, Classical.not_not.mp c2⟩) _ _ k4 v4⟩
end
