/-! 61 Patch: keepBlank, inverseOf -/
def insA {α : Type} (l : List α) (i : Nat) (q : α) : List α := l.take i ++ q :: l.drop i
theorem insA_len {α : Type} {l : List α} {i : Nat} {q : α} (h : i ≤ l.length) : (insA l i q).length = l.length + 1 := by
  unfold insA
  rw [List.length_append, List.length_take, List.length_cons, List.length_drop]
  omega
theorem insA_at {α : Type} {l : List α} {i j : Nat} {q z : α} (h : i ≤ l.length) : (insA l i q).getD j z = if j < i then l.getD j z else if j = i then q else l.getD (j - 1) z := by
  unfold insA
  have hl : (l.take i).length = i := by rw [List.length_take]; omega
  by_cases h1 : j < i
  · rw [if_pos h1, List.getD_eq_getElem?_getD, List.getElem?_append_left (by omega), List.getElem?_take, if_pos h1, ← List.getD_eq_getElem?_getD]
  · rw [if_neg h1, List.getD_eq_getElem?_getD, List.getElem?_append_right (by omega), hl]
    by_cases h2 : j = i
    · rw [if_pos h2, h2, Nat.sub_self]; rfl
    · rw [if_neg h2, show j - i = (j - 1 - i) + 1 by omega, List.getElem?_cons_succ, List.getElem?_drop, show i + (j - 1 - i) = j - 1 by omega, ← List.getD_eq_getElem?_getD]
/-- behind which STEP a new one comes -/
def insV (v : Sv) (vs : List Sv) : Nat → Nat
  | 0 => 0
  | i + 1 => if behV (vs.getD i sv0) v = true then insV v vs i else i + 1
theorem insV_s (v : Sv) (vs : List Sv) (i : Nat) : insV v vs (i + 1) = if behV (vs.getD i sv0) v = true then insV v vs i else i + 1 := rfl
theorem insV_le (v : Sv) (vs : List Sv) : ∀ n, insV v vs n ≤ n
  | 0 => Nat.le_refl _
  | n + 1 => by
    rw [insV_s]
    split
    · exact Nat.le_succ_of_le (insV_le v vs n)
    · exact Nat.le_refl _
/-- the STEPS with one more -/
def addV (vs : List Sv) (v : Sv) : List Sv := insA vs (insV v vs vs.length) v
section
variable {Λ : yL} {f0 : xH} {S S' : yS} {s o p q t capo d : Nat} {v w : Sv} {vs ws : List Sv} {Q Q' : Nat → Nat} {bs : List Nat} {x : Int32} {post : Option Value → xH → Prop}
abbrev yPm (S : yS) (p n i : Nat) : yS := ywR S 5 0 p (shR (yR S 5 0 p) n i)
theorem yPm_0 {n i : Nat} : yR (yPm S p n i) 5 0 p = shR (yR S 5 0 p) n i := ywR_s _ _ _ _ _
theorem yPm_n {n : Nat} : yPm S p n n = S := by
  unfold yPm
  rw [shR_n]
  exact ywR_same S 5 0 p
theorem yPm_s {n i : Nat} (h : i + 1 ≤ n) : ywR (yPm S p n (i + 1)) 5 0 p (va_up (yR (yPm S p n (i + 1)) 5 0 p) (i + 1) (yR (yPm S p n (i + 1)) 5 0 p i)) = yPm S p n i := by
  rw [yPm_0, shR_s _ h]
  unfold yPm
  rw [ywR_R]
theorem Pa_keep_end (hW : yW Λ) (h : yPq Λ S p vs Q) (hv : ySv Λ S (Q vs.length) v) (hlt : vs.length < 24) {E : Option Value → xH → Prop} {i : Nat} (hi : i ≤ vs.length) (hp : ∀ S' Q', yAg Λ S S' p → yPq Λ S' p (insA vs i v) Q' → E (some (.int 1)) (yH Λ f0 S')) : xWp (xT0, xSp xT0 d, none, m_Pa_keepBlank, E) 65 [some (.ref p), some (.ref (Q vs.length)), some (.int (nI i))] [] (yH Λ f0 (yPm S p vs.length i)) 0 0 := by
  obtain ⟨hs, hr, hinj, hl, hz, hb, hp1, hp2⟩ := id h
  refine b_Pa_keepBlank_65 (ygr hs.1 rfl (yrs hs.2 (yW_r hW hs.2) (vp_in_nI (by omega) (by omega)) hv.1.1 (ygi hs.1 rfl (ypf hs.1 rfl ?_))))
  rw [nI_clamp (by omega), yPm_0]
  have e2 : yI (ywR (yPm S p vs.length i) 5 0 p (va_up (shR (yR S 5 0 p) vs.length i) i (some (Q vs.length)))) 5 1 p + 1 = nI (vs.length + 1) := by
    show yI S 5 1 p + 1 = _
    rw [hz]
    exact nI_1 _
  rw [e2]
  let ix : Nat → Nat := fun j => if j = i then vs.length else if i < j ∧ j ≤ vs.length then j - 1 else j
  have hix : ∀ j, j < 25 → ix j < 25 := fun j hj => by
    show (if j = i then vs.length else if i < j ∧ j ≤ vs.length then j - 1 else j) < 25
    by_cases z1 : j = i
    · rw [if_pos z1]; omega
    · rw [if_neg z1]
      by_cases z2 : i < j ∧ j ≤ vs.length
      · rw [if_pos z2]; omega
      · rw [if_neg z2]; exact hj
  have hii : ∀ a b, ix a = ix b → a = b := fun a b e => by
    have e : (if a = i then vs.length else if i < a ∧ a ≤ vs.length then a - 1 else a) = (if b = i then vs.length else if i < b ∧ b ≤ vs.length then b - 1 else b) := e
    split at e <;> split at e <;> (try split at e) <;> (try split at e) <;> omega
  have hS : ∀ {b : Nat} {u : Sv}, ySv Λ S b u → ySv Λ (ywI (ywR (yPm S p vs.length i) 5 0 p (va_up (shR (yR S 5 0 p) vs.length i) i (some (Q vs.length)))) 5 1 p (nI (vs.length + 1))) b u := fun hb => ySv_I5 (S := ywR (yPm S p vs.length i) 5 0 p (va_up (shR (yR S 5 0 p) vs.length i) i (some (Q vs.length)))) (by decide) hb
  have hR : yR (ywI (ywR (yPm S p vs.length i) 5 0 p (va_up (shR (yR S 5 0 p) vs.length i) i (some (Q vs.length)))) 5 1 p (nI (vs.length + 1))) 5 0 p = va_up (shR (yR S 5 0 p) vs.length i) i (some (Q vs.length)) := ywR_s _ _ _ _ _
  refine hp _ (fun j => Q (ix j)) (yAg_tr (yAg_tr yAg_R yAg_R) yAg_I) ⟨hs, fun j hj => ⟨?_, (hr _ (hix j hj)).2.1, ?_⟩, fun a b ha hb e => hii a b (hinj _ _ (hix a ha) (hix b hb) e), by rw [insA_len hi]; omega, by rw [insA_len hi]; exact ywI_s _ _ _ _ _, fun k hk => ?_, hp1, fun j hj => hp2 _ (hix j hj)⟩
  · rw [hR]
    unfold va_up shR
    by_cases z1 : j = i
    · have : ix j = vs.length := if_pos z1
      rw [if_pos z1]
      show _ = some (Q (ix j))
      rw [this]
    · rw [if_neg z1]
      by_cases z2 : i < j ∧ j ≤ vs.length
      · have : ix j = j - 1 := by show (if _ then _ else _) = _; rw [if_neg z1, if_pos z2]
        rw [if_pos z2]
        show _ = some (Q (ix j))
        rw [this]
        exact (hr (j - 1) (by omega)).1
      · have : ix j = j := by show (if _ then _ else _) = _; rw [if_neg z1, if_neg z2]
        rw [if_neg z2]
        show _ = some (Q (ix j))
        rw [this]
        exact (hr j hj).1
  · obtain ⟨u, hu⟩ := (hr _ (hix j hj)).2.2
    exact ⟨u, hS hu⟩
  · rw [insA_len hi] at hk
    rw [insA_at hi]
    show ySv Λ _ (Q (ix k)) _
    by_cases z1 : k = i
    · have : ix k = vs.length := if_pos z1
      rw [this, if_neg (by omega), if_pos z1]
      exact hS hv
    · by_cases z2 : k < i
      · have : ix k = k := by show (if _ then _ else _) = _; rw [if_neg z1, if_neg (by omega)]
        rw [this, if_pos z2]
        exact hS (hb k (by omega))
      · have : ix k = k - 1 := by show (if _ then _ else _) = _; rw [if_neg z1, if_pos (by omega)]
        rw [this, if_neg z2, if_neg z1]
        exact hS (hb (k - 1) (by omega))
theorem Pa_keep_loop (hW : yW Λ) (h : yPq Λ S p vs Q) (hv : ySv Λ S (Q vs.length) v) (hlt : vs.length < 24) {E : Option Value → xH → Prop} (hp : ∀ S' Q', yAg Λ S S' p → yPq Λ S' p (addV vs v) Q' → E (some (.int 1)) (yH Λ f0 S')) : ∀ i, i ≤ vs.length → insV v vs vs.length = insV v vs i → xWp (xT0, xSp xT0 (d + 2), none, m_Pa_keepBlank, E) 26 [some (.ref p), some (.ref (Q vs.length)), some (.int (nI i))] [] (yH Λ f0 (yPm S p vs.length i)) 0 0 := by
  obtain ⟨hs, hr, hinj, hl, hz, hb, hp1, hp2⟩ := id h
  unfold addV at hp
  intro i
  induction i with
  | zero =>
    intro hi he
    have he : insV v vs vs.length = 0 := he
    rw [he] at hp
    exact b_Pa_keepBlank_26 ⟨fun c => Pa_keep_end hW h hv hlt (Nat.zero_le _) hp, fun c => absurd (by decide) c⟩
  | succ i ih =>
    intro hi he
    have e1 : nI (i + 1) - 1 = nI i := nI_pred i
    refine b_Pa_keepBlank_26 ⟨fun c => absurd ((leI (a := i + 1) (b := 0) (by omega) (by omega)).mp c) (by omega), fun c => ?_⟩
    rw [e1]
    have hr0 : yR (yPm S p vs.length (i + 1)) 5 0 p i = some (Q i) := by
      rw [yPm_0]
      unfold shR
      rw [if_neg (by omega)]
      exact (hr i (by omega)).1
    have hbi := hb i (by omega)
    refine ygr hs.1 rfl (yrl (Q i) hs.2 (vp_in_nI (by omega) (by omega)) (by rw [nI_clamp (by omega)]; exact hr0) ⟨yex hbi.1.1, St_isBehind_sp (S := yPm S p vs.length (i + 1)) (show ySv Λ (yPm S p vs.length (i + 1)) (Q i) _ from hbi) (show ySv Λ (yPm S p vs.length (i + 1)) (Q vs.length) _ from hv) ?_⟩)
    rw [insV_s] at he
    by_cases e : behV (vs.getD i sv0) v = true
    · rw [if_pos e] at he ⊢
      refine ⟨fun c => absurd c (by decide), fun c => ?_⟩
      refine ygr hs.1 rfl (ygr hs.1 rfl (yrl (Q i) hs.2 (vp_in_nI (by omega) (by omega)) (by rw [nI_clamp (by omega)]; exact hr0) (yrs hs.2 (yW_r hW hs.2) (vp_in_nI (by omega) (by omega)) hbi.1.1 ?_)))
      rw [nI_clamp (by omega)]
      have := ih (by omega) he
      rw [← yPm_s (by omega), hr0] at this
      have e2 : nI (i + 1) + (-1) = nI i := pk_m1 i
      rw [e2]
      exact this
    · rw [if_neg e] at he ⊢
      rw [he] at hp
      exact ⟨fun c => Pa_keep_end hW h hv hlt hi hp, fun c => absurd rfl c⟩
theorem Pa_keepBlank_sp (hW : yW Λ) (h : yPq Λ S p vs Q) (hv : ySv Λ S (Q vs.length) v) (h1 : vs.length < 24 → ∀ S' Q', yAg Λ S S' p → yPq Λ S' p (addV vs v) Q' → post (some (.int 1)) (yH Λ f0 S')) (h2 : vs.length = 24 → post (some (.int 0)) (yH Λ f0 S)) : xSp xT0 (d + 3) j_Pa_keepBlank [.ref p] (yH Λ f0 S) post := by
  obtain ⟨hs, hr, hinj, hl, hz, hb, hp1, hp2⟩ := id h
  refine xSp_of (M := m_Pa_keepBlank) rfl (b_Pa_keepBlank_0 (ygi hs.1 rfl ?_))
  rw [hz]
  refine ⟨fun c => ygr hs.1 rfl (ygi hs.1 rfl ?_), fun c => h2 ?_⟩
  · have hlt := (ltI (b := 24) (by omega) (by omega)).mp c
    rw [hz]
    refine yrl (Q vs.length) hs.2 (vp_in_nI (by omega) (by omega)) (by rw [nI_clamp (by omega)]; exact (hr _ (by omega)).1) (ygi hs.1 rfl ?_)
    rw [hz]
    have := Pa_keep_loop (d := d) (f0 := f0) hW h hv hlt (h1 hlt) vs.length (Nat.le_refl _) rfl
    rw [yPm_n] at this
    exact this
  · have : ¬ vs.length < 24 := fun z => c ((ltI (b := 24) (by omega) (by omega)).mpr z)
    omega
end
