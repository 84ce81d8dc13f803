/-! 78 Disk: its state, what it tells, WRITINGS -/
/-- SLOTS, LISTS, which one counts, POWER, WRITINGS, down -/
abbrev Dv : Type := (Nat → Option (List Nat)) × (Nat → List Le) × Nat × Int32 × Int32 × Bool
abbrev dL (D : Dv) : List Le := D.2.1 D.2.2.1
def yDk (Λ : yL) (k : Nat) : Prop := yo Λ k 10 ∧ yr Λ (Λ.2.1 10 0 k) 10 0 k 3 30 ∧ yn Λ (Λ.2.1 10 1 k) 10 1 k 1 30 ∧ yr Λ (Λ.2.1 10 2 k) 10 2 k 7 2 ∧ yn Λ (Λ.2.1 10 3 k) 10 3 k 0 10
def yKb (Λ : yL) (S : yS) (k : Nat) (C Lx : Nat → Nat) : Prop := yDk Λ k ∧ (∀ s, s < 30 → yR S 10 0 k s = some (C s) ∧ yB Λ (C s) 48 ∧ own Λ (C s) = k) ∧ (∀ s s', s < 30 → s' < 30 → C s = C s' → s = s') ∧ (∀ i, i < 2 → yR S 10 2 k i = some (Lx i) ∧ own Λ (Lx i) = k ∧ yo Λ (Lx i) 9) ∧ Lx 0 ≠ Lx 1
def yKf (S : yS) (k : Nat) (D : Dv) : Prop := D.2.2.1 < 2 ∧ yI S 10 4 k = nI D.2.2.1 ∧ yI S 10 5 k = D.2.2.2.1 ∧ yI S 10 6 k = D.2.2.2.2.1 ∧ yI S 10 7 k = bI D.2.2.2.2.2
def yKv (Λ : yL) (S : yS) (k : Nat) (C Lx : Nat → Nat) (PL : Nat → Nat → Nat) (D : Dv) : Prop := yKb Λ S k C Lx ∧ (∀ s, s < 30 → yBv S (C s) 48 ((D.1 s).getD []) ∧ yA S 10 1 k s = bI (D.1 s).isSome) ∧ (∀ i, i < 2 → yLv Λ S (Lx i) (PL i) (D.2.1 i)) ∧ yKf S k D
abbrev A10 (k : Nat) : Nat → Nat → Prop := fun c a => c = 10 ∧ a = k
abbrev AK (Λ : yL) (k : Nat) : Nat → Nat → Prop := fun _ a => a = k ∨ own Λ a = k ∨ own Λ (own Λ a) = k
def spD (D : Dv) : Option Dv := if D.2.2.2.1 = 0 then none else some (D.1, D.2.1, D.2.2.1, (if D.2.2.2.1 ≤ 0 then D.2.2.2.1 else D.2.2.2.1 - 1), D.2.2.2.2.1 + 1, D.2.2.2.2.2)
def dnD (D : Dv) : Dv := (D.1, D.2.1, D.2.2.1, D.2.2.2.1, D.2.2.2.2.1, true)
def hdS (D : Dv) (bs cs : List Nat) : Option Nat := match slO (dL D) bs with
  | none => none
  | some s => if (D.1 s).getD [] = cs then some s else none
def chO (ch : Nat → Nat) (n s : Nat) : Bool := decide (fstI (fun i => decide (ch i = s)) n < n)
def fre (L : List Le) (ch : Nat → Nat) (n : Nat) : Nat := fstI (fun s => !(usL L s || chO ch n s)) 30
def tlS (D : Dv) (x y : Int32) : Int32 := if x < 0 ∨ nI 30 ≤ x then -1 else if y = 0 then (match D.1 x.toNatClampNeg with | none => -2 | some b => nI b.length) else if y = 1 then (match D.1 x.toNatClampNeg with | none => -2 | some b => nI (sumB b)) else if y = 2 then bI (usL (dL D) x.toNatClampNeg) else -1
def pwD (D : Dv) (x : Int32) : Dv := (D.1, D.2.1, D.2.2.1, x, D.2.2.2.2.1, D.2.2.2.2.2)
def slD (D : Dv) (s : Nat) (b : List Nat) : Dv := (fun z => if z = s then some b else D.1 z, D.2)
section
variable {Λ : yL} {f0 : xH} {S0 S S' : yS} {l t u k o q cap capq d r : Nat} {C Lx : Nat → Nat} {PL : Nat → Nat → Nat} {D D' : Dv} {L : List Le} {fs gs : List Fl} {bs cs : List Nat} {ch : Nat → Nat} {x y : Int32} {A : Nat → Nat → Prop} {post : Option Value → xH → Prop}
theorem yKv_10 (h : yKv Λ S k C Lx PL D) (kf : yFr (A10 k) S S') (hR : ∀ j, yR S' 10 j k = yR S 10 j k) (hA : yA S' 10 1 k = yA S 10 1 k) (h1 : D'.1 = D.1) (h2 : D'.2.1 = D.2.1) (hf : yKf S' k D') : yKv Λ S' k C Lx PL D' := by
  obtain ⟨⟨a1, a2, a3, a4, a5⟩, b, c, -⟩ := h
  refine ⟨⟨a1, fun s hs => ?_, a3, fun i hi => ?_, a5⟩, fun s hs => ?_, fun i hi => ?_, hf⟩
  · rw [hR]; exact a2 s hs
  · rw [hR]; exact a4 i hi
  · rw [hA, h1]
    exact ⟨yFr_Bv kf (fun z => absurd z.1 (by decide)) (b s hs).1, (b s hs).2⟩
  · rw [h2]
    exact yLv_fr kf (fun z => absurd z.1 (by decide)) (fun _ _ _ _ z => absurd z.1 (by decide)) (c i hi)
theorem yKv_c (h : yKv Λ S k C Lx PL D) : D.2.2.1 < 2 ∧ yI S 10 4 k = nI D.2.2.1 ∧ yR S 10 2 k D.2.2.1 = some (Lx D.2.2.1) ∧ yLv Λ S (Lx D.2.2.1) (PL D.2.2.1) (dL D) := by
  have hc := h.2.2.2.1
  exact ⟨hc, h.2.2.2.2.1, (h.1.2.2.2.1 _ hc).1, h.2.2.1 _ hc⟩
theorem Dk_isSlot_sp (h1 : ∀ s, s < 30 → x = nI s → post (some (.int 1)) (yH Λ f0 S)) (h0 : x < 0 ∨ nI 30 ≤ x → post (some (.int 0)) (yH Λ f0 S)) : xSp xT0 (d + 1) j_Dk_isSlot [.ref k, .int x] (yH Λ f0 S) post := by
  refine xSp_of (M := m_Dk_isSlot) rfl (b_Dk_isSlot_0 ⟨fun c => h0 (Or.inl c), fun c => ⟨fun c2 => h0 (Or.inr c2), fun c2 => ?_⟩⟩)
  rcases pk_ix x (n := 30) (by omega) with q | q | ⟨j, hj, e⟩
  · exact absurd q c
  · exact absurd q c2
  · exact h1 j hj e
theorem Dk_counting_sp (h : yKv Λ S k C Lx PL D) (hp : post (some (.int (nI D.2.2.1))) (yH Λ f0 S)) : xSp xT0 (d + 1) j_Dk_counting [.ref k] (yH Λ f0 S) post := by
  refine xSp_of (M := m_Dk_counting) rfl (b_Dk_counting_0 (ygi h.1.1.1 rfl ?_))
  rw [h.2.2.2.2.1]; exact hp
theorem Dk_writings_sp (h : yKv Λ S k C Lx PL D) (hp : post (some (.int D.2.2.2.2.1)) (yH Λ f0 S)) : xSp xT0 (d + 1) j_Dk_writings [.ref k] (yH Λ f0 S) post := by
  refine xSp_of (M := m_Dk_writings) rfl (b_Dk_writings_0 (ygi h.1.1.1 rfl ?_))
  rw [h.2.2.2.2.2.2.1]; exact hp
theorem Dk_isDown_sp (h : yKv Λ S k C Lx PL D) (hp : post (some (.int (bI D.2.2.2.2.2))) (yH Λ f0 S)) : xSp xT0 (d + 1) j_Dk_isDown [.ref k] (yH Λ f0 S) post := by
  refine xSp_of (M := m_Dk_isDown) rfl (b_Dk_isDown_0 (ygi h.1.1.1 rfl ?_))
  rw [h.2.2.2.2.2.2.2]
  refine ⟨?_, hp⟩
  cases D.2.2.2.2.2
  · exact Or.inl rfl
  · exact Or.inr rfl
theorem Dk_listed_sp (h : yKv Λ S k C Lx PL D) (hp : post (some (.int (nI (dL D).length))) (yH Λ f0 S)) : xSp xT0 (d + 2) j_Dk_listed [.ref k] (yH Λ f0 S) post := by
  obtain ⟨hc, e4, e2, hL⟩ := yKv_c h
  refine xSp_of (M := m_Dk_listed) rfl (b_Dk_listed_0 (ygr h.1.1.1 rfl (ygi h.1.1.1 rfl ?_)))
  rw [e4]
  exact yrl _ h.1.1.2.2.2.1 (vp_in_nI hc (by omega)) (by rw [nI_clamp (by omega)]; exact e2) ⟨yex hL.1.1.1, Li_size_sp hL hp⟩
theorem Dk_setPower_sp (h : yKv Λ S k C Lx PL D) (h1 : D.2.2.2.2.2 = false → ∀ S', yFr (AK Λ k) S S' → yKv Λ S' k C Lx PL (pwD D x) → post (some (.int 1)) (yH Λ f0 S')) (h0 : D.2.2.2.2.2 = true → post (some (.int (-4))) (yH Λ f0 S)) : xSp xT0 (d + 1) j_Dk_setPower [.ref k, .int x] (yH Λ f0 S) post := by
  refine xSp_of (M := m_Dk_setPower) rfl (b_Dk_setPower_0 (ygi h.1.1.1 rfl ?_))
  obtain ⟨f1, f2, f3, f4, f5⟩ := h.2.2.2
  rw [f5]
  refine brB (fun q => ypf h.1.1.1 rfl (h1 q _ (yFr_wI (Or.inl rfl)) ?_)) (fun q => h0 q)
  refine yKv_10 h (yFr_wI ⟨rfl, rfl⟩) (fun _ => rfl) rfl rfl rfl ⟨f1, ?_, ywI_s _ _ _ _ _, ?_, ?_⟩
  · rw [ywI_ne _ _ (by omega)]; exact f2
  · rw [ywI_ne _ _ (by omega)]; exact f4
  · rw [ywI_ne _ _ (by omega)]; exact f5
theorem Dk_spendWriting_sp (h : yKv Λ S k C Lx PL D) (h1 : ∀ S' D', spD D = some D' → yFr (A10 k) S S' → yA S' 10 3 k = yA S 10 3 k → yKv Λ S' k C Lx PL D' → post (some (.int 1)) (yH Λ f0 S')) (h0 : spD D = none → ∀ S', yFr (A10 k) S S' → yKv Λ S' k C Lx PL (dnD D) → post (some (.int 0)) (yH Λ f0 S')) : xSp xT0 (d + 1) j_Dk_spendWriting [.ref k] (yH Λ f0 S) post := by
  obtain ⟨f1, f2, f3, f4, f5⟩ := h.2.2.2
  have ho := h.1.1.1
  refine xSp_of (M := m_Dk_spendWriting) rfl (b_Dk_spendWriting_0 (ygi ho rfl ?_))
  rw [f3]
  refine ⟨fun c => ygi ho rfl ?_, fun c => ypf ho rfl ?_⟩
  · rw [f3]
    refine ⟨fun c2 => b_Dk_spendWriting_31 (ygi ho rfl (ypf ho rfl ?_)), fun c2 => ygi ho rfl (ypf ho rfl (b_Dk_spendWriting_31 (ygi ho rfl (ypf ho rfl ?_))))⟩
    · rw [f4]
      refine h1 _ (D.1, D.2.1, D.2.2.1, (if D.2.2.2.1 ≤ 0 then D.2.2.2.1 else D.2.2.2.1 - 1), D.2.2.2.2.1 + 1, D.2.2.2.2.2) (if_neg c) (yFr_wI ⟨rfl, rfl⟩) rfl ?_
      refine yKv_10 h (yFr_wI ⟨rfl, rfl⟩) (fun _ => rfl) rfl rfl rfl ⟨f1, ?_, ?_, ywI_s _ _ _ _ _, ?_⟩
      · rw [ywI_ne _ _ (by omega)]; exact f2
      · rw [ywI_ne _ _ (by omega)]
        show _ = if D.2.2.2.1 ≤ 0 then D.2.2.2.1 else D.2.2.2.1 - 1
        rw [if_pos c2]
        exact f3
      · rw [ywI_ne _ _ (by omega)]; exact f5
    · rw [f3]
      have e6 : ∀ v, yI (ywI S 10 5 k v) 10 6 k = D.2.2.2.2.1 := fun v => by rw [ywI_ne _ _ (by omega)]; exact f4
      rw [e6]
      refine h1 _ (D.1, D.2.1, D.2.2.1, (if D.2.2.2.1 ≤ 0 then D.2.2.2.1 else D.2.2.2.1 - 1), D.2.2.2.2.1 + 1, D.2.2.2.2.2) (if_neg c) (yFr_tr (yFr_wI ⟨rfl, rfl⟩) (yFr_wI ⟨rfl, rfl⟩)) rfl ?_
      refine yKv_10 h (yFr_tr (yFr_wI ⟨rfl, rfl⟩) (yFr_wI ⟨rfl, rfl⟩)) (fun _ => rfl) rfl rfl rfl ⟨f1, ?_, ?_, ywI_s _ _ _ _ _, ?_⟩
      · rw [ywI_ne _ _ (by omega), ywI_ne _ _ (by omega)]; exact f2
      · rw [ywI_ne _ _ (by omega), ywI_s]
        show _ = if D.2.2.2.1 ≤ 0 then D.2.2.2.1 else D.2.2.2.1 - 1
        rw [if_neg c2]
      · rw [ywI_ne _ _ (by omega), ywI_ne _ _ (by omega)]; exact f5
  · refine h0 (if_pos (Classical.not_not.mp c)) _ (yFr_wI ⟨rfl, rfl⟩) ?_
    refine yKv_10 h (yFr_wI ⟨rfl, rfl⟩) (fun _ => rfl) rfl rfl rfl ⟨f1, ?_, ?_, ?_, ywI_s _ _ _ _ _⟩
    · rw [ywI_ne _ _ (by omega)]; exact f2
    · rw [ywI_ne _ _ (by omega)]; exact f3
    · rw [ywI_ne _ _ (by omega)]; exact f4
theorem slO_lt (h : yLv Λ S l C L) {s : Nat} (e : slO L bs = some s) : s < 30 := by
  unfold slO at e
  split at e
  · next hlt =>
    have := (h.2.2.2 _ hlt).2.2
    rw [Option.some.inj e] at this
    exact this
  · cases e
theorem Dk_slotHolding_sp (h : yKv Λ S k C Lx PL D) (hO : yB Λ o cap) (hv : yBv S o cap bs) (hQ : yB Λ q capq) (hw : yBv S q capq cs) (hp : post (some (.int (oI (hdS D bs cs)))) (yH Λ f0 S)) : xSp xT0 (d + 4) j_Dk_slotHolding [.ref k, .ref o, .ref q] (yH Λ f0 S) post := by
  obtain ⟨hc, e4, e2, hL⟩ := yKv_c h
  have ho := h.1.1.1
  refine xSp_of (M := m_Dk_slotHolding) rfl (b_Dk_slotHolding_0 (ygr ho rfl (ygi ho rfl ?_)))
  rw [e4]
  refine yrl _ h.1.1.2.2.2.1 (vp_in_nI hc (by omega)) (by rw [nI_clamp (by omega)]; exact e2) ⟨yex hL.1.1.1, Li_slotOf_sp hL hO hv (xviI ⟨yex ho, ?_⟩)⟩
  unfold hdS at hp
  cases e : slO (dL D) bs with
  | none =>
    rw [e] at hp
    exact Dk_isSlot_sp (fun s hs z => absurd z (fun z => nI_pos (n := s) (by omega) (by rw [← z]; decide))) (fun _ => xviI ⟨fun _ => hp, fun z => absurd rfl z⟩)
  | some s =>
    rw [e] at hp
    have hs := slO_lt hL e
    have hcs := h.1.2.1 s hs
    rw [show oI (some s) = nI s from rfl]
    refine Dk_isSlot_sp (fun s' _ _ => xviI ⟨fun z => absurd z (by decide), fun _ => ygr ho rfl (yrl (C s) h.1.1.2.1 (vp_in_nI hs (by omega)) (by rw [nI_clamp (by omega)]; exact hcs.1) ⟨yex hcs.2.1.1, By_equalTo_sp hcs.2.1 hQ (h.2.1 s hs).1 hw ?_⟩)⟩) (fun z => ?_)
    · have hp : post (some (.int (oI (if (D.1 s).getD [] = cs then some s else none)))) (yH Λ f0 S) := hp
      by_cases c : (D.1 s).getD [] = cs
      · rw [if_pos c]
        rw [if_pos c] at hp
        exact ⟨fun z => absurd z (by decide), fun _ => hp⟩
      · rw [if_neg c]
        rw [if_neg c] at hp
        exact ⟨fun _ => hp, fun z => absurd rfl z⟩
    · rcases z with z | z
      · exact absurd z (nI_pos (by omega))
      · exact absurd ((leI (by omega) (by omega)).mp z) (by omega)
theorem Dk_isChosen_sp (hk : yDk Λ k) {n s : Nat} (hn : n ≤ 10) (hs : s ≤ 30) (hc : ∀ i, i < n → yA S 10 3 k i = nI (ch i) ∧ ch i < 30) (hp : post (some (.int (bI (chO ch n s)))) (yH Λ f0 S)) : xSp xT0 (d + 1) j_Dk_isChosen [.ref k, .int (nI s), .int (nI n)] (yH Λ f0 S) post := by
  refine xSp_of (M := m_Dk_isChosen) rfl (b_Dk_isChosen_0 ?_)
  have hlo : ∀ i, i ≤ n → ((∀ j, j < i → decide (ch j = s) = false) → xWp (xT0, xSp xT0 d, none, m_Dk_isChosen, post) 2 [some (.ref k), some (.int (nI s)), some (.int (nI n)), some (.int (nI i))] [] (yH Λ f0 S) 0 0) := by
    refine loopUp ?_ ?_
    · intro hg
      refine b_Dk_isChosen_2 (brle (by omega) (by omega) (fun _ => ?_) (fun q => absurd q (by omega)))
      have e : chO ch n s = false := decide_eq_false (by rw [fstI_eq (Nat.le_refl _) hg (Or.inl rfl)]; exact Nat.lt_irrefl _)
      rw [e] at hp
      exact hp
    · intro i hi ih hg
      refine b_Dk_isChosen_2 (brle (by omega) (by omega) (fun q => absurd q (by omega)) (fun _ => ygr hk.1 rfl (yal hk.2.2.2.2 (vp_in_nI (by omega) (by omega)) ?_)))
      have := (hc i hi).2
      rw [nI_clamp (by omega), (hc i hi).1, nI_1]
      refine brne (by omega) (by omega) (fun c => ih (fun j hj => ?_)) (fun c => ?_)
      · by_cases z : j = i
        · rw [z]; exact decide_eq_false c
        · exact hg j (by omega)
      · have e : chO ch n s = true := decide_eq_true (by rw [fstI_eq (Nat.le_of_lt hi) hg (Or.inr (decide_eq_true c))]; exact hi)
        rw [e] at hp
        exact hp
  exact hlo 0 (Nat.zero_le _) (fun j hj => absurd hj (Nat.not_lt_zero _))
theorem Dk_leastFree_sp (h : yKv Λ S k C Lx PL D) {n : Nat} (hn : n ≤ 10) (hc : ∀ i, i < n → yA S 10 3 k i = nI (ch i) ∧ ch i < 30) (hp : post (some (.int (nI (fre (dL D) ch n)))) (yH Λ f0 S)) : xSp xT0 (d + 2) j_Dk_leastFree [.ref k, .int (nI n)] (yH Λ f0 S) post := by
  obtain ⟨hc2, e4, e2, hL⟩ := yKv_c h
  have ho := h.1.1.1
  refine xSp_of (M := m_Dk_leastFree) rfl (b_Dk_leastFree_0 ?_)
  have hlo : ∀ s, s ≤ 30 → ((∀ j, j < s → (!(usL (dL D) j || chO ch n j)) = false) → xWp (xT0, xSp xT0 (d + 1), none, m_Dk_leastFree, post) 2 [some (.ref k), some (.int (nI n)), some (.int (nI s))] [] (yH Λ f0 S) 0 0) := by
    refine loopUp ?_ ?_
    · intro hg
      refine b_Dk_leastFree_2 (brle (a := 30) (by omega) (by omega) (fun _ => ?_) (fun q => absurd q (by omega)))
      have e : fre (dL D) ch n = 30 := fstI_eq (Nat.le_refl _) hg (Or.inl rfl)
      rw [e] at hp
      exact hp
    · intro s hs ih hg
      have hno : (!(usL (dL D) s || chO ch n s)) = false → xWp (xT0, xSp xT0 (d + 1), none, m_Dk_leastFree, post) 2 [some (.ref k), some (.int (nI n)), some (.int (nI (s + 1)))] [] (yH Λ f0 S) 0 0 := fun e => ih (fun j hj => by
        by_cases z : j = s
        · rw [z]; exact e
        · exact hg j (by omega))
      refine b_Dk_leastFree_2 (brle (a := 30) (by omega) (by omega) (fun q => absurd q (by omega)) (fun _ => ygr ho rfl (ygi ho rfl ?_)))
      rw [e4, nI_1]
      refine yrl _ h.1.1.2.2.2.1 (vp_in_nI hc2 (by omega)) (by rw [nI_clamp (by omega)]; exact e2) ⟨yex hL.1.1.1, Li_uses_sp hL (by omega) (xviI (brBn (fun q => hno (by rw [q]; rfl)) (fun q => ⟨yex ho, Dk_isChosen_sp h.1.1 hn (by omega) hc (xviI (brB (fun q2 => ?_) (fun q2 => hno (by rw [q2, Bool.or_true]; rfl))))⟩)))⟩
      have e : fre (dL D) ch n = s := fstI_eq (Nat.le_of_lt hs) hg (Or.inr (by rw [q, q2]; rfl))
      rw [e] at hp
      exact hp
  exact hlo 0 (Nat.zero_le _) (fun j hj => absurd hj (Nat.not_lt_zero _))
theorem Dk_tellSlot_sp (h : yKv Λ S k C Lx PL D) (hp : post (some (.int (tlS D x y))) (yH Λ f0 S)) : xSp xT0 (d + 2) j_Dk_tellSlot [.ref k, .int x, .int y] (yH Λ f0 S) post := by
  obtain ⟨hc2, e4, e2, hL⟩ := yKv_c h
  have ho := h.1.1.1
  unfold tlS at hp
  refine xSp_of (M := m_Dk_tellSlot) rfl (b_Dk_tellSlot_0 ⟨yex ho, Dk_isSlot_sp (fun s hs e => xviI ⟨fun _ => ?_, fun z => absurd (by decide) z⟩) (fun z => xviI ⟨fun z => absurd rfl z, fun _ => ?_⟩)⟩)
  · subst e
    have hn : ¬ (nI s < 0 ∨ nI 30 ≤ nI s) := fun z => z.elim (nI_pos (by omega)) (fun z => absurd ((leI (by omega) (by omega)).mp z) (by omega))
    rw [if_neg hn, nI_clamp (by omega)] at hp
    have hcs := h.1.2.1 s hs
    have hb := h.2.1 s hs
    refine ⟨fun c => ygr ho rfl (yal h.1.1.2.2.1 (vp_in_nI (by omega) (by omega)) ?_), fun c => ⟨fun c2 => ygr ho rfl (yal h.1.1.2.2.1 (vp_in_nI (by omega) (by omega)) ?_), fun c2 => ⟨fun c3 => ygr ho rfl (ygi ho rfl ?_), fun c3 => ?_⟩⟩⟩
    · rw [if_pos c] at hp
      rw [nI_clamp (by omega), hb.2]
      cases e : D.1 s with
      | none =>
        rw [e] at hp
        exact brB (fun _ => hp) (fun z => absurd z (by decide))
      | some b =>
        rw [e] at hp hb
        exact brB (fun z => absurd z (by simp)) (fun _ => ygr ho rfl (yrl (C s) h.1.1.2.1 (vp_in_nI hs (by omega)) (by rw [nI_clamp (by omega)]; exact hcs.1) ⟨yex hcs.2.1.1, By_size_sp hcs.2.1 hb.1 hp⟩))
    · rw [if_neg c, if_pos c2] at hp
      rw [nI_clamp (by omega), hb.2]
      cases e : D.1 s with
      | none =>
        rw [e] at hp
        exact brB (fun _ => hp) (fun z => absurd z (by decide))
      | some b =>
        rw [e] at hp hb
        exact brB (fun z => absurd z (by simp)) (fun _ => ygr ho rfl (yrl (C s) h.1.1.2.1 (vp_in_nI hs (by omega)) (by rw [nI_clamp (by omega)]; exact hcs.1) ⟨yex hcs.2.1.1, By_sum_sp hcs.2.1 hb.1 hp⟩))
    · rw [if_neg c, if_neg c2, if_pos c3] at hp
      rw [e4]
      refine yrl _ h.1.1.2.2.2.1 (vp_in_nI hc2 (by omega)) (by rw [nI_clamp (by omega)]; exact e2) ⟨yex hL.1.1.1, Li_uses_sp hL (by omega) (xviI (brB (fun q => ?_) (fun q => ?_)))⟩
      · rw [q] at hp; exact hp
      · rw [q] at hp; exact hp
    · rw [if_neg c, if_neg c2, if_neg c3] at hp
      exact hp
  · rw [if_pos (by assumption)] at hp
    exact hp
end
