/-! 77 Listing -/
abbrev Le : Type := List Nat × Nat
abbrev le0 : Le := ([], 0)
def yLi (Λ : yL) (l : Nat) : Prop := yo Λ l 9 ∧ yr Λ (Λ.2.1 9 0 l) 9 0 l 3 10 ∧ yn Λ (Λ.2.1 9 1 l) 9 1 l 0 10
def yLp (Λ : yL) (S : yS) (l : Nat) (P : Nat → Nat) : Prop := yLi Λ l ∧ (∀ i, i < 10 → yR S 9 0 l i = some (P i) ∧ yB Λ (P i) 17 ∧ own Λ (P i) = l) ∧ ∀ i j, i < 10 → j < 10 → P i = P j → i = j
def yLv (Λ : yL) (S : yS) (l : Nat) (P : Nat → Nat) (L : List Le) : Prop := yLp Λ S l P ∧ L.length ≤ 10 ∧ yI S 9 2 l = nI L.length ∧ ∀ i, i < L.length → yBv S (P i) 17 (L.getD i le0).1 ∧ yA S 9 1 l i = nI (L.getD i le0).2 ∧ (L.getD i le0).2 < 30
def oI (o : Option Nat) : Int32 := match o with
  | none => -1
  | some s => nI s
def slI (L : List Le) (bs : List Nat) : Nat := fstI (fun i => decide ((L.getD i le0).1 = bs)) L.length
def slO (L : List Le) (bs : List Nat) : Option Nat := if slI L bs < L.length then some (L.getD (slI L bs) le0).2 else none
def usL (L : List Le) (s : Nat) : Bool := decide (fstI (fun i => decide ((L.getD i le0).2 = s)) L.length < L.length)
def mkL (fs : List Fl) (ch : Nat → Nat) : List Le := (List.range fs.length).map (fun i => ((fs.getD i fl0).1, ch i))
theorem mkL_l (fs : List Fl) (ch : Nat → Nat) : (mkL fs ch).length = fs.length := by unfold mkL; rw [List.length_map, List.length_range]
theorem mkL_g {fs : List Fl} {ch : Nat → Nat} {i : Nat} (h : i < fs.length) : (mkL fs ch).getD i le0 = ((fs.getD i fl0).1, ch i) := by
  unfold mkL
  rw [List.getD_eq_getElem?_getD, List.getElem?_map, List.getElem?_range h]
  rfl
abbrev Al (Λ : yL) (l : Nat) : Nat → Nat → Prop := fun _ a => a = l ∨ own Λ a = l
section
variable {Λ : yL} {f0 : xH} {S0 S S' : yS} {l t k o cap d r : Nat} {P : Nat → Nat} {L : List Le} {fs : List Fl} {bs cs : List Nat} {ch : Nat → Nat} {x y : Int32} {A : Nat → Nat → Prop} {post : Option Value → xH → Prop}
theorem Li_size_sp (h : yLv Λ S l P L) (hp : post (some (.int (nI L.length))) (yH Λ f0 S)) : xSp xT0 (d + 1) j_Li_size [.ref l] (yH Λ f0 S) post := by
  refine xSp_of (M := m_Li_size) rfl (b_Li_size_0 (ygi h.1.1.1 rfl ?_))
  rw [h.2.2.1]
  exact hp
theorem Li_slotOf_sp (h : yLv Λ S l P L) (hO : yB Λ o cap) (hw : yBv S o cap bs) (hp : post (some (.int (oI (slO L bs)))) (yH Λ f0 S)) : xSp xT0 (d + 3) j_Li_slotOf [.ref l, .ref o] (yH Λ f0 S) post := by
  have hl := h.2.1
  have hs := h.1.1
  refine xSp_of (M := m_Li_slotOf) rfl (b_Li_slotOf_0 ?_)
  have hlo : ∀ k, k ≤ L.length → ((∀ j, j < k → decide ((L.getD j le0).1 = bs) = false) → xWp (xT0, xSp xT0 (d + 2), none, m_Li_slotOf, post) 2 [some (.ref l), some (.ref o), some (.int (nI k))] [] (yH Λ f0 S) 0 0) := by
    refine loopUp ?_ ?_
    · intro hg
      refine b_Li_slotOf_2 (ygi hs.1 rfl ?_)
      rw [h.2.2.1]
      refine brle (by omega) (by omega) (fun _ => ?_) (fun q => absurd q (by omega))
      have e : slI L bs = L.length := fstI_eq (Nat.le_refl _) hg (Or.inl rfl)
      unfold slO at hp
      rw [e, if_neg (Nat.lt_irrefl _)] at hp
      exact hp
    · intro k hk ih hg
      have hpk := h.1.2.1 k (by omega)
      refine b_Li_slotOf_2 (ygi hs.1 rfl ?_)
      rw [h.2.2.1]
      refine brle (by omega) (by omega) (fun q => absurd q (by omega)) (fun _ => ygr hs.1 rfl (yrl (P k) hs.2.1 (vp_in_nI (by omega) (by omega)) (by rw [nI_clamp (by omega)]; exact hpk.1) ⟨yex hpk.2.1.1, By_equalTo_sp hpk.2.1 hO (h.2.2.2 k hk).1 hw ?_⟩))
      rw [nI_1]
      by_cases e : (L.getD k le0).1 = bs
      · rw [if_pos e]
        refine ⟨fun z => absurd z (by decide), fun _ => ygr hs.1 rfl (yal hs.2.2 (vp_in_nI (by omega) (by omega)) ?_)⟩
        rw [nI_clamp (by omega), (h.2.2.2 k hk).2.1]
        have e2 : slI L bs = k := fstI_eq (Nat.le_of_lt hk) hg (Or.inr (decide_eq_true e))
        unfold slO at hp
        rw [e2, if_pos hk] at hp
        exact hp
      · rw [if_neg e]
        refine ⟨fun _ => ih (fun j hj => ?_), fun z => absurd rfl z⟩
        by_cases z : j = k
        · rw [z]; exact decide_eq_false e
        · exact hg j (by omega)
  exact hlo 0 (Nat.zero_le _) (fun j hj => absurd hj (Nat.not_lt_zero _))
theorem Li_uses_sp (h : yLv Λ S l P L) {s : Nat} (hs30 : s ≤ 30) (hp : post (some (.int (bI (usL L s)))) (yH Λ f0 S)) : xSp xT0 (d + 1) j_Li_uses [.ref l, .int (nI s)] (yH Λ f0 S) post := by
  have hl := h.2.1
  have hs := h.1.1
  refine xSp_of (M := m_Li_uses) rfl (b_Li_uses_0 ?_)
  have hlo : ∀ k, k ≤ L.length → ((∀ j, j < k → decide ((L.getD j le0).2 = s) = false) → xWp (xT0, xSp xT0 d, none, m_Li_uses, post) 2 [some (.ref l), some (.int (nI s)), some (.int (nI k))] [] (yH Λ f0 S) 0 0) := by
    refine loopUp ?_ ?_
    · intro hg
      refine b_Li_uses_2 (ygi hs.1 rfl ?_)
      rw [h.2.2.1]
      refine brle (by omega) (by omega) (fun _ => ?_) (fun q => absurd q (by omega))
      have e : usL L s = false := decide_eq_false (by rw [fstI_eq (Nat.le_refl _) hg (Or.inl rfl)]; exact Nat.lt_irrefl _)
      rw [e] at hp
      exact hp
    · intro k hk ih hg
      refine b_Li_uses_2 (ygi hs.1 rfl ?_)
      rw [h.2.2.1]
      refine brle (by omega) (by omega) (fun q => absurd q (by omega)) (fun _ => ygr hs.1 rfl (yal hs.2.2 (vp_in_nI (by omega) (by omega)) ?_))
      have hk30 := (h.2.2.2 k hk).2.2
      rw [nI_clamp (by omega), (h.2.2.2 k hk).2.1, nI_1]
      refine brne (by omega) (by omega) (fun c => ih (fun j hj => ?_)) (fun c => ?_)
      · by_cases z : j = k
        · rw [z]; exact decide_eq_false c
        · exact hg j (by omega)
      · have e : usL L s = true := decide_eq_true (by rw [fstI_eq (Nat.le_of_lt hk) hg (Or.inr (decide_eq_true c))]; exact hk)
        rw [e] at hp
        exact hp
  exact hlo 0 (Nat.zero_le _) (fun j hj => absurd hj (Nat.not_lt_zero _))
theorem yLv_fr (k : yFr A S S') (h9 : ¬ A 9 l) (hb : ∀ b cap, yB Λ b cap → own Λ b = l → ¬ A 1 b) (h : yLv Λ S l P L) : yLv Λ S' l P L := by
  have hl := h.2.1
  refine ⟨⟨h.1.1, fun i hi => ⟨?_, (h.1.2.1 i hi).2⟩, h.1.2.2⟩, h.2.1, ?_, fun i hi => ⟨?_, ?_, (h.2.2.2 i hi).2.2⟩⟩
  · rw [(k 9 0 l h9).2.2]; exact (h.1.2.1 i hi).1
  · rw [(k 9 2 l h9).1]; exact h.2.2.1
  · have hi' : i < 10 := by omega
    exact yFr_Bv k (hb _ _ (h.1.2.1 i hi').2.1 (h.1.2.1 i hi').2.2) (h.2.2.2 i hi).1
  · rw [(k 9 1 l h9).2.1]; exact (h.2.2.2 i hi).2.1
theorem Tv_Al (kk : yFr (Al Λ l) S S') (hl : yo Λ l 9) (tt : yTop Λ t) (h : yTv Λ S t fs) : yTv Λ S' t fs := by
  refine yFr_Tv kk ?_ (fun b cap hB hb => ?_) h
  · rintro (z | z)
    · exact yo_ne h.1.1 hl (by decide) z
    · exact yo_ne tt.1 hl (by decide) z
  · rintro (z | z)
    · exact yo_ne hB.1 hl (by decide) z
    · rw [hb] at z; exact yo_ne h.1.1 hl (by decide) z
theorem Li_becomeOf_sp (hW : yW Λ) (h : yLv Λ S l P L) (tt : yTop Λ t) (hT : yTv Λ S t fs) (hk : yo Λ k 10) (tk : yTop Λ k) (hr : yn Λ r 10 3 k 0 10) (hc : ∀ i, i < fs.length → yA S 10 3 k i = nI (ch i) ∧ ch i < 30) (hp : ∀ S', yFr (Al Λ l) S S' → yLv Λ S' l P (mkL fs ch) → post none (yH Λ f0 S')) : xSp xT0 (d + 3) j_Li_becomeOf [.ref l, .ref t, .ref r] (yH Λ f0 S) post := by
  have hfl := Tv_le hT
  have hs := h.1.1
  have hnk : ¬ Al Λ l 10 k := by
    rintro (z | z)
    · exact yo_ne hk hs.1 (by decide) z
    · exact yo_ne tk.1 hs.1 (by decide) z
  refine xSp_of (M := m_Li_becomeOf) rfl (b_Li_becomeOf_0 ⟨yex hT.1.1, Tr_size_sp hT (xviI (yle hr (ypf hs.1 rfl ?_)))⟩)
  have e0 : (if (if (10 : Int32) < Int32.ofNat 10 then (10 : Int32) else Int32.ofNat 10) < nI fs.length then (if (10 : Int32) < Int32.ofNat 10 then (10 : Int32) else Int32.ofNat 10) else nI fs.length) = nI fs.length := by
    have e1 : (if (10 : Int32) < Int32.ofNat 10 then (10 : Int32) else Int32.ofNat 10) = nI 10 := by decide
    rw [e1]
    exact if_neg (fun z => absurd ((ltI (by omega) (by omega)).mp z) (by omega))
  rw [e0]
  have hlo : ∀ n, n ≤ fs.length → (∀ S1, yFr (Al Λ l) S S1 → yLp Λ S1 l P → yI S1 9 2 l = nI fs.length → (∀ i, i < n → yBv S1 (P i) 17 (fs.getD i fl0).1 ∧ yA S1 9 1 l i = nI (ch i)) → xWp (xT0, xSp xT0 (d + 2), none, m_Li_becomeOf, post) 20 [some (.ref l), some (.ref t), some (.ref r), some (.int (nI n))] [] (yH Λ f0 S1) 0 0) := by
    refine loopUp ?_ ?_
    · intro S1 k1 hp1 hz hg
      refine b_Li_becomeOf_20 (ygi hs.1 rfl ?_)
      rw [hz]
      refine brle (by omega) (by omega) (fun _ => hp S1 k1 ⟨hp1, by rw [mkL_l]; exact hfl, by rw [mkL_l]; exact hz, fun i hi => ?_⟩) (fun q => absurd q (by omega))
      rw [mkL_l] at hi
      rw [mkL_g hi]
      exact ⟨(hg i hi).1, (hg i hi).2, (hc i hi).2⟩
    · intro n hn ih S1 k1 hp1 hz hg
      have hT1 := Tv_Al k1 hs.1 tt hT
      have hpn := hp1.2.1 n (by omega)
      refine b_Li_becomeOf_20 (ygi hs.1 rfl ?_)
      rw [hz]
      refine brle (by omega) (by omega) (fun q => absurd q (by omega)) (fun _ => ygr hs.1 rfl (yrl (P n) hs.2.1 (vp_in_nI (by omega) (by omega)) (by rw [nI_clamp (by omega)]; exact hpn.1) ⟨yex hT1.1.1, Tr_pAt hT1 hn (fun q B1 v1 o1 => xvrI ⟨yex hpn.2.1.1, By_copyOf_sp hW hpn.2.1 B1 ?_ v1 v1.1 (fun gg hg2 => xvvI (ygr hs.1 rfl (yal hr (vp_in_nI (by omega) (by omega)) (yas hs.2.2 (yW_n hW hs.2.2) (vp_in_nI (by omega) (by omega)) ?_))))⟩)⟩))
      · intro e
        rw [e, hpn.2.2] at o1
        exact yo_ne hs.1 hT.1.1 (by decide) o1
      · rw [nI_clamp (by omega), nI_1]
        have k2 : yFr (Al Λ l) S1 (yBw S1 (P n) gg (nI (fs.getD n fl0).1.length)) := yFr_Bw (Or.inr hpn.2.2)
        have e3 : yA (yBw S1 (P n) gg (nI (fs.getD n fl0).1.length)) 10 3 k n = nI (ch n) := by
          rw [(yFr_tr k1 k2 10 3 k hnk).2.1]
          exact (hc n hn).1
        rw [e3]
        refine ih _ (yFr_tr (yFr_tr k1 k2) (yFr_wA (Or.inl rfl))) ⟨hs, fun i hi => hp1.2.1 i hi, hp1.2.2⟩ hz (fun i hi => ?_)
        have e4 : yA (yBw S1 (P n) gg (nI (fs.getD n fl0).1.length)) 9 1 l = yA S1 9 1 l := by rw [yBw_A, if_neg (by omega)]
        rw [yA_s, e4]
        by_cases z : i = n
        · rw [z, pk_us]
          exact ⟨hg2, rfl⟩
        · rw [pk_un z]
          exact ⟨yBv_w (S := S1) (fun e => z (hp1.2.2 i n (by omega) (by omega) e)) (hg i (by omega)).1, (hg i (by omega)).2⟩
  exact hlo 0 (Nat.zero_le _) _ (yFr_wI (Or.inl rfl)) ⟨hs, fun i hi => h.1.2.1 i hi, h.1.2.2⟩ (ywI_s _ _ _ _ _) (fun i hi => absurd hi (Nat.not_lt_zero _))
end
