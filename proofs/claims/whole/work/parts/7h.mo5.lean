/-! 7h the other object: path, trees -/
def pmGo (n l : Nat) : List Nat → Option (Nat × Nat)
  | [] => some (n, l)
  | b :: r => if b = 47 then (if 0 < l then pmGo (n + 1) 0 r else none) else if 97 ≤ b ∧ b ≤ 122 ∧ l + 1 ≤ 5 then pmGo n (l + 1) r else none
theorem pmGo_c (n l b : Nat) (r : List Nat) : pmGo n l (b :: r) = if b = 47 then (if 0 < l then pmGo (n + 1) 0 r else none) else if 97 ≤ b ∧ b ≤ 122 ∧ l + 1 ≤ 5 then pmGo n (l + 1) r else none := rfl
theorem pm_mono : ∀ (bs : List Nat) (n l : Nat) {n' l' : Nat}, pmGo n l bs = some (n', l') → n ≤ n' ∧ n' + l' ≤ n + l + bs.length
  | [], n, l, n', l', h => by
    unfold pmGo at h
    have e := Option.some.inj h
    have e1 : n = n' := congrArg Prod.fst e
    have e2 : l = l' := congrArg Prod.snd e
    simp only [List.length_nil]
    omega
  | b :: r, n, l, n', l', h => by
    unfold pmGo at h
    rw [List.length_cons]
    split at h
    · split at h
      · have := pm_mono r (n + 1) 0 h; omega
      · cases h
    · split at h
      · have := pm_mono r n (l + 1) h; omega
      · cases h
theorem pm_nm : ∀ (bs : List Nat) (n l : Nat), n ≤ 3 → nmGo n l bs = match pmGo n l bs with
    | none => 0
    | some q => if 0 < q.2 ∧ q.1 ≤ 3 then q.1 else 0
  | [], n, l, h => by
    unfold nmGo pmGo
    dsimp only
    by_cases c : 0 < l
    · rw [if_pos c, if_pos ⟨c, h⟩]
    · rw [if_neg c, if_neg (fun z => c z.1)]
  | b :: r, n, l, h => by
    unfold nmGo pmGo
    by_cases c : b = 47
    · rw [if_neg (by omega), if_pos c]
      by_cases c2 : 0 < l
      · rw [if_pos c2]
        by_cases c3 : n < 3
        · rw [if_pos ⟨c, c2, c3⟩]
          exact pm_nm r (n + 1) 0 (by omega)
        · rw [if_neg (fun z => c3 z.2.2)]
          cases hq : pmGo (n + 1) 0 r with
          | none => rfl
          | some q =>
            have := pm_mono r (n + 1) 0 (n' := q.1) (l' := q.2) hq
            dsimp only
            rw [if_neg (by omega)]
      · rw [if_neg c2, if_neg (fun z => c2 z.2.1)]
    · rw [if_neg c]
      by_cases c2 : 97 ≤ b ∧ b ≤ 122 ∧ l < 5
      · rw [if_pos c2, if_pos (by omega)]
        exact pm_nm r n (l + 1) h
      · rw [if_neg c2, if_neg (fun z => c z.1), if_neg (by omega)]
theorem nm_ok : ∀ (bs : List Nat) (n l : Nat), 0 < nmGo n l bs → okP bs
  | [], n, l, _ => fun b hb => absurd hb (by simp)
  | b :: r, n, l, h => by
    unfold nmGo at h
    intro x hx
    rcases List.mem_cons.mp hx with e | e
    · subst e
      split at h
      · omega
      · split at h
        · omega
        · omega
    · split at h
      · exact nm_ok r _ _ h x e
      · split at h
        · exact nm_ok r _ _ h x e
        · omega
section
variable {Λ : yL} {f0 : xH} {S S' : yS} {m d t f g : Nat} {J : Nat → Prop} {fs : List Fl} {ts : List (List Fl)} {v : Sv} {vs : List Sv} {ps : List (List Sv)} {cl : List (Nat × Nat)} {D : Dv} {bs cs : List Nat} {B : Ab} {x y a b c e z : Int32} {post : Option Value → xH → Prop}
theorem in_ab {b : Nat} (hb : b < 256) : ((97 : Int64) ≤ (sb b).toInt64 ∧ (sb b).toInt64 ≤ 122) ↔ 97 ≤ b ∧ b ≤ 122 := by
  have : ∀ q : Fin 256, decide ((97 : Int64) ≤ (sb q.val).toInt64 ∧ (sb q.val).toInt64 ≤ 122) = decide (97 ≤ q.val ∧ q.val ≤ 122) := by decide +kernel
  have := this ⟨b, hb⟩
  exact decide_eq_decide.mp this
theorem M_path (q : mQ Λ S m B) (hp : ∀ S', yFr (A11 m) S S' → mQ Λ S' m (a_path B).1 → post (some (.int (a_path B).2)) (yH Λ f0 S')) : xSp xT0 (d + 8) j_Mo_path [.ref m] (yH Λ f0 S) post := by
  have hL := q.1
  have ho := hL.2.1
  have hl := q.2.1.1
  have hr := q.2.1.2.2
  have k0 : zX m (fun j => j = 0 ∨ j = 1 ∨ j = 2) S (ywI (ywI S 11 0 m 0) 11 2 m 0) := zX_tr (zX_wI (Or.inl rfl)) (zX_wI (Or.inr (Or.inr rfl)))
  have hr0 : rg (yA (ywI (ywI S 11 0 m 0) 11 2 m 0) 11 1 m) 0 B.1 := hr
  have e02 : yI (ywI (ywI S 11 0 m 0) 11 2 m 0) 11 2 m = 0 := ywI_s _ _ _ _ _
  have e5 : yI (ywI S 11 0 m 0) 11 2 m = nI B.1.length := by rw [ywI_ne _ _ (by omega)]; exact q.2.1.2.1
  unfold a_path at hp
  refine xSp_of (M := m_Mo_path) rfl (b_Mo_path_0 (ypf ho rfl (ygi ho rfl (ypf ho rfl ?_))))
  rw [e5]
  generalize ywI (ywI S 11 0 m 0) 11 2 m 0 = S0 at *
  have hbad : nmB B.1 = 0 → post (some (.int (-1))) (yH Λ f0 S0) := by
    intro en
    rw [if_neg (by omega)] at hp
    exact hp S0 (zX_Fr k0) (mQ_a k0 q ⟨by simp, e02, fun k hk => absurd hk (by simp)⟩)
  have h122 : ∀ (x2 x3 x5 : Int32), nmB B.1 = 0 → xWp (xT0, xSp xT0 (d + 7), none, m_Mo_path, post) 122 [some (.ref m), some (.int (nI B.1.length)), some (.int x2), some (.int x3), some (.int 0), some (.int x5)] [] (yH Λ f0 S0) 0 0 := fun x2 x3 x5 en => b_Mo_path_122 ⟨fun _ => hbad en, fun z => absurd rfl z⟩
  have h39b : ∀ (x2 x3 x5 : Int32), nmB B.1 = 0 → xWp (xT0, xSp xT0 (d + 7), none, m_Mo_path, post) 39 [some (.ref m), some (.int (nI B.1.length)), some (.int x2), some (.int x3), some (.int 0), some (.int x5)] [] (yH Λ f0 S0) 0 0 := fun x2 x3 x5 en => b_Mo_path_39 ⟨fun _ => h122 _ _ _ en, fun _ => ⟨fun _ => h122 _ _ _ en, fun z => absurd rfl z⟩⟩
  have hlo : 0 < B.1.length → B.1.length ≤ 17 → ∀ k, k ≤ B.1.length → (∀ n l, n + l ≤ 1 + k → pmGo 1 0 B.1 = pmGo n l (B.1.drop k) → xWp (xT0, xSp xT0 (d + 7), none, m_Mo_path, post) 39 [some (.ref m), some (.int (nI B.1.length)), some (.int (nI n)), some (.int (nI l)), some (.int 1), some (.int (nI k))] [] (yH Λ f0 S0) 0 0) := by
    intro hpos h17
    have hnm := pm_nm B.1 1 0 (by omega)
    refine loopUp ?_ ?_
    · intro n l hnl ep
      rw [List.drop_of_length_le (Nat.le_refl _)] at ep
      have ep : pmGo 1 0 B.1 = some (n, l) := ep
      rw [ep] at hnm
      have hnm : nmB B.1 = if 0 < l ∧ n ≤ 3 then n else 0 := hnm
      have hmono := pm_mono B.1 1 0 ep
      refine b_Mo_path_39 (brle (by omega) (by omega) (fun _ => b_Mo_path_122 ⟨fun z => absurd z (by decide), fun _ => breq (b := 0) (by omega) (by omega) (fun cl => hbad (by rw [hnm, if_neg (by omega)])) (fun cl => brle (b := 3) (by omega) (by omega) (fun c3 => ?_) (fun c3 => hbad (by rw [hnm, if_neg (by omega)])))⟩) (fun z => by omega))
      rw [if_pos ⟨by omega, c3⟩] at hnm
      rw [if_pos (by omega)] at hp
      have hcp : ∀ k, k ≤ B.1.length → (∀ S1, zX m (fun j => j = 3) S0 S1 → rg (yA S1 11 3 m) 0 (B.1.take k) → xWp (xT0, xSp xT0 (d + 7), none, m_Mo_path, post) 141 [some (.ref m), some (.int (nI B.1.length)), some (.int (nI n)), some (.int (nI l)), some (.int 1), some (.int (nI k))] [] (yH Λ f0 S1) 0 0) := by
        refine loopUp ?_ ?_
        · intro S1 k1 hr1
          refine b_Mo_path_141 (brle (by omega) (by omega) (fun _ => ypf ho rfl ?_) (fun z => by omega))
          rw [List.take_length] at hr1
          rw [hnm] at hp
          have k2 : zX m (fun j => j ≤ 4) S (ywI S1 11 4 m (nI B.1.length)) := zX_tr (zX_tr (zX_mo k0 (fun j z => by omega)) (zX_mo k1 (fun j z => by omega))) (zX_wI (by omega))
          refine hp _ (zX_Fr k2) (mQ_ah k2 q ⟨by simp, ?_, fun k hk => absurd hk (by simp)⟩ ⟨h17, ywI_s _ _ _ _ _, hr1⟩)
          rw [ywI_ne _ _ (by omega), (mX k1 (by omega)).1]
          exact e02
        · intro k hk ih S1 k1 hr1
          have hx := hr0 k hk
          refine b_Mo_path_141 (brle (by omega) (by omega) (fun z => by omega) (fun _ => ygr ho rfl (ygr ho rfl (yal (mk1 hL) (vp_in_nI (by omega) (by omega)) (yas (mk3 hL) (yW_n hL.1 (mk3 hL)) (vp_in_nI (by omega) (by omega)) ?_)))))
          rw [nI_clamp (by omega), nI_1, (mX k1 (j := 1) (by omega)).2]
          have hx1 : yA S0 11 1 m k = sb (B.1.getD k 0) := by have := hx.1; rw [Nat.zero_add] at this; exact this
          rw [hx1, sb_id]
          refine ih _ (zX_tr k1 (zX_wA rfl)) (fun i hi => ?_)
          rw [yA_s, Nat.zero_add]
          rw [List.length_take] at hi
          have eg : (B.1.take (k + 1)).getD i 0 = B.1.getD i 0 := by rw [List.getD_eq_getElem?_getD, List.getElem?_take, if_pos (by omega), ← List.getD_eq_getElem?_getD]
          rw [eg]
          by_cases w : i = k
          · rw [w, pk_us]; exact ⟨rfl, hx.2⟩
          · rw [pk_un w]
            have := hr1 i (by rw [List.length_take]; omega)
            rw [Nat.zero_add, List.getD_eq_getElem?_getD, List.getElem?_take, if_pos (by omega), ← List.getD_eq_getElem?_getD] at this
            exact this
      exact hcp 0 (Nat.zero_le _) S0 zX_rf (fun i hi => absurd hi (by simp))
    · intro k hk ih n l hnl ep
      have hx := hr0 k hk
      have hx1 : yA S0 11 1 m k = sb (B.1.getD k 0) := by have := hx.1; rw [Nat.zero_add] at this; exact this
      rw [dropG hk, pmGo_c] at ep
      refine b_Mo_path_39 (brle (by omega) (by omega) (fun z => by omega) (fun _ => ⟨fun z => absurd z (by decide), fun _ => ygr ho rfl (yal (mk1 hL) (vp_in_nI (by omega) (by omega)) ?_)⟩))
      rw [nI_clamp (by omega), hx1, nI_1, nI_1, nI_1]
      have e0 : pmGo 1 0 B.1 = none → nmB B.1 = 0 := fun z => by rw [z] at hnm; exact hnm
      refine ⟨fun c47 => ygr ho rfl (yal (mk1 hL) (vp_in_nI (by omega) (by omega)) ?_), fun c47 => ?_⟩
      · have n47 : ¬ B.1.getD k 0 = 47 := fun z => c47 (by rw [z]; decide +kernel)
        rw [if_neg n47] at ep
        rw [nI_clamp (by omega), hx1]
        by_cases ci : 97 ≤ B.1.getD k 0 ∧ B.1.getD k 0 ≤ 122
        · rw [if_pos ((in_ab hx.2).mpr ci)]
          refine ⟨fun z => absurd z (by decide), fun _ => brlt (a := 5) (by omega) (by omega) (fun c5 => h39b _ _ _ (e0 (by rw [ep, if_neg (by omega)]))) (fun c5 => ih n (l + 1) (by omega) (by rw [ep, if_pos (by omega)]))⟩
        · rw [if_neg (fun z => ci ((in_ab hx.2).mp z))]
          exact ⟨fun _ => h39b _ _ _ (e0 (by rw [ep, if_neg (by omega)])), fun z => absurd rfl z⟩
      · have n47 : B.1.getD k 0 = 47 := sb_inj hx.2 (by omega) (by rw [Classical.not_not.mp c47]; decide +kernel)
        rw [if_pos n47] at ep
        refine brle (b := 0) (by omega) (by omega) (fun cl => h39b _ _ _ (e0 (by rw [ep, if_neg (by omega)]))) (fun cl => ih (n + 1) 0 (by omega) (by rw [ep, if_pos cl]))
  refine brle (b := 0) (by omega) (by omega) (fun c0 => h39b _ _ _ ?_) (fun c0 => brlt (a := 17) (by omega) (by omega) (fun c1 => h39b _ _ _ ?_) (fun c1 => hlo c0 c1 0 (Nat.zero_le _) 1 0 (by omega) rfl))
  · have : B.1 = [] := List.eq_nil_of_length_eq_zero (by omega)
    rw [this]; rfl
  · rcases Nat.eq_zero_or_pos (nmB B.1) with z | z
    · exact z
    · have := nmB_len z; omega
end
