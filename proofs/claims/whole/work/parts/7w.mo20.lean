/-! 7w the other object: patch -/
def chM (fs gs : List Fl) (n : Nat) : List Sv := (List.range n).foldl (fun st j => if fnd fs (gs.getD j fl0).1 < fs.length ∧ ¬ (fs.getD (fnd fs (gs.getD j fl0).1) fl0).2 = (gs.getD j fl0).2 then st ++ [mkS 2 (fs.getD (fnd fs (gs.getD j fl0).1) fl0) (gs.getD j fl0)] else st) []
abbrev WS : Type := (Nat → Bool) × (Nat → Bool) × (Nat → Option Nat)
def mwI (fs gs : List Fl) (W : WS) (j : Nat) : Nat := fstI (fun i => W.1 i && decide ((fs.getD i fl0).2 = (gs.getD j fl0).2)) fs.length
def mwS (fs gs : List Fl) (W : WS) (j : Nat) : WS := if W.2.1 j = true ∧ 0 < (gs.getD j fl0).2.length ∧ mwI fs gs W j < fs.length then (setB W.1 (mwI fs gs W j), setB W.2.1 j, fun k => if k = j then some (mwI fs gs W j) else W.2.2 k) else W
def mwL (fs gs : List Fl) (W : WS) (n : Nat) : WS := (List.range n).foldl (mwS fs gs) W
def mwM (fs gs : List Fl) (w : Nat → Option Nat) (st : List Sv) (n : Nat) : List Sv := (List.range n).foldl (fun st j => match w j with
  | none => st
  | some i => st ++ [mkS 3 (fs.getD i fl0) (gs.getD j fl0)]) st
abbrev Jc (j : Nat) : Prop := (11 ≤ j ∧ j ≤ 22) ∨ (24 ≤ j ∧ j ≤ 28)
def mCx (S0 S1 : yS) (m p : Nat) (st : List Sv) : Prop := zX m Jc S0 S1 ∧ zP m p S0 S1 ∧ mP S1 m p (stV st) ∧ ∀ k, k < st.length → okP (st.getD k sv0).2.1
/-- what is paired -/
def nwI (N : Bool) (o : Option Nat) : Int32 := if N = true then -2 else match o with
  | none => -3
  | some i => nI i
def mW1 (S : yS) (m n : Nat) (G : Nat → Bool) : Prop := ∀ i, i < n → (yA S 11 27 m i = -2 ↔ G i = true)
def mW2 (S : yS) (m n : Nat) (N : Nat → Bool) (w : Nat → Option Nat) : Prop := ∀ j, j < n → yA S 11 28 m j = nwI (N j) (w j)
def mW3 (S : yS) (m n : Nat) (N : Nat → Bool) : Prop := ∀ j, j < n → (yA S 11 28 m j = -2 ↔ N j = true)
theorem nI_n2 {i : Nat} (h : i < 2 ^ 31) : ¬ nI i = -2 := fun w => nI_pos h (by rw [w]; decide)
theorem nwI_2 {N : Bool} {o : Option Nat} (ho : ∀ i, o = some i → i < 2 ^ 31) : nwI N o = -2 ↔ N = true := by
  unfold nwI
  cases N
  · rw [if_neg (by decide)]
    cases o with
    | none => exact ⟨fun w => absurd w (by decide), fun w => absurd w (by decide)⟩
    | some i => exact ⟨fun w => absurd w (nI_n2 (ho i rfl)), fun w => absurd w (by decide)⟩
  · rw [if_pos rfl]; exact ⟨fun _ => rfl, fun _ => rfl⟩
section
variable {Λ : yL} {f0 : xH} {S0 S S' S1 S2 : yS} {m d p s t u f g : Nat} {J F : Nat → Prop} {v w : Sv} {st vs : List Sv} {fs gs : List Fl} {xs ys bs cs : List Nat} {B : Ab} {x y a b c e z : Int32} {fl gl : Fl} {post : Option Value → xH → Prop}
theorem Mo_add2 (hL : mLay Λ m) (hp8 : p < 9) (h : mCx S0 S m p st) (hn : st.length < 24) {wh : Bool} (hf : gF S m a fl) (hg : gF S m b gl) (hab : (a = -1 → fl.1 = gl.1 ∧ ¬ b = -1) ∧ (b = -1 → gl.1 = fl.1 ∧ ¬ a = -1)) (hox : okP gl.1) (hk0 : c = 0 ↔ a = -1) (hk1 : c = 1 ↔ b = -1) (hk3 : c = 3 ↔ wh = true) (heq : c = 3 → fl.2.length = gl.2.length) (hp : ∀ S', mCx S0 S' m p (st ++ [mkS c fl gl]) → (∀ j, 26 ≤ j → yA S' 11 j m = yA S 11 j m) → post none (yH Λ f0 S')) : xSp xT0 (d + 5) j_Mo_addStep [.ref m, .int (nI p), .int c, .int a, .int b, .int (bI wh)] (yH Λ f0 S) post := by
  obtain ⟨h1, h2, h3, h4⟩ := h
  have hsl := stV_l st
  refine Mo_addStep_sp hL hp8 h3 (by omega) (fun i hi => ?_) hf hg hab hox hk0 hk1 hk3 heq (fun S' k' z' p' => hp S' ⟨zX_tr h1 (zX_mo k' (fun j w => by unfold Jc; omega)), zP_tr h2 z', by rw [stV_a]; exact p', fun k hk => ?_⟩ (fun j hj => (mX k' (j := j) (by omega)).2))
  · obtain ⟨k, hk, e⟩ := stV_mem st st.length (Nat.le_refl _) i (by omega)
    rw [List.take_length] at e
    rw [e]
    exact h4 k hk
  · rw [List.length_append] at hk
    simp only [List.length_cons, List.length_nil] at hk
    rw [List.getD_eq_getElem?_getD]
    by_cases w : k < st.length
    · rw [List.getElem?_append_left w, ← List.getD_eq_getElem?_getD]; exact h4 k w
    · rw [List.getElem?_append_right (by omega), show k - st.length = 0 by omega]; exact hox
theorem Mo_isFree_sp {r c j o n i : Nat} (hr : yn Λ r c j o 0 n) (hi : i < n) (hn : n < 2 ^ 31) {G : Bool} (hg : yA S c j o i = -2 ↔ G = true) (hp : post (some (.int (bI G))) (yH Λ f0 S)) : xSp xT0 (d + 1) j_Mo_isFree [.ref m, .ref r, .int (nI i)] (yH Λ f0 S) post := by
  refine xSp_of (M := m_Mo_isFree) rfl (b_Mo_isFree_0 (yal hr (vp_in_nI hi hn) ?_))
  rw [nI_clamp (by omega)]
  refine ⟨fun w => ?_, fun w => ?_⟩
  · have : G = false := Bool.eq_false_iff.mpr (fun z => w (hg.mpr z))
    rw [this] at hp; exact hp
  · rw [hg.mp (Classical.not_not.mp w)] at hp; exact hp
theorem mW1_e (h : yA S' 11 27 m = yA S 11 27 m) {n : Nat} {G : Nat → Bool} (q : mW1 S m n G) : mW1 S' m n G := by unfold mW1; rw [h]; exact q
theorem mW2_e (h : yA S' 11 28 m = yA S 11 28 m) {n : Nat} {G : Nat → Bool} {w : Nat → Option Nat} (q : mW2 S m n G w) : mW2 S' m n G w := by unfold mW2; rw [h]; exact q
theorem mW3_e (h : yA S' 11 28 m = yA S 11 28 m) {n : Nat} {G : Nat → Bool} (q : mW3 S m n G) : mW3 S' m n G := by unfold mW3; rw [h]; exact q
theorem Mo_pairSame_sp (hL : mLay Λ m) (ht : t < 13) (hu : u < 13) (hT : mT S m t fs) (hU : mT S m u gs) {W : WS} (h1 : mW1 S m fs.length W.1) (h2 : mW2 S m gs.length W.2.1 W.2.2) (hw : ∀ j, W.2.1 j = true → W.2.2 j = none) (hb : ∀ j i, W.2.2 j = some i → i < fs.length) (hp : ∀ S', zX m (fun j => j = 27 ∨ j = 28) S S' → mW1 S' m fs.length (mwL fs gs W gs.length).1 → mW2 S' m gs.length (mwL fs gs W gs.length).2.1 (mwL fs gs W gs.length).2.2 → (∀ j i, (mwL fs gs W gs.length).2.2 j = some i → i < fs.length) → post none (yH Λ f0 S')) : xSp xT0 (d + 3) j_Mo_pairSame [.ref m, .int (nI t), .int (nI u)] (yH Λ f0 S) post := by
  have hW := hL.1
  have ho := hL.2.1
  have hfl := hT.1
  have hgl := hU.1
  have hTx : ∀ {S1}, zX m (fun j => j = 27 ∨ j = 28) S S1 → mT S1 m t fs ∧ mT S1 m u gs := fun k => ⟨mT_x k (fun j _ _ => by omega) hT, mT_x k (fun j _ _ => by omega) hU⟩
  refine xSp_of (M := m_Mo_pairSame) rfl (b_Mo_pairSame_0 ?_)
  have hlo : ∀ j, j ≤ gs.length → (∀ S1 (u4 u5 : Option Value), zX m (fun j => j = 27 ∨ j = 28) S S1 → mW1 S1 m fs.length (mwL fs gs W j).1 → mW2 S1 m gs.length (mwL fs gs W j).2.1 (mwL fs gs W j).2.2 → (∀ j', (mwL fs gs W j).2.1 j' = true → (mwL fs gs W j).2.2 j' = none) → (∀ j' i, (mwL fs gs W j).2.2 j' = some i → i < fs.length) → xWp (xT0, xSp xT0 (d + 2), none, m_Mo_pairSame, post) 2 [some (.ref m), some (.int (nI t)), some (.int (nI u)), some (.int (nI j)), u4, u5] [] (yH Λ f0 S1) 0 0) := by
    refine loopUp ?_ ?_
    · intro S1 u4 u5 k1 q1 q2 q3 q4
      refine b_Mo_pairSame_2 (ygr ho rfl (yal (mk9 hL) (vp_in_nI hu (by omega)) ?_))
      rw [nI_clamp (by omega), (hTx k1).2.2.1]
      exact brle (by omega) (by omega) (fun _ => hp S1 k1 q1 q2 q4) (fun w => by omega)
    · intro j hj ih S1 u4 u5 k1 q1 q2 q3 q4
      have es : mwL fs gs W (j + 1) = mwS fs gs (mwL fs gs W j) j := by unfold mwL; rw [rgF]
      rw [es] at ih
      generalize mwL fs gs W j = V at *
      refine b_Mo_pairSame_2 (ygr ho rfl (yal (mk9 hL) (vp_in_nI hu (by omega)) ?_))
      rw [nI_clamp (by omega), (hTx k1).2.2.1]
      refine brle (by omega) (by omega) (fun w => by omega) (fun _ => ?_)
      have hGj := (hTx k1).2.2.2 j hj
      -- is it still free, or has it been paired
      have hin : ∀ i, i ≤ fs.length → (∀ S2 (u5 : Option Value) (V2 : WS), zX m (fun j => j = 27 ∨ j = 28) S S2 → mW1 S2 m fs.length V2.1 → mW2 S2 m gs.length V2.2.1 V2.2.2 → (∀ j', V2.2.1 j' = true → V2.2.2 j' = none) → (∀ j' i, V2.2.2 j' = some i → i < fs.length) → ((V2 = mwS fs gs V j ∧ (V2.2.1 j = false ∨ ¬ 0 < (gs.getD j fl0).2.length)) ∨ (V2 = V ∧ V.2.1 j = true ∧ 0 < (gs.getD j fl0).2.length ∧ ∀ l, l < i → (V.1 l && decide ((fs.getD l fl0).2 = (gs.getD j fl0).2)) = false)) → xWp (xT0, xSp xT0 (d + 2), none, m_Mo_pairSame, post) 15 [some (.ref m), some (.int (nI t)), some (.int (nI u)), some (.int (nI j)), some (.int (nI i)), u5] [] (yH Λ f0 S2) 0 0) := by
        refine loopUp ?_ ?_
        · intro S2 u5 V2 k2 r1 r2 r3 r4 hcase
          refine b_Mo_pairSame_15 (ygr ho rfl (yal (mk9 hL) (vp_in_nI ht (by omega)) ?_))
          rw [nI_clamp (by omega), (hTx k2).1.2.1]
          refine brle (by omega) (by omega) (fun _ => ?_) (fun w => by omega)
          have eV : V2 = mwS fs gs V j := by
            rcases hcase with ⟨e, _⟩ | ⟨e, e1, e2, e3⟩
            · exact e
            · rw [e]
              unfold mwS
              have : mwI fs gs V j = fs.length := fstI_eq (Nat.le_refl _) e3 (Or.inl rfl)
              rw [if_neg (fun w => by have := w.2.2; omega)]
          rw [nI_1]
          rw [eV] at r1 r2 r3 r4
          exact ih S2 _ _ k2 r1 r2 r3 r4
        · intro i hi ih2 S2 u5 V2 k2 r1 r2 r3 r4 hcase
          have hTi := (hTx k2).1.2.2 i hi
          have hUj := (hTx k2).2.2.2 j hj
          obtain ⟨-, b1, b2, b3⟩ := id hUj
          have hno : (∀ (u5 : Option Value), ((V2 = mwS fs gs V j ∧ (V2.2.1 j = false ∨ ¬ 0 < (gs.getD j fl0).2.length)) ∨ (V2 = V ∧ V.2.1 j = true ∧ 0 < (gs.getD j fl0).2.length ∧ ∀ l, l < i + 1 → (V.1 l && decide ((fs.getD l fl0).2 = (gs.getD j fl0).2)) = false)) → xWp (xT0, xSp xT0 (d + 2), none, m_Mo_pairSame, post) 87 [some (.ref m), some (.int (nI t)), some (.int (nI u)), some (.int (nI j)), some (.int (nI i)), u5] [.int 0] (yH Λ f0 S2) 0 0) := fun u5 hc => by
            refine b_Mo_pairSame_87 ⟨fun _ => ?_, fun w => absurd rfl w⟩
            rw [nI_1]
            exact ih2 S2 _ V2 k2 r1 r2 r3 r4 hc
          have hst : (V.1 i && decide ((fs.getD i fl0).2 = (gs.getD j fl0).2)) = false → ((V2 = mwS fs gs V j ∧ (V2.2.1 j = false ∨ ¬ 0 < (gs.getD j fl0).2.length)) ∨ (V2 = V ∧ V.2.1 j = true ∧ 0 < (gs.getD j fl0).2.length ∧ ∀ l, l < i + 1 → (V.1 l && decide ((fs.getD l fl0).2 = (gs.getD j fl0).2)) = false)) := fun hz => by
            rcases hcase with q | ⟨e, e1, e2, e3⟩
            · exact Or.inl q
            · refine Or.inr ⟨e, e1, e2, fun l hl => ?_⟩
              by_cases w : l = i
              · rw [w]; exact hz
              · exact e3 l (by omega)
          refine b_Mo_pairSame_15 (ygr ho rfl (yal (mk9 hL) (vp_in_nI ht (by omega)) ?_))
          rw [nI_clamp (by omega), (hTx k2).1.2.1]
          refine brle (by omega) (by omega) (fun w => by omega) (fun _ => ygr ho rfl (Mo_at_sp (xviI (yal (mk8 hL) (vp_in_nI (by omega) (by omega)) ?_))))
          rw [nI_clamp (by omega), b1]
          have h28 : yA S2 11 28 m j = -2 ↔ V2.2.1 j = true := by
            rw [r2 j hj]
            exact nwI_2 (fun i h => by have := r4 j i h; omega)
          refine brle (b := 0) (by omega) (by omega) (fun c0 => hno _ ?_) (fun c0 => ygr ho rfl ⟨yex ho, Mo_isFree_sp (mk28 hL) (by omega) (by omega) h28 (xviI (brB (fun e1 => hno _ ?_) (fun e1 => ygr ho rfl ⟨yex ho, Mo_isFree_sp (mk27 hL) (by omega) (by omega) (r1 i hi) (xviI (brB (fun e2 => hno _ ?_) (fun e2 => Mo_at_sp (xviI (Mo_at_sp (xviI ⟨yex ho, Mo_isAlike_sp hL (by omega) (by omega) hTi hUj (xviI (brB (fun e3 => hno _ ?_) (fun e3 => ?_)))⟩))))))⟩)))⟩)
          · rcases hcase with q | ⟨e, e1, e2, e3⟩
            · exact Or.inl q
            · omega
          · rcases hcase with q | ⟨e, e1', e2, e3⟩
            · exact Or.inl q
            · rw [e, e1'] at e1; cases e1
          · rcases hcase with q | ⟨e, e1', e2', e3⟩
            · exact Or.inl q
            · refine hst ?_
              rw [e] at e2
              rw [e2]; rfl
          · refine hst ?_
            rw [e3, Bool.and_false]
          · rcases hcase with ⟨e, q | q⟩ | ⟨e, e1', e2', e3'⟩
            · rw [q] at e1; cases e1
            · exact absurd c0 q
            · subst e
              refine b_Mo_pairSame_87 ⟨fun w => absurd w (by decide), fun _ => ygr ho rfl (yas (mk28 hL) (yW_n hW (mk28 hL)) (vp_in_nI (by omega) (by omega)) (ygr ho rfl (yas (mk27 hL) (yW_n hW (mk27 hL)) (vp_in_nI (by omega) (by omega)) ?_)))⟩
              rw [nI_clamp (by omega), nI_clamp (by omega), nI_1]
              have ei : mwI fs gs V2 j = i := fstI_eq (Nat.le_of_lt hi) e3' (Or.inr (by rw [e2, e3]; rfl))
              have eS : mwS fs gs V2 j = (setB V2.1 i, setB V2.2.1 j, fun k => if k = j then some i else V2.2.2 k) := by
                unfold mwS
                rw [ei, if_pos ⟨e1', e2', hi⟩]
              refine ih2 _ _ (mwS fs gs V2 j) (zX_tr (zX_tr k2 (zX_wA (Or.inr rfl))) (zX_wA (Or.inl rfl))) (fun l hl => ?_) (fun l hl => ?_) (fun j' hj' => ?_) (fun j' i' hj' => ?_) (Or.inl ⟨rfl, Or.inl ?_⟩)
              · rw [eS, yA_s]
                show upd _ i _ l = -2 ↔ (if l = i then false else V2.1 l) = true
                by_cases w : l = i
                · rw [if_pos w, w, pk_us]
                  exact ⟨fun z => absurd z (nI_n2 (by omega)), fun z => absurd z (by decide)⟩
                · rw [if_neg w, pk_un w, yA_n _ _ (by omega)]
                  exact r1 l hl
              · rw [eS, yA_n _ _ (by omega), yA_s]
                show upd _ j _ l = nwI (if l = j then false else V2.2.1 l) (if l = j then some i else V2.2.2 l)
                by_cases w : l = j
                · rw [if_pos w, if_pos w, w, pk_us]; rfl
                · rw [if_neg w, if_neg w, pk_un w]; exact r2 l hl
              · rw [eS] at hj' ⊢
                have hj' : (if j' = j then false else V2.2.1 j') = true := hj'
                show (if j' = j then some i else V2.2.2 j') = none
                by_cases w : j' = j
                · rw [if_pos w] at hj'; cases hj'
                · rw [if_neg w] at hj' ⊢; exact r3 j' hj'
              · rw [eS] at hj'
                have hj' : (if j' = j then some i else V2.2.2 j') = some i' := hj'
                by_cases w : j' = j
                · rw [if_pos w] at hj'
                  have := Option.some.inj hj'
                  omega
                · rw [if_neg w] at hj'; exact r4 j' i' hj'
              · rw [eS]
                show (if j = j then false else V2.2.1 j) = false
                rw [if_pos rfl]
      refine hin 0 (Nat.zero_le _) S1 u5 V k1 q1 q2 q3 q4 ?_
      cases hN : V.2.1 j with
      | false =>
        refine Or.inl ⟨?_, Or.inl rfl⟩
        unfold mwS
        rw [if_neg (fun w => by rw [hN] at w; exact absurd w.1 (by decide))]
      | true =>
        by_cases c0 : 0 < (gs.getD j fl0).2.length
        · exact Or.inr ⟨rfl, rfl, c0, fun l hl => absurd hl (Nat.not_lt_zero _)⟩
        · refine Or.inl ⟨?_, Or.inr c0⟩
          unfold mwS
          rw [if_neg (fun w => c0 w.2.1)]
  exact hlo 0 (Nat.zero_le _) S none none zX_rf h1 h2 hw hb
end
