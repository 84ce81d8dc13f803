/-! 7y the other object: patch, the whole -/
def w0 (fs gs : List Fl) : WS := (gone0 fs gs, gone0 gs fs, fun _ => none)
def dfM1 (fs gs : List Fl) : DS := ((mwL fs gs (w0 fs gs) gs.length).1, (mwL fs gs (w0 fs gs) gs.length).2.1, mwM fs gs (mwL fs gs (w0 fs gs) gs.length).2.2 (chM fs gs gs.length) gs.length)
def dfM2 (fs gs : List Fl) : DS := rnL fs gs 10 (dfM1 fs gs)
def difM (fs gs : List Fl) : List Sv := otG fs (dfM2 fs gs).1 (otN gs (dfM2 fs gs).2.1 (dfM2 fs gs).2.2 gs.length) fs.length
def cntW (w : Nat → Option Nat) (n : Nat) : Nat := cntB (fun j => (w j).isSome) n
theorem chM_s (fs gs : List Fl) (j : Nat) : chM fs gs (j + 1) = if fnd fs (gs.getD j fl0).1 < fs.length ∧ ¬ (fs.getD (fnd fs (gs.getD j fl0).1) fl0).2 = (gs.getD j fl0).2 then chM fs gs j ++ [mkS 2 (fs.getD (fnd fs (gs.getD j fl0).1) fl0) (gs.getD j fl0)] else chM fs gs j := by
  unfold chM
  rw [rgF]
theorem chM_l (fs gs : List Fl) : ∀ n, (chM fs gs n).length + cntB (gone0 gs fs) n ≤ n
  | 0 => Nat.le_refl _
  | n + 1 => by
    have ih := chM_l fs gs n
    rw [chM_s, cntB_s]
    by_cases h : fnd fs (gs.getD n fl0).1 < fs.length
    · have e : gone0 gs fs n = false := decide_eq_false (fun z => z h)
      rw [e, if_neg (show ¬ false = true by decide)]
      split
      · rw [List.length_append]
        simp only [List.length_cons, List.length_nil]
        omega
      · omega
    · rw [if_neg (fun z => h z.1)]
      split <;> omega
theorem mwM_s (fs gs : List Fl) (w : Nat → Option Nat) (st : List Sv) (n : Nat) : mwM fs gs w st (n + 1) = match w n with
    | none => mwM fs gs w st n
    | some i => mwM fs gs w st n ++ [mkS 3 (fs.getD i fl0) (gs.getD n fl0)] := by
  unfold mwM
  rw [rgF]
  cases w n <;> rfl
theorem mwM_l (fs gs : List Fl) (w : Nat → Option Nat) (st : List Sv) : ∀ n, (mwM fs gs w st n).length = st.length + cntW w n
  | 0 => rfl
  | n + 1 => by
    rw [mwM_s]
    unfold cntW
    rw [cntB_s]
    have ih := mwM_l fs gs w st n
    unfold cntW at ih
    cases h : w n with
    | none =>
      dsimp only
      rw [ih, if_neg (show ¬ (none : Option Nat).isSome = true by decide)]
      rfl
    | some i =>
      dsimp only
      rw [List.length_append, ih, if_pos (show (some i).isSome = true from rfl)]
      rfl
theorem cntB_up {f : Nat → Bool} {j : Nat} (hj : f j = false) : ∀ n, j < n → cntB (fun k => if k = j then true else f k) n = cntB f n + 1
  | 0, h => absurd h (Nat.not_lt_zero _)
  | n + 1, h => by
    have ho : ∀ k, k ≤ j → cntB (fun k => if k = j then true else f k) k = cntB f k := by
      intro k
      induction k with
      | zero => intro _; rfl
      | succ k ih =>
        intro hk
        rw [cntB_s, cntB_s, ih (by omega), if_neg (show ¬ k = j by omega)]
    rw [cntB_s, cntB_s]
    by_cases e : n = j
    · subst e
      rw [ho n (Nat.le_refl _), hj]
      simp
    · rw [cntB_up hj n (by omega), if_neg e]
      omega
/-- what the pairs are -/
theorem mwL_ok (fs gs : List Fl) {W : WS} (hw : ∀ j, W.2.1 j = true → W.2.2 j = none) (he : ∀ j i, W.2.2 j = some i → (fs.getD i fl0).2 = (gs.getD j fl0).2) : ∀ n, n ≤ gs.length → (∀ j, (mwL fs gs W n).2.1 j = true → (mwL fs gs W n).2.2 j = none) ∧ (∀ j i, (mwL fs gs W n).2.2 j = some i → (fs.getD i fl0).2 = (gs.getD j fl0).2) ∧ cntB (mwL fs gs W n).2.1 gs.length + cntW (mwL fs gs W n).2.2 gs.length = cntB W.2.1 gs.length + cntW W.2.2 gs.length
  | 0, _ => ⟨hw, he, rfl⟩
  | n + 1, hn => by
    obtain ⟨h1, h2, h3⟩ := mwL_ok fs gs hw he n (by omega)
    have es : mwL fs gs W (n + 1) = mwS fs gs (mwL fs gs W n) n := by unfold mwL; rw [rgF]
    rw [es]
    generalize mwL fs gs W n = V at *
    unfold mwS
    split
    · next c =>
      refine ⟨fun j hj => ?_, fun j i hj => ?_, ?_⟩
      · have hj : (if j = n then false else V.2.1 j) = true := hj
        show (if j = n then some (mwI fs gs V n) else V.2.2 j) = none
        by_cases w : j = n
        · rw [if_pos w] at hj; cases hj
        · rw [if_neg w] at hj ⊢; exact h1 j hj
      · have hj : (if j = n then some (mwI fs gs V n) else V.2.2 j) = some i := hj
        by_cases w : j = n
        · rw [if_pos w] at hj
          have e := Option.some.inj hj
          have ht := fstI_t (p := fun i => V.1 i && decide ((fs.getD i fl0).2 = (gs.getD n fl0).2)) c.2.2
          have := of_decide_eq_true (Bool.and_eq_true_iff.mp ht).2
          rw [w, ← e]
          exact this
        · rw [if_neg w] at hj; exact h2 j i hj
      · have e1 := cntB_t c.1 gs.length (show n < gs.length by omega)
        have hn0 := h1 n c.1
        have e2 : cntW (fun k => if k = n then some (mwI fs gs V n) else V.2.2 k) gs.length = cntW V.2.2 gs.length + 1 := by
          unfold cntW
          have e3 : (fun k => (if k = n then some (mwI fs gs V n) else V.2.2 k).isSome) = (fun k => if k = n then true else (V.2.2 k).isSome) := by
            funext k
            by_cases w : k = n
            · rw [if_pos w, if_pos w]; rfl
            · rw [if_neg w, if_neg w]
          rw [e3]
          exact cntB_up (f := fun k => (V.2.2 k).isSome) (by show (V.2.2 n).isSome = false; rw [hn0]; rfl) gs.length (by omega)
        show cntB (setB V.2.1 n) gs.length + cntW (fun k => if k = n then some (mwI fs gs V n) else V.2.2 k) gs.length = _
        rw [e2]
        omega
    · exact ⟨h1, h2, h3⟩
def okE (gs : List Fl) (D : DS) : Prop := D.2.2.length + cntB D.2.1 gs.length ≤ gs.length
theorem okE_1 (fs gs : List Fl) : okE gs (dfM1 fs gs) := by
  have h := (mwL_ok fs gs (W := w0 fs gs) (fun _ _ => rfl) (fun _ _ h => by cases h) gs.length (Nat.le_refl _)).2.2
  have h1 := chM_l fs gs gs.length
  have h2 := mwM_l fs gs (mwL fs gs (w0 fs gs) gs.length).2.2 (chM fs gs gs.length) gs.length
  have h0 : cntW (w0 fs gs).2.2 gs.length = 0 := by
    have : ∀ n, cntW (w0 fs gs).2.2 n = 0 := by
      intro n
      induction n with
      | zero => rfl
      | succ n ih => unfold cntW at ih ⊢; rw [cntB_s, ih]; rfl
    exact this _
  unfold okE dfM1
  dsimp only
  have h3 : (w0 fs gs).2.1 = gone0 gs fs := rfl
  rw [h3] at h
  omega
theorem okE_r {fs gs : List Fl} {D D' : DS} (h : okE gs D) (hr : rnS fs gs D = some D') : okE gs D' ∧ cntB D'.1 fs.length + 1 = cntB D.1 fs.length := by
  unfold rnS at hr
  obtain ⟨⟨i, j⟩, hq, rfl⟩ := Option.map_eq_some_iff.mp hr
  obtain ⟨a1, a2, a3, a4⟩ := bsA_ok _ i j hq
  have e1 := cntB_t a4 _ a2
  have e2 := cntB_t a3 _ a1
  unfold okE at h ⊢
  rw [List.length_append]
  simp only [List.length_cons, List.length_nil]
  exact ⟨by omega, e2⟩
theorem okE_L {fs gs : List Fl} : ∀ n D, okE gs D → okE gs (rnL fs gs n D)
  | 0, _, h => h
  | n + 1, D, h => by
    unfold rnL
    split
    · exact h
    · next D' hr => exact okE_L n D' (okE_r h hr).1
section
variable {Λ : yL} {f0 : xH} {S0 S S' S1 S2 : yS} {m d p s t u f g : Nat} {st vs : List Sv} {fs gs : List Fl} {B : Ab} {x y a b c e z : Int32} {D : DS} {post : Option Value → xH → Prop}
theorem M_patch (q : mQ Λ S m B) (hok : ∀ t, t < (aT B).length → okT ((aT B).getD t [])) (hdif : ∀ i j, i < (aT B).length → j < (aT B).length → stV (difX ((aT B).getD i []) ((aT B).getD j [])) = stV (difM ((aT B).getD i []) ((aT B).getD j []))) (hp : ∀ S', yFr (A11 m) S S' → mQ Λ S' m (a_patch B a b).1 → post (some (.int (a_patch B a b).2)) (yH Λ f0 S')) : xSp xT0 (d + 8) j_Mo_patch [.ref m, .int a, .int b] (yH Λ f0 S) post := by
  have hL := q.1
  have hW := hL.1
  have ho := hL.2.1
  have hl := q.2.2.2.2.1.1
  have hlt := q.2.2.2.1.1
  have q' := mQ_0 (x := 0) q
  have e23 := q'.2.2.2.2.1.2.1
  have hneg : ∀ k : Nat, k < 2 ^ 31 → ¬ nI k = -1 := fun k hk w => nI_pos hk (by rw [w]; decide)
  unfold a_patch at hp
  refine xSp_of (M := m_Mo_patch) rfl (b_Mo_patch_0 (ypf ho rfl ⟨yex ho, Mo_noTree_sp q' (fun t ht e1 e2 => xviI ⟨fun z => absurd rfl z, fun _ => ⟨yex ho, Mo_noTree_sp q' (fun u hu e3 e4 => xviI ⟨fun _ => ygi ho rfl ?_, fun z => absurd rfl z⟩) (fun e3 => xviI ⟨fun z => absurd z (by decide), fun _ => ?_⟩)⟩⟩) (fun e1 => xviI ⟨fun _ => ?_, fun z => absurd (by decide) z⟩)⟩))
  · subst e1; subst e3
    rw [e2, e4] at hp
    dsimp only at hp
    rw [e23]
    refine brne (b := 8) (by omega) (by omega) (fun c8 => ygi ho rfl ?_) (fun c8 => ?_)
    · rw [if_pos (by omega), hdif t u ht hu] at hp
      have hT := q'.2.2.2.1.2.2 t ht
      have hU := q'.2.2.2.1.2.2 u hu
      have hoT := hok t ht
      have hoU := hok u hu
      generalize hfs : (aT B).getD t [] = fs at *
      generalize hgs : (aT B).getD u [] = gs at *
      have hfl := hT.1
      have hgl := hU.1
      rw [e23]
      refine ygr ho rfl (yas (mk22 hL) (yW_n hW (mk22 hL)) (vp_in_nI (by omega) (by omega)) ?_)
      rw [nI_clamp (by omega)]
      generalize hp0 : (aP B).length = p at *
      generalize hS0 : ywI S 11 0 m 0 = S0 at *
      have h23 : ∀ {S1 st}, mCx S0 S1 m p st → yI S1 11 23 m = nI p := fun h => by rw [(mX h.1 (j := 23) (by unfold Jc; omega)).1]; exact e23
      -- DROPs, and the end
      have hG0 : (dfM2 fs gs).2.2.length + cntB (dfM2 fs gs).2.1 gs.length ≤ gs.length := okE_L 10 _ (okE_1 fs gs)
      have h355 : ∀ i, i ≤ fs.length → (∀ S1 (x4 : Int32), mCx S0 S1 m p (otG fs (dfM2 fs gs).1 (otN gs (dfM2 fs gs).2.1 (dfM2 fs gs).2.2 gs.length) i) → mW1 S1 m fs.length (dfM2 fs gs).1 → xWp (xT0, xSp xT0 (d + 7), none, m_Mo_patch, post) 355 [some (.ref m), some (.int (nI t)), some (.int (nI u)), some (.int (nI p)), some (.int x4), some (.int (nI i))] [] (yH Λ f0 S1) 0 0) := by
        refine loopUp ?_ ?_
        · intro S1 x4 hc hw
          have hT1 := mCx_T hc hT
          refine b_Mo_patch_355 (ygr ho rfl (yal (mk9 hL) (vp_in_nI (by omega) (by omega)) ?_))
          rw [nI_clamp (by omega), hT1.2.1]
          refine brle (by omega) (by omega) (fun _ => ygi ho rfl (ypf ho rfl ?_)) (fun w => by omega)
          rw [h23 hc, nI_1]
          have k2 : zX m (fun j => j = 23) S1 (ywI S1 11 23 m (nI (p + 1))) := zX_wI rfl
          have k3 : zX m Jp S (ywI S1 11 23 m (nI (p + 1))) := zX_tr (zX_tr (by rw [← hS0]; exact zX_wI (by unfold Jp scr; omega)) (zX_mo hc.1 (fun j w => show Jp j by unfold Jc at w; unfold Jp scr; omega))) (zX_mo k2 (fun j w => show Jp j by unfold Jp; omega))
          subst hp0
          exact hp _ (zX_Fr k3) (mQ_P k3 q (mPs_add (zP_tr hc.2.1 (zP_x k2 (fun j _ _ => by omega))) (by omega) (ywI_s _ _ _ _ _) (mP_x k2 (fun j _ _ => by omega) hc.2.2.1) q'.2.2.2.2.1))
        · intro i hi ih S1 x4 hc hw
          have hT1 := mCx_T hc hT
          have es : otG fs (dfM2 fs gs).1 (otN gs (dfM2 fs gs).2.1 (dfM2 fs gs).2.2 gs.length) (i + 1) = if (dfM2 fs gs).1 i = true then otG fs (dfM2 fs gs).1 (otN gs (dfM2 fs gs).2.1 (dfM2 fs gs).2.2 gs.length) i ++ [mkS 1 (fs.getD i fl0) ((fs.getD i fl0).1, [])] else otG fs (dfM2 fs gs).1 (otN gs (dfM2 fs gs).2.1 (dfM2 fs gs).2.2 gs.length) i := by
            unfold otG
            rw [rgF]
          have hlen := otG_len fs (dfM2 fs gs).1 (otN gs (dfM2 fs gs).2.1 (dfM2 fs gs).2.2 gs.length) i
          have hlen2 := otN_len gs (dfM2 fs gs).2.1 (dfM2 fs gs).2.2 gs.length
          have hci := cntB_le (dfM2 fs gs).1 i
          rw [es] at ih
          refine b_Mo_patch_355 (ygr ho rfl (yal (mk9 hL) (vp_in_nI (by omega) (by omega)) ?_))
          rw [nI_clamp (by omega), hT1.2.1, nI_1 i]
          refine brle (by omega) (by omega) (fun w => by omega) (fun _ => ygr ho rfl (yal (mk27 hL) (vp_in_nI (by omega) (by omega)) ?_))
          rw [nI_clamp (by omega)]
          refine ⟨fun w => ?_, fun w => Mo_at_sp (xviI ⟨yex ho, ?_⟩)⟩
          · rw [if_neg (fun z => w ((hw i hi).mpr z))] at ih
            exact ih S1 _ hc hw
          · rw [if_pos ((hw i hi).mp (Classical.not_not.mp w))] at ih
            show xSp xT0 (d + 7) j_Mo_addStep [.ref m, .int (nI p), .int 1, .int (nI (10 * t + i)), .int (-1), .int (bI false)] _ _
            refine Mo_add2 (gl := ((fs.getD i fl0).1, [])) hL (by omega) hc (by omega) (gF_T hT1 (by omega) hi) (Or.inr ⟨rfl, rfl⟩) ⟨fun w => absurd w (hneg _ (by omega)), fun _ => ⟨rfl, hneg _ (by omega)⟩⟩ (hoT.1 i hi) ⟨fun w => absurd w (by decide), fun w => absurd w (hneg _ (by omega))⟩ ⟨fun _ => rfl, fun _ => rfl⟩ ⟨fun w => absurd w (by decide), fun w => absurd w (by decide)⟩ (fun w => absurd w (by decide)) (fun S2 hc2 e2 => xvvI (ih S2 _ hc2 (mW1_e (e2 27 (by omega)) hw)))
      -- ADDs
      have h309 : ∀ j, j ≤ gs.length → (∀ S1 (x4 : Int32), mCx S0 S1 m p (otN gs (dfM2 fs gs).2.1 (dfM2 fs gs).2.2 j) → mW1 S1 m fs.length (dfM2 fs gs).1 → mW3 S1 m gs.length (dfM2 fs gs).2.1 → xWp (xT0, xSp xT0 (d + 7), none, m_Mo_patch, post) 309 [some (.ref m), some (.int (nI t)), some (.int (nI u)), some (.int (nI p)), some (.int x4), some (.int (nI j))] [] (yH Λ f0 S1) 0 0) := by
        refine loopUp ?_ ?_
        · intro S1 x4 hc hw hw3
          have hU1 := mCx_T hc hU
          refine b_Mo_patch_309 (ygr ho rfl (yal (mk9 hL) (vp_in_nI (by omega) (by omega)) ?_))
          rw [nI_clamp (by omega), hU1.2.1]
          exact brle (by omega) (by omega) (fun _ => h355 0 (Nat.zero_le _) S1 _ hc hw) (fun w => by omega)
        · intro j hj ih S1 x4 hc hw hw3
          have hU1 := mCx_T hc hU
          have es : otN gs (dfM2 fs gs).2.1 (dfM2 fs gs).2.2 (j + 1) = if (dfM2 fs gs).2.1 j = true then otN gs (dfM2 fs gs).2.1 (dfM2 fs gs).2.2 j ++ [mkS 0 ((gs.getD j fl0).1, []) (gs.getD j fl0)] else otN gs (dfM2 fs gs).2.1 (dfM2 fs gs).2.2 j := by
            unfold otN
            rw [rgF]
          have hlen2 := otN_len gs (dfM2 fs gs).2.1 (dfM2 fs gs).2.2 j
          have hci := cntB_le (dfM2 fs gs).2.1 j
          rw [es] at ih
          refine b_Mo_patch_309 (ygr ho rfl (yal (mk9 hL) (vp_in_nI (by omega) (by omega)) ?_))
          rw [nI_clamp (by omega), hU1.2.1, nI_1 j]
          refine brle (by omega) (by omega) (fun w => by omega) (fun _ => ygr ho rfl (yal (mk28 hL) (vp_in_nI (by omega) (by omega)) ?_))
          rw [nI_clamp (by omega)]
          refine ⟨fun w => ?_, fun w => Mo_at_sp (xviI ⟨yex ho, ?_⟩)⟩
          · rw [if_neg (fun z => w ((hw3 j hj).mpr z))] at ih
            exact ih S1 _ hc hw hw3
          · rw [if_pos ((hw3 j hj).mp (Classical.not_not.mp w))] at ih
            show xSp xT0 (d + 7) j_Mo_addStep [.ref m, .int (nI p), .int 0, .int (-1), .int (nI (10 * u + j)), .int (bI false)] _ _
            refine Mo_add2 (fl := ((gs.getD j fl0).1, [])) hL (by omega) hc (by omega) (Or.inr ⟨rfl, rfl⟩) (gF_T hU1 (by omega) hj) ⟨fun _ => ⟨rfl, hneg _ (by omega)⟩, fun w => absurd w (hneg _ (by omega))⟩ (hoU.1 j hj) ⟨fun _ => rfl, fun _ => rfl⟩ ⟨fun w => absurd w (by decide), fun w => absurd w (hneg _ (by omega))⟩ ⟨fun w => absurd w (by decide), fun w => absurd w (by decide)⟩ (fun w => absurd w (by decide)) (fun S2 hc2 e2 => xvvI (ih S2 _ hc2 (mW1_e (e2 27 (by omega)) hw) (mW3_e (e2 28 (by omega)) hw3)))
      -- the best pairs
      have h289 : ∀ n D, cntB D.1 fs.length ≤ n → okE gs D → rnL fs gs n D = dfM2 fs gs → ∀ S1 (u5 : Option Value), mCx S0 S1 m p D.2.2 → mW1 S1 m fs.length D.1 → mW3 S1 m gs.length D.2.1 → xWp (xT0, xSp xT0 (d + 7), none, m_Mo_patch, post) 289 [some (.ref m), some (.int (nI t)), some (.int (nI u)), some (.int (nI p)), some (.int 1), u5] [] (yH Λ f0 S1) 0 0 := by
        have hstop : ∀ S1 D (u5 : Option Value), D = dfM2 fs gs → mCx S0 S1 m p D.2.2 → mW1 S1 m fs.length D.1 → mW3 S1 m gs.length D.2.1 → xWp (xT0, xSp xT0 (d + 7), none, m_Mo_patch, post) 289 [some (.ref m), some (.int (nI t)), some (.int (nI u)), some (.int (nI p)), some (.int 0), u5] [] (yH Λ f0 S1) 0 0 := by
          intro S1 D u5 eD hc hw hw3
          subst eD
          exact b_Mo_patch_289 ⟨fun _ => h309 0 (Nat.zero_le _) S1 _ hc hw hw3, fun w => absurd rfl w⟩
        intro n
        induction n with
        | zero =>
          intro D hcn hoE er S1 u5 hc hw hw3
          have hlen : D.2.2.length ≤ gs.length := by unfold okE at hoE; omega
          refine b_Mo_patch_289 ⟨fun w => absurd w (by decide), fun _ => ⟨yex ho, Mo_pairLike_sp hL (by omega) (by omega) (by omega) hT hU hoU hc (by omega) hw hw3 (fun S2 i j eb _ _ _ => ?_) (fun S2 _ hc2 hw2 hw32 => xviI (hstop S2 D _ er hc2 hw2 hw32))⟩⟩
          obtain ⟨a1, a2, a3, a4⟩ := bsA_ok _ i j eb
          have := cntB_t a3 _ a1
          omega
        | succ n ih =>
          intro D hcn hoE er S1 u5 hc hw hw3
          have hlen : D.2.2.length ≤ gs.length := by unfold okE at hoE; omega
          refine b_Mo_patch_289 ⟨fun w => absurd w (by decide), fun _ => ⟨yex ho, Mo_pairLike_sp hL (by omega) (by omega) (by omega) hT hU hoU hc (by omega) hw hw3 (fun S2 i j eb hc2 hw2 hw32 => xviI ?_) (fun S2 eb hc2 hw2 hw32 => xviI (hstop S2 D _ ?_ hc2 hw2 hw32))⟩⟩
          · have e : rnS fs gs D = some (setB D.1 i, setB D.2.1 j, D.2.2 ++ [mkS 4 (fs.getD i fl0) (gs.getD j fl0)]) := by unfold rnS; rw [eb]; rfl
            obtain ⟨h1, h2⟩ := okE_r hoE e
            have er2 : rnL fs gs n (setB D.1 i, setB D.2.1 j, D.2.2 ++ [mkS 4 (fs.getD i fl0) (gs.getD j fl0)]) = dfM2 fs gs := by
              rw [← er]
              show _ = (match rnS fs gs D with | none => D | some D' => rnL fs gs n D')
              rw [e]
            exact ih _ (by omega) h1 er2 S2 _ hc2 hw2 hw32
          · have e : rnS fs gs D = none := by unfold rnS; rw [eb]; rfl
            rw [← er]
            show D = (match rnS fs gs D with | none => D | some D' => rnL fs gs n D')
            rw [e]
      -- MOVEs
      obtain ⟨ok1, ok2, ok3⟩ := mwL_ok fs gs (W := w0 fs gs) (fun _ _ => rfl) (fun _ _ h => by cases h) gs.length (Nat.le_refl _)
      have h235 : (∀ j i, (mwL fs gs (w0 fs gs) gs.length).2.2 j = some i → i < fs.length) → ∀ j, j ≤ gs.length → (∀ S1 (u5 : Option Value), mCx S0 S1 m p (mwM fs gs (mwL fs gs (w0 fs gs) gs.length).2.2 (chM fs gs gs.length) j) → mW1 S1 m fs.length (mwL fs gs (w0 fs gs) gs.length).1 → mW2 S1 m gs.length (mwL fs gs (w0 fs gs) gs.length).2.1 (mwL fs gs (w0 fs gs) gs.length).2.2 → xWp (xT0, xSp xT0 (d + 7), none, m_Mo_patch, post) 235 [some (.ref m), some (.int (nI t)), some (.int (nI u)), some (.int (nI p)), some (.int (nI j)), u5] [] (yH Λ f0 S1) 0 0) := by
        intro hbi
        refine loopUp ?_ ?_
        · intro S1 u5 hc hw hw2
          have hU1 := mCx_T hc hU
          refine b_Mo_patch_235 (ygr ho rfl (yal (mk9 hL) (vp_in_nI (by omega) (by omega)) ?_))
          rw [nI_clamp (by omega), hU1.2.1]
          refine brle (by omega) (by omega) (fun _ => ?_) (fun w => by omega)
          have hcb := cntB_le (dfM1 fs gs).1 fs.length
          refine h289 10 (dfM1 fs gs) (by omega) (okE_1 fs gs) rfl S1 _ hc hw (fun l hl => ?_)
          rw [hw2 l hl]
          exact nwI_2 (fun i h => by have := hbi l i h; omega)
        · intro j hj ih S1 u5 hc hw hw2
          have hU1 := mCx_T hc hU
          have hT1 := mCx_T hc hT
          have hml := mwM_l fs gs (mwL fs gs (w0 fs gs) gs.length).2.2 (chM fs gs gs.length) j
          have hcl := chM_l fs gs gs.length
          have hcw : cntW (mwL fs gs (w0 fs gs) gs.length).2.2 j ≤ j := cntB_le _ _
          rw [mwM_s] at ih
          refine b_Mo_patch_235 (ygr ho rfl (yal (mk9 hL) (vp_in_nI (by omega) (by omega)) ?_))
          rw [nI_clamp (by omega), hU1.2.1, nI_1 j]
          refine brle (by omega) (by omega) (fun w => by omega) (fun _ => ygr ho rfl (yal (mk28 hL) (vp_in_nI (by omega) (by omega)) ?_))
          rw [nI_clamp (by omega), hw2 j hj]
          cases ew : (mwL fs gs (w0 fs gs) gs.length).2.2 j with
          | none =>
            rw [ew] at ih
            refine ⟨fun _ => ih S1 _ hc hw hw2, fun w => absurd ?_ w⟩
            unfold nwI
            split
            · decide
            · decide
          | some i =>
            rw [ew] at ih
            have hi := hbi j i ew
            have hN : (mwL fs gs (w0 fs gs) gs.length).2.1 j = false := Bool.eq_false_iff.mpr (fun z => by rw [ok1 j z] at ew; cases ew)
            have en : nwI ((mwL fs gs (w0 fs gs) gs.length).2.1 j) (some i) = nI i := by rw [hN]; rfl
            rw [en]
            refine ⟨fun w => absurd w (nI_pos (by omega)), fun _ => ygr ho rfl (yal (mk28 hL) (vp_in_nI (by omega) (by omega)) ?_)⟩
            rw [nI_clamp (by omega), hw2 j hj, ew, en]
            refine Mo_at_sp (xviI (Mo_at_sp (xviI ⟨yex ho, ?_⟩)))
            show xSp xT0 (d + 7) j_Mo_addStep [.ref m, .int (nI p), .int 3, .int (nI (10 * t + i)), .int (nI (10 * u + j)), .int (bI true)] _ _
            refine Mo_add2 hL (by omega) hc (by omega) (gF_T hT1 (by omega) hi) (gF_T hU1 (by omega) hj) ⟨fun w => absurd w (hneg _ (by omega)), fun w => absurd w (hneg _ (by omega))⟩ (hoU.1 j hj) ⟨fun w => absurd w (by decide), fun w => absurd w (hneg _ (by omega))⟩ ⟨fun w => absurd w (by decide), fun w => absurd w (hneg _ (by omega))⟩ ⟨fun _ => rfl, fun _ => rfl⟩ (fun _ => by rw [ok2 j i ew]) (fun S2 hc2 e2 => xvvI (ih S2 _ hc2 (mW1_e (e2 27 (by omega)) hw) (mW2_e (e2 28 (by omega)) hw2)))
      -- CHANGEs
      have h116 : ∀ j, j ≤ gs.length → (∀ S1 (u5 : Option Value), mCx S0 S1 m p (chM fs gs j) → mW1 S1 m fs.length (gone0 fs gs) → mW2 S1 m j (gone0 gs fs) (fun _ => none) → xWp (xT0, xSp xT0 (d + 7), none, m_Mo_patch, post) 116 [some (.ref m), some (.int (nI t)), some (.int (nI u)), some (.int (nI p)), some (.int (nI j)), u5] [] (yH Λ f0 S1) 0 0) := by
        refine loopUp ?_ ?_
        · intro S1 u5 hc hw hw2
          have hU1 := mCx_T hc hU
          have hT1 := mCx_T hc hT
          refine b_Mo_patch_116 (ygr ho rfl (yal (mk9 hL) (vp_in_nI (by omega) (by omega)) ?_))
          rw [nI_clamp (by omega), hU1.2.1]
          refine brle (by omega) (by omega) (fun _ => ⟨yex ho, Mo_pairSame_sp (W := w0 fs gs) hL (by omega) (by omega) hT1 hU1 hw hw2 (fun _ _ => rfl) (fun _ _ h => by cases h) (fun S2 k2 w1 w2 w3 => xvvI ?_)⟩) (fun w => by omega)
          exact h235 w3 0 (Nat.zero_le _) S2 _ (mCx_x hc (zX_mo k2 (fun j w => by omega))) w1 w2
        · intro j hj ih S1 u5 hc hw hw2
          have hU1 := mCx_T hc hU
          have hT1 := mCx_T hc hT
          obtain ⟨⟨a1, a2, a3⟩, -⟩ := hU1.2.2 j hj
          have hcl := chM_l fs gs j
          rw [chM_s] at ih
          refine b_Mo_patch_116 (ygr ho rfl (yal (mk9 hL) (vp_in_nI (by omega) (by omega)) ?_))
          rw [nI_clamp (by omega), hU1.2.1]
          refine brle (by omega) (by omega) (fun w => by omega) (fun _ => ygr ho rfl (Mo_at_sp (xviI (ygr ho rfl (Mo_at_sp (xviI (yal (mk6 hL) (vp_in_nI (by omega) (by omega)) ?_)))))))
          rw [nI_clamp (by omega), a1, n18]
          have h176 : ∀ w, w = nwI (gone0 gs fs j) none → xWp (xT0, xSp xT0 (d + 7), none, m_Mo_patch, post) 176 [some (.ref m), some (.int (nI t)), some (.int (nI u)), some (.int (nI p)), some (.int (nI j)), some (.int (if fnd fs (gs.getD j fl0).1 < fs.length then nI (fnd fs (gs.getD j fl0).1) else -2))] [.int w, .int (nI j), .ref (Λ.2.1 11 28 m)] (yH Λ f0 S1) 0 0 := by
            intro w ew
            refine b_Mo_patch_176 (yas (mk28 hL) (yW_n hW (mk28 hL)) (vp_in_nI (by omega) (by omega)) ?_)
            rw [nI_clamp (by omega), nI_1]
            generalize hS2 : ywA S1 11 28 m (upd (yA S1 11 28 m) j w) = S2
            have k2 : zX m (fun j => 26 ≤ j ∧ j ≤ 28) S1 S2 := by rw [← hS2]; exact zX_wA (by omega)
            have hc2 := mCx_x hc k2
            have hw1 : mW1 S2 m fs.length (gone0 fs gs) := mW1_e (by rw [← hS2, yA_n _ _ (by omega)]) hw
            have hw22 : mW2 S2 m (j + 1) (gone0 gs fs) (fun _ => none) := by
              intro l hl
              rw [← hS2, yA_s]
              by_cases w2 : l = j
              · rw [w2, pk_us]; exact ew
              · rw [pk_un w2]; exact hw2 l (by omega)
            have hT2 := mCx_T hc2 hT
            have hU2 := mCx_T hc2 hU
            by_cases cf : fnd fs (gs.getD j fl0).1 < fs.length
            · rw [if_pos cf]
              refine ⟨fun w => absurd w (nI_pos (by omega)), fun _ => Mo_at_sp (xviI (Mo_at_sp (xviI ⟨yex ho, Mo_isAlike_sp hL (by omega) (by omega) (hT2.2.2 _ cf) (hU2.2.2 j hj) (xviI (brBn (fun r => ?_) (fun r => Mo_at_sp (xviI (Mo_at_sp (xviI ⟨yex ho, ?_⟩))))))⟩)))⟩
              · rw [if_neg (fun z => z.2 (of_decide_eq_true r))] at ih
                exact ih S2 _ hc2 hw1 hw22
              · rw [if_pos ⟨cf, of_decide_eq_false r⟩] at ih
                show xSp xT0 (d + 7) j_Mo_addStep [.ref m, .int (nI p), .int 2, .int (nI (10 * t + fnd fs (gs.getD j fl0).1)), .int (nI (10 * u + j)), .int (bI false)] _ _
                refine Mo_add2 hL (by omega) hc2 (by omega) (gF_T hT2 (by omega) cf) (gF_T hU2 (by omega) hj) ⟨fun w => absurd w (hneg _ (by omega)), fun w => absurd w (hneg _ (by omega))⟩ (hoU.1 j hj) ⟨fun w => absurd w (by decide), fun w => absurd w (hneg _ (by omega))⟩ ⟨fun w => absurd w (by decide), fun w => absurd w (hneg _ (by omega))⟩ ⟨fun w => absurd w (by decide), fun w => absurd w (by decide)⟩ (fun w => absurd w (by decide)) (fun S3 hc3 e3 => xvvI (ih S3 _ hc3 (mW1_e (e3 27 (by omega)) hw1) (mW2_e (e3 28 (by omega)) hw22)))
            · rw [if_neg cf]
              rw [if_neg (fun z => cf z.1)] at ih
              exact ⟨fun _ => ih S2 _ hc2 hw1 hw22, fun w => absurd (by decide) w⟩
          refine ⟨yex ho, Mo_find_sp hL (by omega) hT1 (mk5 hL) a3 (by omega) (by omega) (xviI (ygr ho rfl ⟨fun w => h176 _ ?_, fun w => h176 _ ?_⟩))⟩
          · have cf : ¬ fnd fs (gs.getD j fl0).1 < fs.length := fun z => by rw [if_pos z] at w; exact nI_pos (by omega) w
            have : gone0 gs fs j = true := decide_eq_true cf
            rw [this]; rfl
          · have cf : fnd fs (gs.getD j fl0).1 < fs.length := Classical.byContradiction (fun z => by rw [if_neg z] at w; exact w (by decide))
            have : gone0 gs fs j = false := decide_eq_false (fun z => z cf)
            rw [this]; rfl
      have h50 : ∀ i, i ≤ fs.length → (∀ S1 (u5 : Option Value), mCx S0 S1 m p [] → mW1 S1 m i (gone0 fs gs) → xWp (xT0, xSp xT0 (d + 7), none, m_Mo_patch, post) 50 [some (.ref m), some (.int (nI t)), some (.int (nI u)), some (.int (nI p)), some (.int (nI i)), u5] [] (yH Λ f0 S1) 0 0) := by
        refine loopUp ?_ ?_
        · intro S1 u5 hc hw
          have hT1 := mCx_T hc hT
          refine b_Mo_patch_50 (ygr ho rfl (yal (mk9 hL) (vp_in_nI (by omega) (by omega)) ?_))
          rw [nI_clamp (by omega), hT1.2.1]
          exact brle (by omega) (by omega) (fun _ => h116 0 (Nat.zero_le _) S1 _ hc hw (fun l hl => absurd hl (Nat.not_lt_zero _))) (fun w => by omega)
        · intro i hi ih S1 u5 hc hw
          have hT1 := mCx_T hc hT
          have hU1 := mCx_T hc hU
          obtain ⟨⟨a1, a2, a3⟩, -⟩ := hT1.2.2 i hi
          refine b_Mo_patch_50 (ygr ho rfl (yal (mk9 hL) (vp_in_nI (by omega) (by omega)) ?_))
          rw [nI_clamp (by omega), hT1.2.1, nI_1 i]
          refine brle (by omega) (by omega) (fun w => by omega) (fun _ => ygr ho rfl (ygr ho rfl (Mo_at_sp (xviI (ygr ho rfl (Mo_at_sp (xviI (yal (mk6 hL) (vp_in_nI (by omega) (by omega)) ?_))))))))
          rw [nI_clamp (by omega), a1, n18]
          have hst : ∀ w : Int32, (w = -2 ↔ gone0 fs gs i = true) → xas (yH Λ f0 S1) (Λ.2.1 11 27 m) 0 (nI i) w (fun f16 => xWp (xT0, xSp xT0 (d + 7), none, m_Mo_patch, post) 50 [some (.ref m), some (.int (nI t)), some (.int (nI u)), some (.int (nI p)), some (.int (nI (i + 1))), u5] [] f16 0 0) := by
            intro w ew
            refine yas (mk27 hL) (yW_n hW (mk27 hL)) (vp_in_nI (by omega) (by omega)) ?_
            rw [nI_clamp (by omega)]
            refine ih _ _ (mCx_x hc (zX_wA (by omega))) (fun l hl => ?_)
            rw [yA_s]
            by_cases w2 : l = i
            · rw [w2, pk_us]; exact ew
            · rw [pk_un w2]; exact hw l (by omega)
          refine ⟨yex ho, Mo_find_sp hL (by omega) hU1 (mk5 hL) a3 (by omega) (by omega) (xviI ⟨fun w => hst _ ?_, fun w => hst _ ?_⟩)⟩
          · have cf : ¬ fnd gs (fs.getD i fl0).1 < gs.length := fun z => by rw [if_pos z] at w; exact nI_pos (by omega) w
            exact ⟨fun _ => decide_eq_true cf, fun _ => rfl⟩
          · have cf : fnd gs (fs.getD i fl0).1 < gs.length := Classical.byContradiction (fun z => by rw [if_neg z] at w; exact w (by decide))
            exact ⟨fun z => absurd z (by decide), fun z => absurd cf (of_decide_eq_true z)⟩
      refine h50 0 (Nat.zero_le _) _ none ⟨zX_wA (by unfold Jc; omega), zP_22, ⟨by show 0 ≤ 24; omega, by rw [yA_s, pk_us]; rfl, fun i hi => absurd hi (Nat.not_lt_zero _)⟩, fun k hk => absurd hk (Nat.not_lt_zero _)⟩ (fun l hl => absurd hl (Nat.not_lt_zero _))
    · rw [if_neg (by omega)] at hp
      exact hp _ M0_Fr q'
  · rw [e2, e3] at hp
    exact hp _ M0_Fr q'
  · rw [e1] at hp
    exact hp _ M0_Fr q'
end
