/-! 35 Tree: take, remove -/
theorem yB_ne {Λ : yL} {b t cap : Nat} (hB : yB Λ b cap) (hs : yT Λ t) : b ≠ t := by
  intro e
  obtain ⟨x, y, h1⟩ := hB.1
  obtain ⟨x', y', h2⟩ := hs.1
  rw [e, h2] at h1
  cases h1
theorem yTh_of {Λ : yL} {S : yS} {t : Nat} {fs : List Fl} (h : yTv Λ S t fs) (i : Nat) : yTh Λ S t fs i := by
  obtain ⟨hs, P, C, hp, hl, hn, h0, hb⟩ := h
  exact ⟨hs, P, C, hp, hl, hn, h0, fun k hk => ⟨(hb k hk).1, fun _ => (hb k hk).2⟩⟩
theorem setG {fs : List Fl} {i j : Nat} {q : Fl} (h : i < fs.length) : (fs.set i q).getD j fl0 = if j = i then q else fs.getD j fl0 := by
  rw [List.getD_eq_getElem?_getD, List.getElem?_set]
  by_cases e : j = i
  · rw [if_pos e, if_pos e.symm, if_pos h]; rfl
  · rw [if_neg e, if_neg (fun z => e z.symm), ← List.getD_eq_getElem?_getD]
theorem insL_set {fs : List Fl} {i : Nat} {q q' : Fl} (h : i ≤ fs.length) : (insL fs i q).set i q' = insL fs i q' := by
  apply fl_ext
  · rw [List.length_set, insL_len h, insL_len h]
  · intro j hj
    rw [setG (by rw [insL_len h]; omega), insL_at h, insL_at h]
    by_cases e : j = i
    · rw [if_pos e, if_neg (by omega), if_pos e]
    · simp only [if_neg e]
def shL {α : Type} (A : Nat → α) (i k : Nat) : Nat → α := fun j => if i ≤ j ∧ j + 1 < k then A (j + 1) else A j
theorem shL_0 {α : Type} (A : Nat → α) (i : Nat) : shL A i (i + 1) = A := by
  funext j
  exact if_neg (by omega)
theorem shL_s {α : Type} (A : Nat → α) {i k : Nat} (h : i < k) : va_up (shL A i k) (k - 1) (shL A i k k) = shL A i (k + 1) := by
  funext j
  unfold va_up shL
  by_cases h1 : j = k - 1
  · rw [if_pos h1, if_neg (by omega), if_pos (by omega), h1, show k - 1 + 1 = k by omega]
  · rw [if_neg h1]
    by_cases h2 : i ≤ j ∧ j + 1 < k
    · rw [if_pos h2, if_pos (by omega)]
    · rw [if_neg h2, if_neg (by omega)]
theorem eraG {fs : List Fl} {i j : Nat} : (fs.eraseIdx i).getD j fl0 = if j < i then fs.getD j fl0 else fs.getD (j + 1) fl0 := by
  rw [List.getD_eq_getElem?_getD, List.getElem?_eraseIdx]
  by_cases h : j < i
  · rw [if_pos h, if_pos h, ← List.getD_eq_getElem?_getD]
  · rw [if_neg h, if_neg h, ← List.getD_eq_getElem?_getD]
section
variable {Λ : yL} {f0 : xH} {S : yS} {t u o q capo capq d : Nat} {fs gs : List Fl} {bs cs : List Nat} {x : Int32} {post : Option Value → xH → Prop}
theorem Tr_take_end (hW : yW Λ) {i : Nat} (hT : yTh Λ S t fs i) (hi : i < fs.length) (hQ : yB Λ q capq) (hw : yBv S q capq cs) (hcs : cs.length ≤ 48) (hq : own Λ q ≠ t) {E : Option Value → xH → Prop} (h : ∀ S', yAg Λ S S' t → yTv Λ S' t (fs.set i ((fs.getD i fl0).1, cs)) → E (some (.int (nI fs.length))) (yH Λ f0 S')) : xWp (xT0, xSp xT0 (d + 1), none, m_Tr_take, E) 40 [some (.ref t), some (.ref o), some (.ref q), some (.int (nI i))] [] (yH Λ f0 S) 0 0 := by
  obtain ⟨hs, P, C, hp, hl, hn, h0, hb⟩ := hT
  have hi10 : i < 10 := by omega
  have hpi := hp.1 i hi10
  refine b_Tr_take_40 (ygr hs.1 rfl (yrl (C i) hs.2.2.1 (vp_in_nI (by omega) (by omega)) (by rw [nI_clamp (by omega)]; exact hpi.1.2) ⟨yex hpi.2.1.2.1, By_copyOf_sp hW hpi.2.1.2 hQ (fun e => hq (by rw [e]; exact hpi.2.2.2)) hw hcs (fun g hg => ygi hs.1 rfl ?_)⟩))
  have e : yI (yBw S (C i) g (nI cs.length)) 2 3 t = nI fs.length := hn
  rw [e]
  refine h _ (yAg_Bw hpi.2.2.2) ⟨hs, P, C, hp, by rw [List.length_set]; exact hl, by rw [List.length_set]; exact hn, yBv_w (fun e => (hp.2.2.2.2 i hi10).2 e.symm) h0, fun k hk => ?_⟩
  rw [List.length_set] at hk
  rw [setG hi]
  by_cases e : k = i
  · subst e
    rw [if_pos rfl]
    exact ⟨yBv_w (hp.2.2.2.1 k k hi10 hi10) (hb k hk).1, hg⟩
  · rw [if_neg e]
    have := hb k hk
    exact ⟨yBv_w (hp.2.2.2.1 k i (by omega) hi10) this.1, yBv_w (fun z => e (hp.2.2.1 k i (by omega) hi10 z)) (this.2 e)⟩
theorem Tr_take_sp (hW : yW Λ) (hT : yTv Λ S t fs) (hO : yB Λ o capo) (hv : yBv S o capo bs) (hbs : bs.length ≤ 17) (ho : own Λ o ≠ t) (hQ : yB Λ q capq) (hw : yBv S q capq cs) (hcs : cs.length ≤ 48) (hq : own Λ q ≠ t)
    (h1 : ∀ k S', k < fs.length → (fs.getD k fl0).1 = bs → (∀ j, j < k → (fs.getD j fl0).1 ≠ bs) → yAg Λ S S' t → yTv Λ S' t (fs.set k (bs, cs)) → post (some (.int (nI fs.length))) (yH Λ f0 S'))
    (h2 : (∀ j, j < fs.length → (fs.getD j fl0).1 ≠ bs) → barT fs bs = true → post (some (.int (-2))) (yH Λ f0 S))
    (h3 : (∀ j, j < fs.length → (fs.getD j fl0).1 ≠ bs) → barT fs bs = false → fs.length = 10 → post (some (.int (-3))) (yH Λ f0 S))
    (h4 : ∀ S', (∀ j, j < fs.length → (fs.getD j fl0).1 ≠ bs) → barT fs bs = false → fs.length < 10 → yAg Λ S S' t → yTv Λ S' t (insL fs (insP bs fs fs.length) (bs, cs)) → post (some (.int (nI (fs.length + 1)))) (yH Λ f0 S')) : xSp xT0 (d + 4) j_Tr_take [.ref t, .ref o, .ref q] (yH Λ f0 S) post := by
  have hs := hT.1
  refine xSp_of (M := m_Tr_take) rfl (b_Tr_take_0 ⟨yex hs.1, Tr_find_sp hT hO hv (fun k hk e hn => ?_) (fun hn => ?_)⟩)
  · refine ⟨fun c => ?_, fun c => absurd (Classical.not_not.mp c) ?_⟩
    · refine Tr_take_end hW (yTh_of hT k) hk hQ hw hcs hq (fun S' a1 a2 => h1 k S' hk e hn a1 ?_)
      rw [e] at a2
      exact a2
    · intro z
      have hl : fs.length ≤ 10 := by obtain ⟨_, _, _, _, q, _⟩ := hT; exact q
      have z2 := congrArg Int32.toInt z
      rw [nI_toInt (by omega)] at z2
      have : (-1 : Int32).toInt = -1 := by decide
      omega
  · refine ⟨fun c => absurd rfl c, fun c => ⟨yex hs.1, Tr_isBarred_sp hT hO hv ?_⟩⟩
    obtain ⟨-, P, C, hp, hl, hn2, -, -⟩ := id hT
    by_cases e : barT fs bs = true
    · rw [if_pos e]
      exact ⟨fun c => absurd c (by decide), fun c => h2 hn e⟩
    · rw [if_neg e]
      have e := Bool.eq_false_iff.mpr e
      refine ⟨fun c => ygi hs.1 rfl ?_, fun c => absurd rfl c⟩
      rw [hn2]
      refine ⟨fun c => ?_, fun c => h3 hn e ?_⟩
      · have hlt := (ltI (b := 10) (by omega) (by omega)).mp c
        refine ⟨yex hs.1, Tr_makePlace_sp hW hT hlt hO hv hbs ho (fun S' a1 a2 => ?_)⟩
        have hin := insP_le bs fs fs.length
        have hil : (insL fs (insP bs fs fs.length) (bs, [])).length = fs.length + 1 := insL_len hin
        refine Tr_take_end hW a2 (by rw [hil]; omega) hQ (yAg_Bv a1 (yB_ne hQ hs) hq hw) hcs hq (fun S2 b1 b2 => ?_)
        rw [hil]
        rw [insL_at hin, if_neg (by omega), if_pos rfl, insL_set hin] at b2
        exact h4 S2 hn e hlt (yAg_tr a1 b1) b2
      · have : ¬ fs.length < 10 := fun z => c ((ltI (b := 10) (by omega) (by omega)).mpr z)
        omega
abbrev yTl (S : yS) (t i k : Nat) : yS := ywR (ywR S 2 0 t (shL (yR S 2 0 t) i k)) 2 1 t (shL (yR S 2 1 t) i k)
theorem yTl_0 {i k : Nat} : yR (yTl S t i k) 2 0 t = shL (yR S 2 0 t) i k := by
  unfold yTl
  rw [ywR_ne _ _ (by omega), ywR_s]
theorem yTl_1 {i k : Nat} : yR (yTl S t i k) 2 1 t = shL (yR S 2 1 t) i k := ywR_s _ _ _ _ _
theorem yTl_n {i : Nat} : yTl S t i (i + 1) = S := by
  unfold yTl
  rw [shL_0, shL_0, ywR_same]
  exact ywR_same S 2 1 t
theorem yTl_s {i k : Nat} (h : i < k) : ywR (ywR (yTl S t i k) 2 0 t (va_up (yR (yTl S t i k) 2 0 t) (k - 1) (yR (yTl S t i k) 2 0 t k))) 2 1 t (va_up (yR (yTl S t i k) 2 1 t) (k - 1) (yR (yTl S t i k) 2 1 t k)) = yTl S t i (k + 1) := by
  rw [yTl_0, yTl_1, shL_s _ h, shL_s _ h]
  unfold yTl
  rw [ywR_comm, ywR_R, ywR_R]
theorem Tr_remove_loop (hW : yW Λ) (hT : yTv Λ S t fs) {i : Nat} (hi : i < fs.length) {P C : Nat → Nat} (hp : yTp Λ S t P C) (hb : ∀ i, i < fs.length → yBv S (P i) 17 (fs.getD i fl0).1 ∧ yBv S (C i) 48 (fs.getD i fl0).2) {E : Option Value → xH → Prop} (h : ∀ S', yAg Λ S S' t → yTv Λ S' t (fs.eraseIdx i) → E none (yH Λ f0 S')) : ∀ n k, fs.length - k = n → i < k → k ≤ fs.length → xWp (xT0, xSp xT0 d, none, m_Tr_remove, E) 28 [some (.ref t), some (.int (nI i)), some (.ref (P i)), some (.ref (C i)), some (.int (nI k))] [] (yH Λ f0 (yTl S t i k)) 0 0 := by
  obtain ⟨hs, -, -, -, hl, hn, h0, -⟩ := hT
  have hi10 : i < 10 := by omega
  intro n
  induction n with
  | zero =>
    intro k hk1 hk2 hk3
    have hk : k = fs.length := by omega
    subst hk
    refine b_Tr_remove_28 (ygi hs.1 rfl ?_)
    have e0 : yI (yTl S t i fs.length) 2 3 t = nI fs.length := hn
    rw [e0]
    refine ⟨fun c => ygi hs.1 rfl (ypf hs.1 rfl ?_), fun c => absurd ((leI (by omega) (by omega)).mpr (Nat.le_refl _)) c⟩
    rw [e0]
    have e1 : nI fs.length - 1 = nI (fs.length - 1) := by
      have := nI_pred (fs.length - 1)
      rw [show fs.length - 1 + 1 = fs.length by omega] at this
      exact this
    rw [e1]
    have e2 : ∀ S1 : yS, yI (ywI S1 2 3 t (nI (fs.length - 1))) 2 3 t = nI (fs.length - 1) := fun S1 => if_pos ⟨rfl, rfl, rfl⟩
    refine ygr hs.1 rfl (ygi hs.1 rfl ?_)
    rw [e2]
    refine yrs hs.2.1 (yW_r hW hs.2.1) (vp_in_nI (by omega) (by omega)) (hp.1 i hi10).2.1.1.1 (ygr hs.1 rfl (ygi hs.1 rfl ?_))
    have e3 : yI (ywR (ywI (yTl S t i fs.length) 2 3 t (nI (fs.length - 1))) 2 0 t (va_up (yR (ywI (yTl S t i fs.length) 2 3 t (nI (fs.length - 1))) 2 0 t) (nI (fs.length - 1)).toNatClampNeg (some (P i)))) 2 3 t = nI (fs.length - 1) := if_pos ⟨rfl, rfl, rfl⟩
    rw [e3]
    refine yrs hs.2.2.1 (yW_r hW hs.2.2.1) (vp_in_nI (by omega) (by omega)) (hp.1 i hi10).2.1.2.1 ?_
    rw [nI_clamp (by omega), ywR_ne _ _ (by omega)]
    have e4 : yR (ywI (yTl S t i fs.length) 2 3 t (nI (fs.length - 1))) 2 0 t = shL (yR S 2 0 t) i fs.length := yTl_0
    have e5 : yR (ywI (yTl S t i fs.length) 2 3 t (nI (fs.length - 1))) 2 1 t = shL (yR S 2 1 t) i fs.length := yTl_1
    rw [e4, e5]
    generalize hS : ywR (ywR (ywI (yTl S t i fs.length) 2 3 t (nI (fs.length - 1))) 2 0 t (va_up (shL (yR S 2 0 t) i fs.length) (fs.length - 1) (some (P i)))) 2 1 t (va_up (shL (yR S 2 1 t) i fs.length) (fs.length - 1) (some (C i))) = S'
    have hR0 : yR S' 2 0 t = va_up (shL (yR S 2 0 t) i fs.length) (fs.length - 1) (some (P i)) := by
      rw [← hS, ywR_ne _ _ (by omega), ywR_s]
    have hR1 : yR S' 2 1 t = va_up (shL (yR S 2 1 t) i fs.length) (fs.length - 1) (some (C i)) := by
      rw [← hS, ywR_s]
    have hBo : ∀ b cap zs, yBv S b cap zs → yBv S' b cap zs := fun b cap zs hv => by
      rw [← hS]
      exact yBv_I2 (S := yTl S t i fs.length) (c := 2) (j := 3) (a := t) (w := nI (fs.length - 1)) (v := 0) (by decide) hv
    have hag : yAg Λ S S' t := by
      rw [← hS]
      exact yAg_tr (yAg_tr (yAg_tr (yAg_tr yAg_R yAg_R) yAg_I) yAg_R) yAg_R
    have hel : (fs.eraseIdx i).length = fs.length - 1 := List.length_eraseIdx_of_lt hi
    let ix : Nat → Nat := fun j => if j = fs.length - 1 then i else if i ≤ j ∧ j + 1 < fs.length then j + 1 else j
    have hix : ∀ j, j < 10 → ix j < 10 := fun j hj => by
      show (if j = fs.length - 1 then i else if i ≤ j ∧ j + 1 < fs.length then j + 1 else j) < 10
      by_cases z1 : j = fs.length - 1
      · rw [if_pos z1]; exact hi10
      · rw [if_neg z1]
        by_cases z2 : i ≤ j ∧ j + 1 < fs.length
        · rw [if_pos z2]; omega
        · rw [if_neg z2]; exact hj
    have hinj : ∀ a b, ix a = ix b → a = b := fun a b e => by
      have e : (if a = fs.length - 1 then i else if i ≤ a ∧ a + 1 < fs.length then a + 1 else a) = (if b = fs.length - 1 then i else if i ≤ b ∧ b + 1 < fs.length then b + 1 else b) := e
      split at e <;> split at e <;> (try split at e) <;> (try split at e) <;> omega
    refine h S' hag ⟨hs, fun j => P (ix j), fun j => C (ix j), ⟨fun j hj => ?_, fun a b ha hb e => hinj a b (hp.2.1 _ _ (hix a ha) (hix b hb) e), fun a b ha hb e => hinj a b (hp.2.2.1 _ _ (hix a ha) (hix b hb) e), fun a b ha hb => hp.2.2.2.1 _ _ (hix a ha) (hix b hb), fun a ha => hp.2.2.2.2 _ (hix a ha)⟩, by rw [hel]; omega, ?_, hBo _ _ _ h0, fun k hk => ?_⟩
    · have hq := hp.1 (ix j) (hix j hj)
      refine ⟨?_, hq.2⟩
      rw [hR0, hR1, ← hq.1.1, ← hq.1.2]
      unfold va_up shL
      by_cases z1 : j = fs.length - 1
      · have : ix j = i := if_pos z1
        rw [if_pos z1, if_pos z1, this]
        exact ⟨(hp.1 i hi10).1.1.symm, (hp.1 i hi10).1.2.symm⟩
      · rw [if_neg z1, if_neg z1]
        by_cases z2 : i ≤ j ∧ j + 1 < fs.length
        · have : ix j = j + 1 := by show (if _ then _ else _) = _; rw [if_neg z1, if_pos z2]
          rw [if_pos z2, if_pos z2, this]
          exact ⟨rfl, rfl⟩
        · have : ix j = j := by show (if _ then _ else _) = _; rw [if_neg z1, if_neg z2]
          rw [if_neg z2, if_neg z2, this]
          exact ⟨rfl, rfl⟩
    · rw [hel, ← hS]
      exact if_pos ⟨rfl, rfl, rfl⟩
    · rw [hel] at hk
      rw [eraG]
      have hixk : ix k = if k < i then k else k + 1 := by
        show (if _ then _ else _) = _
        rw [if_neg (by omega)]
        by_cases z : k < i
        · rw [if_neg (by omega), if_pos z]
        · rw [if_pos (by omega), if_neg z]
      by_cases z : k < i
      · rw [if_pos z] at hixk ⊢
        show yBv S' (P (ix k)) 17 _ ∧ yBv S' (C (ix k)) 48 _
        rw [hixk]
        exact ⟨hBo _ _ _ (hb k (by omega)).1, hBo _ _ _ (hb k (by omega)).2⟩
      · rw [if_neg z] at hixk ⊢
        show yBv S' (P (ix k)) 17 _ ∧ yBv S' (C (ix k)) 48 _
        rw [hixk]
        exact ⟨hBo _ _ _ (hb (k + 1) (by omega)).1, hBo _ _ _ (hb (k + 1) (by omega)).2⟩
  | succ n ih =>
    intro k hk1 hk2 hk3
    have hk : k < fs.length := by omega
    refine b_Tr_remove_28 (ygi hs.1 rfl ?_)
    have e0 : yI (yTl S t i k) 2 3 t = nI fs.length := hn
    rw [e0]
    have e1 : nI k - 1 = nI (k - 1) := by
      have := nI_pred (k - 1)
      rw [show k - 1 + 1 = k by omega] at this
      exact this
    rw [e1]
    have hr0 : yR (yTl S t i k) 2 0 t k = some (P k) := by
      rw [yTl_0]
      unfold shL
      rw [if_neg (by omega)]
      exact (hp.1 k (by omega)).1.1
    have hr1 : yR (yTl S t i k) 2 1 t k = some (C k) := by
      rw [yTl_1]
      unfold shL
      rw [if_neg (by omega)]
      exact (hp.1 k (by omega)).1.2
    refine ⟨fun c => absurd ((leI (by omega) (by omega)).mp c) (by omega), fun c => ?_⟩
    refine ygr hs.1 rfl (ygr hs.1 rfl (yrl (P k) hs.2.1 (vp_in_nI (by omega) (by omega)) (by rw [nI_clamp (by omega)]; exact hr0) (yrs hs.2.1 (yW_r hW hs.2.1) (vp_in_nI (by omega) (by omega)) (hp.1 k (by omega)).2.1.1.1 ?_)))
    refine ygr hs.1 rfl (ygr hs.1 rfl (yrl (C k) hs.2.2.1 (vp_in_nI (by omega) (by omega)) ?_ (yrs hs.2.2.1 (yW_r hW hs.2.2.1) (vp_in_nI (by omega) (by omega)) (hp.1 k (by omega)).2.1.2.1 ?_)))
    · rw [ywR_ne _ _ (by omega), nI_clamp (by omega)]
      exact hr1
    · rw [nI_clamp (by omega), ywR_ne _ _ (by omega)]
      have := ih (k + 1) (by omega) (by omega) (by omega)
      rw [← yTl_s hk2, hr0, hr1, ← nI_1] at this
      exact this
theorem Tr_remove_sp (hW : yW Λ) (hT : yTv Λ S t fs) {i : Nat} (hi : i < fs.length) (h : ∀ S', yAg Λ S S' t → yTv Λ S' t (fs.eraseIdx i) → post none (yH Λ f0 S')) : xSp xT0 (d + 2) j_Tr_remove [.ref t, .int (nI i)] (yH Λ f0 S) post := by
  obtain ⟨hs, P, C, hp, hl, hn, h0, hb⟩ := id hT
  have hi10 : i < 10 := by omega
  refine xSp_of (M := m_Tr_remove) rfl (b_Tr_remove_0 ⟨yex hs.1, Tr_has_sp hT (fun k hk e => ?_) (fun z => ?_)⟩)
  · refine ⟨fun c => ?_, fun c => absurd (by decide) c⟩
    refine ygr hs.1 rfl (yrl (P i) hs.2.1 (vp_in_nI (by omega) (by omega)) (by rw [nI_clamp (by omega)]; exact (hp.1 i hi10).1.1) (ygr hs.1 rfl (yrl (C i) hs.2.2.1 (vp_in_nI (by omega) (by omega)) (by rw [nI_clamp (by omega)]; exact (hp.1 i hi10).1.2) ?_)))
    have := Tr_remove_loop (d := d + 1) (f0 := f0) hW hT hi hp hb h _ (i + 1) rfl (by omega) (by omega)
    rw [yTl_n, ← nI_1] at this
    exact this
  · rcases z with z | z
    · exact absurd z (nI_pos (by omega))
    · exact absurd ((leI (by omega) (by omega)).mp z) (by omega)
end
