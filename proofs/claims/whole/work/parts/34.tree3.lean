/-! 34 Tree: makePlace, take, remove -/
/-- behind which FILE a new one comes: from the end on -/
def insP (bs : List Nat) (fs : List Fl) : Nat → Nat
  | 0 => 0
  | i + 1 => if ordV bs (fs.getD i fl0).1 < 0 then insP bs fs i else i + 1
theorem insP_s (bs : List Nat) (fs : List Fl) (i : Nat) : insP bs fs (i + 1) = if ordV bs (fs.getD i fl0).1 < 0 then insP bs fs i else i + 1 := rfl
theorem insP_le (bs : List Nat) (fs : List Fl) : ∀ n, insP bs fs n ≤ n
  | 0 => Nat.le_refl _
  | n + 1 => by
    unfold insP
    split
    · exact Nat.le_succ_of_le (insP_le bs fs n)
    · exact Nat.le_refl _
def insL (fs : List Fl) (i : Nat) (q : Fl) : List Fl := fs.take i ++ q :: fs.drop i
theorem insL_len {fs : List Fl} {i : Nat} {q : Fl} (h : i ≤ fs.length) : (insL fs i q).length = fs.length + 1 := by
  unfold insL
  rw [List.length_append, List.length_take, List.length_cons, List.length_drop]
  omega
theorem insL_at {fs : List Fl} {i j : Nat} {q : Fl} (h : i ≤ fs.length) : (insL fs i q).getD j fl0 = if j < i then fs.getD j fl0 else if j = i then q else fs.getD (j - 1) fl0 := by
  unfold insL
  have hl : (fs.take i).length = i := by rw [List.length_take]; omega
  by_cases h1 : j < i
  · rw [if_pos h1, List.getD_eq_getElem?_getD, List.getElem?_append_left (by omega), List.getElem?_take, if_pos h1, ← List.getD_eq_getElem?_getD]
  · rw [if_neg h1, List.getD_eq_getElem?_getD, List.getElem?_append_right (by omega), hl]
    by_cases h2 : j = i
    · rw [if_pos h2, h2, Nat.sub_self]; rfl
    · rw [if_neg h2, show j - i = (j - 1 - i) + 1 by omega, List.getElem?_cons_succ, List.getElem?_drop, show i + (j - 1 - i) = j - 1 by omega, ← List.getD_eq_getElem?_getD]
/-- rows i + 1 .. n have come from the place before -/
def shR {α : Type} (A : Nat → α) (n i : Nat) : Nat → α := fun j => if i < j ∧ j ≤ n then A (j - 1) else A j
theorem shR_n {α : Type} (A : Nat → α) (n : Nat) : shR A n n = A := by
  funext j
  exact if_neg (by omega)
theorem shR_s {α : Type} (A : Nat → α) {n i : Nat} (h : i + 1 ≤ n) : va_up (shR A n (i + 1)) (i + 1) (shR A n (i + 1) i) = shR A n i := by
  funext j
  unfold va_up shR
  by_cases h1 : j = i + 1
  · rw [if_pos h1, if_neg (by omega), if_pos (by omega), h1]; rfl
  · rw [if_neg h1]
    by_cases h2 : i < j ∧ j ≤ n
    · rw [if_pos h2, if_pos (by omega)]
    · rw [if_neg h2, if_neg (by omega)]
/-- a Tree whose FILE i has no CONTENT yet -/
def yTh (Λ : yL) (S : yS) (t : Nat) (fs : List Fl) (i : Nat) : Prop := yT Λ t ∧ ∃ P C, yTp Λ S t P C ∧ fs.length ≤ 10 ∧ yI S 2 3 t = nI fs.length ∧ yBv S (Λ.2.1 2 2 t) 0 [] ∧ ∀ k, k < fs.length → yBv S (P k) 17 (fs.getD k fl0).1 ∧ (k ≠ i → yBv S (C k) 48 (fs.getD k fl0).2)
theorem sgnI {z : Int} (h1 : -256 ≤ z) (h2 : z ≤ 256) : (0 : Int32) ≤ Int32.ofInt z ↔ 0 ≤ z := by
  rw [Int32.le_iff_toInt_le, Int32.toInt_ofInt_of_le (by omega) (by omega)]
  exact Iff.rfl
theorem ordV_yb {S : yS} {a o cap capo : Nat} {bs cs : List Nat} (h1 : cap ≤ 80) (h2 : capo ≤ 80) (hv : yBv S a cap bs) (hw : yBv S o capo cs) : -256 ≤ ordV bs cs ∧ ordV bs cs ≤ 256 := by
  have a1 := hv.1
  have a2 := hw.1
  exact ordV_b (n := 256) (by omega) (by omega) (fun k hk => (hv.2.2 k hk).2) (fun k hk => (hw.2.2 k hk).2) (Nat.le_refl _)
section
variable {Λ : yL} {f0 : xH} {S : yS} {t u o q capo capc d : Nat} {fs gs : List Fl} {bs cs : List Nat} {x : Int32} {post : Option Value → xH → Prop}
theorem ywR_s (S : yS) (c j o : Nat) (g : Nat → Option Nat) : yR (ywR S c j o g) c j o = g := if_pos ⟨rfl, rfl, rfl⟩
theorem ywR_ne (S : yS) {c j o c' j' b : Nat} (g : Nat → Option Nat) (h : ¬ (c' = c ∧ j' = j ∧ b = o)) : yR (ywR S c j o g) c' j' b = yR S c' j' b := if_neg h
/-- the rows, moved -/
abbrev yTm (S : yS) (t n i : Nat) : yS := ywR (ywR S 2 0 t (shR (yR S 2 0 t) n i)) 2 1 t (shR (yR S 2 1 t) n i)
theorem yTm_0 {n i : Nat} : yR (yTm S t n i) 2 0 t = shR (yR S 2 0 t) n i := by
  unfold yTm
  rw [ywR_ne _ _ (by omega), ywR_s]
theorem yTm_1 {n i : Nat} : yR (yTm S t n i) 2 1 t = shR (yR S 2 1 t) n i := ywR_s _ _ _ _ _
theorem ywR_same (S : yS) (c j o : Nat) : ywR S c j o (yR S c j o) = S := by
  obtain ⟨s1, s2, s3⟩ := S
  unfold ywR
  refine congrArg (fun z => (s1, s2, z)) ?_
  funext c' j' b
  by_cases h : c' = c ∧ j' = j ∧ b = o
  · rw [if_pos h, h.1, h.2.1, h.2.2]
  · rw [if_neg h]
theorem ywR_comm (S : yS) (o : Nat) (g g' : Nat → Option Nat) : ywR (ywR S 2 1 o g) 2 0 o g' = ywR (ywR S 2 0 o g') 2 1 o g := by
  unfold ywR
  refine congrArg (fun z => (S.1, S.2.1, z)) ?_
  funext c' j' b
  dsimp only [yR]
  by_cases h : c' = 2 ∧ j' = 0 ∧ b = o
  · rw [if_pos h, if_neg (by omega), if_pos h]
  · rw [if_neg h, if_neg h]
theorem yTm_n {n : Nat} : yTm S t n n = S := by
  unfold yTm
  rw [shR_n, shR_n]
  rw [ywR_same]
  exact ywR_same S 2 1 t
theorem yTm_s {n i : Nat} (h : i + 1 ≤ n) : ywR (ywR (yTm S t n (i + 1)) 2 0 t (va_up (yR (yTm S t n (i + 1)) 2 0 t) (i + 1) (yR (yTm S t n (i + 1)) 2 0 t i))) 2 1 t (va_up (yR (yTm S t n (i + 1)) 2 1 t) (i + 1) (yR (yTm S t n (i + 1)) 2 1 t i)) = yTm S t n i := by
  rw [yTm_0, yTm_1, shR_s _ h, shR_s _ h]
  unfold yTm
  rw [ywR_comm, ywR_R, ywR_R]
theorem Tr_makePlace_end (hW : yW Λ) (hT : yTv Λ S t fs) (hlt : fs.length < 10) (hO : yB Λ o capo) (hw : yBv S o capo bs) (hbs : bs.length ≤ 17) (ho : own Λ o ≠ t) {P C : Nat → Nat} (hp : yTp Λ S t P C) (hb : ∀ i, i < fs.length → yBv S (P i) 17 (fs.getD i fl0).1 ∧ yBv S (C i) 48 (fs.getD i fl0).2) {E : Option Value → xH → Prop} {i : Nat} (hi : i ≤ fs.length) (h : ∀ S', yAg Λ S S' t → yTh Λ S' t (insL fs i (bs, [])) i → E (some (.int (nI i))) (yH Λ f0 S')) : xWp (xT0, xSp xT0 (d + 1), none, m_Tr_makePlace, E) 85 [some (.ref t), some (.ref o), some (.ref (P fs.length)), some (.ref (C fs.length)), some (.int (nI i))] [] (yH Λ f0 (yTm S t fs.length i)) 0 0 := by
  obtain ⟨hs, -, -, -, -, hn, h0, -⟩ := hT
  have hpn := hp.1 fs.length hlt
  have hoP : ∀ j, j < 10 → o ≠ P j ∧ o ≠ C j := fun j hj => ⟨fun e => ho (by rw [e]; exact (hp.1 j hj).2.2.1), fun e => ho (by rw [e]; exact (hp.1 j hj).2.2.2)⟩
  refine b_Tr_makePlace_85 ⟨yex hpn.2.1.1.1, By_copyOf_sp hW hpn.2.1.1 hO (hoP _ hlt).1 (show yBv (yTm S t fs.length i) o capo bs from hw) hbs (fun g hg => ?_)⟩
  refine ygr hs.1 rfl (yrs hs.2.1 (yW_r hW hs.2.1) (vp_in_nI (by omega) (by omega)) hpn.2.1.1.1 (ygr hs.1 rfl (yrs hs.2.2.1 (yW_r hW hs.2.2.1) (vp_in_nI (by omega) (by omega)) hpn.2.1.2.1 (ygi hs.1 rfl (ypf hs.1 rfl ?_)))))
  rw [nI_clamp (by omega)]
  have e0 : yR (yBw (yTm S t fs.length i) (P fs.length) g (nI bs.length)) 2 0 t = shR (yR S 2 0 t) fs.length i := yTm_0
  have e1 : yR (ywR (yBw (yTm S t fs.length i) (P fs.length) g (nI bs.length)) 2 0 t (va_up (yR (yBw (yTm S t fs.length i) (P fs.length) g (nI bs.length)) 2 0 t) i (some (P fs.length)))) 2 1 t = shR (yR S 2 1 t) fs.length i := by
    rw [ywR_ne _ _ (by omega)]
    exact yTm_1
  rw [e1, e0]
  have e2 : yI (ywR (ywR (yBw (yTm S t fs.length i) (P fs.length) g (nI bs.length)) 2 0 t (va_up (shR (yR S 2 0 t) fs.length i) i (some (P fs.length)))) 2 1 t (va_up (shR (yR S 2 1 t) fs.length i) i (some (C fs.length)))) 2 3 t + 1 = nI (fs.length + 1) := by
    show yI S 2 3 t + 1 = _
    rw [hn]
    exact nI_1 _
  rw [e2]
  generalize hS : ywI (ywR (ywR (yBw (yTm S t fs.length i) (P fs.length) g (nI bs.length)) 2 0 t (va_up (shR (yR S 2 0 t) fs.length i) i (some (P fs.length)))) 2 1 t (va_up (shR (yR S 2 1 t) fs.length i) i (some (C fs.length)))) 2 3 t (nI (fs.length + 1)) = S'
  have hR0 : yR S' 2 0 t = va_up (shR (yR S 2 0 t) fs.length i) i (some (P fs.length)) := by
    rw [← hS]
    show yR (ywR (ywR _ 2 0 t _) 2 1 t _) 2 0 t = _
    rw [ywR_ne _ _ (by omega), ywR_s]
  have hR1 : yR S' 2 1 t = va_up (shR (yR S 2 1 t) fs.length i) i (some (C fs.length)) := by
    rw [← hS]
    exact ywR_s _ _ _ _ _
  have hBn : yBv S' (P fs.length) 17 bs := by
    rw [← hS]
    exact yBv_I2 (v := 0) (by decide) hg
  have hBo : ∀ b cap zs, b ≠ P fs.length → yBv S b cap zs → yBv S' b cap zs := fun b cap zs hb hv => by
    rw [← hS]
    exact yBv_I2 (v := 0) (by decide) (yBv_w (S := yTm S t fs.length i) hb hv)
  have hag : yAg Λ S S' t := by
    rw [← hS]
    exact yAg_tr (yAg_tr (yAg_tr (yAg_tr (yAg_tr yAg_R yAg_R) (yAg_Bw hpn.2.2.1)) yAg_R) yAg_R) yAg_I
  refine h S' hag ⟨hs, fun j => if j = i then P fs.length else shR P fs.length i j, fun j => if j = i then C fs.length else shR C fs.length i j, ⟨fun j hj => ?_, ?_, ?_, ?_, ?_⟩, ?_, ?_, ?_, fun k hk => ?_⟩
  · rw [hR0, hR1]
    unfold va_up
    by_cases h1 : j = i
    · simp only [h1, if_true]
      exact ⟨⟨trivial, trivial⟩, hpn.2⟩
    · simp only [h1, if_false]
      unfold shR
      by_cases h2 : i < j ∧ j ≤ fs.length
      · simp only [h2, and_self, if_true]
        exact hp.1 (j - 1) (by omega)
      · simp only [h2, if_false]
        exact hp.1 j hj
  · intro a b ha hb he
    have key : ∀ j, (if j = i then P fs.length else shR P fs.length i j) = P (if j = i then fs.length else if i < j ∧ j ≤ fs.length then j - 1 else j) := fun j => by
      unfold shR
      by_cases h1 : j = i
      · simp [h1]
      · by_cases h2 : i < j ∧ j ≤ fs.length <;> simp [h1, h2]
    dsimp only at he
    rw [key, key] at he
    have := hp.2.1 _ _ (by split <;> (try split) <;> omega) (by split <;> (try split) <;> omega) he
    split at this <;> split at this <;> (try split at this) <;> (try split at this) <;> omega
  · intro a b ha hb he
    have key : ∀ j, (if j = i then C fs.length else shR C fs.length i j) = C (if j = i then fs.length else if i < j ∧ j ≤ fs.length then j - 1 else j) := fun j => by
      unfold shR
      by_cases h1 : j = i
      · simp [h1]
      · by_cases h2 : i < j ∧ j ≤ fs.length <;> simp [h1, h2]
    dsimp only at he
    rw [key, key] at he
    have := hp.2.2.1 _ _ (by split <;> (try split) <;> omega) (by split <;> (try split) <;> omega) he
    split at this <;> split at this <;> (try split at this) <;> (try split at this) <;> omega
  · intro a b ha hb
    have keyP : ∀ j, j < 10 → ∃ k, k < 10 ∧ (if j = i then P fs.length else shR P fs.length i j) = P k := fun j hj => by
      unfold shR
      by_cases h1 : j = i
      · exact ⟨fs.length, hlt, if_pos h1⟩
      · by_cases h2 : i < j ∧ j ≤ fs.length
        · exact ⟨j - 1, by omega, by rw [if_neg h1, if_pos h2]⟩
        · exact ⟨j, hj, by rw [if_neg h1, if_neg h2]⟩
    have keyC : ∀ j, j < 10 → ∃ k, k < 10 ∧ (if j = i then C fs.length else shR C fs.length i j) = C k := fun j hj => by
      unfold shR
      by_cases h1 : j = i
      · exact ⟨fs.length, hlt, if_pos h1⟩
      · by_cases h2 : i < j ∧ j ≤ fs.length
        · exact ⟨j - 1, by omega, by rw [if_neg h1, if_pos h2]⟩
        · exact ⟨j, hj, by rw [if_neg h1, if_neg h2]⟩
    obtain ⟨k1, q1, q2⟩ := keyP a ha
    obtain ⟨k2, q3, q4⟩ := keyC b hb
    show (if a = i then P fs.length else shR P fs.length i a) ≠ (if b = i then C fs.length else shR C fs.length i b)
    rw [q2, q4]
    exact hp.2.2.2.1 k1 k2 q1 q3
  · intro a ha
    dsimp only
    unfold shR
    by_cases h1 : a = i
    · rw [if_pos h1, if_pos h1]; exact hp.2.2.2.2 _ hlt
    · rw [if_neg h1, if_neg h1]
      by_cases h2 : i < a ∧ a ≤ fs.length
      · rw [if_pos h2, if_pos h2]; exact hp.2.2.2.2 _ (by omega)
      · rw [if_neg h2, if_neg h2]; exact hp.2.2.2.2 _ ha
  · rw [insL_len hi]; omega
  · rw [insL_len hi, ← hS]
    exact if_pos ⟨rfl, rfl, rfl⟩
  · exact hBo _ _ _ (fun e => (hp.2.2.2.2 _ hlt).1 e.symm) h0
  · rw [insL_len hi] at hk
    rw [insL_at hi]
    dsimp only
    unfold shR
    by_cases h1 : k = i
    · rw [if_pos h1, if_neg (by omega), if_pos h1]
      exact ⟨hBn, fun q => absurd h1 q⟩
    · simp only [if_neg h1]
      by_cases h2 : k < i
      · have hcd : ¬ (i < k ∧ k ≤ fs.length) := by omega
        simp only [if_pos h2, if_neg hcd]
        have := hb k (by omega)
        exact ⟨hBo _ _ _ (fun e => by have := hp.2.1 _ _ (by omega) hlt e; omega) this.1, fun _ => hBo _ _ _ (fun e => hp.2.2.2.1 _ _ hlt (by omega) e.symm) this.2⟩
      · have hcd : i < k ∧ k ≤ fs.length := by omega
        simp only [if_neg h2, if_pos hcd]
        have := hb (k - 1) (by omega)
        exact ⟨hBo _ _ _ (fun e => by have := hp.2.1 _ _ (by omega) hlt e; omega) this.1, fun _ => hBo _ _ _ (fun e => hp.2.2.2.1 _ _ hlt (by omega) e.symm) this.2⟩
theorem Tr_makePlace_loop (hW : yW Λ) (hT : yTv Λ S t fs) (hlt : fs.length < 10) (hO : yB Λ o capo) (hw : yBv S o capo bs) (hbs : bs.length ≤ 17) (ho : own Λ o ≠ t) {P C : Nat → Nat} (hp : yTp Λ S t P C) (hb : ∀ i, i < fs.length → yBv S (P i) 17 (fs.getD i fl0).1 ∧ yBv S (C i) 48 (fs.getD i fl0).2) {E : Option Value → xH → Prop} (h : ∀ S', yAg Λ S S' t → yTh Λ S' t (insL fs (insP bs fs fs.length) (bs, [])) (insP bs fs fs.length) → E (some (.int (nI (insP bs fs fs.length)))) (yH Λ f0 S')) : ∀ i, i ≤ fs.length → insP bs fs fs.length = insP bs fs i → xWp (xT0, xSp xT0 (d + 1), none, m_Tr_makePlace, E) 26 [some (.ref t), some (.ref o), some (.ref (P fs.length)), some (.ref (C fs.length)), some (.int (nI i))] [] (yH Λ f0 (yTm S t fs.length i)) 0 0 := by
  obtain ⟨hs, -, -, -, -, hn, h0, -⟩ := id hT
  intro i
  induction i with
  | zero =>
    intro hi he
    refine b_Tr_makePlace_26 ⟨fun c => ?_, fun c => absurd (by decide) c⟩
    have he : insP bs fs fs.length = 0 := he
    rw [he] at h
    exact Tr_makePlace_end hW hT hlt hO hw hbs ho hp hb (Nat.zero_le _) h
  | succ i ih =>
    intro hi he
    have hi1 : i < fs.length := by omega
    have e1 : nI (i + 1) - 1 = nI i := nI_pred i
    refine b_Tr_makePlace_26 ⟨fun c => absurd ((leI (a := i + 1) (b := 0) (by omega) (by omega)).mp c) (by omega), fun c => ?_⟩
    rw [e1]
    have hr0 : yR (yTm S t fs.length (i + 1)) 2 0 t i = some (P i) := by
      rw [yTm_0]
      unfold shR
      rw [if_neg (by omega)]
      exact (hp.1 i (by omega)).1.1
    have hr1 : yR (yTm S t fs.length (i + 1)) 2 1 t i = some (C i) := by
      rw [yTm_1]
      unfold shR
      rw [if_neg (by omega)]
      exact (hp.1 i (by omega)).1.2
    have hpi := hp.1 i (by omega)
    refine ygr hs.1 rfl (yrl (P i) hs.2.1 (vp_in_nI (by omega) (by omega)) (by rw [nI_clamp (by omega)]; exact hr0) ⟨yex hO.1, By_order_sp hO hpi.2.1.1 (show yBv (yTm S t fs.length (i + 1)) o capo bs from hw) (show yBv (yTm S t fs.length (i + 1)) (P i) 17 _ from (hb i hi1).1) ?_⟩)
    have hbd := ordV_yb hO.2.2 hpi.2.1.1.2.2 hw (hb i hi1).1
    rw [insP_s] at he
    refine ⟨fun c => ?_, fun c => ?_⟩
    · rw [if_neg (by have := (sgnI hbd.1 hbd.2).mp c; omega)] at he
      rw [he] at h
      exact Tr_makePlace_end hW hT hlt hO hw hbs ho hp hb hi h
    · have hneg : ordV bs (fs.getD i fl0).1 < 0 := by
        have : ¬ 0 ≤ ordV bs (fs.getD i fl0).1 := fun q => c ((sgnI hbd.1 hbd.2).mpr q)
        omega
      rw [if_pos hneg] at he
      refine ygr hs.1 rfl (ygr hs.1 rfl (yrl (P i) hs.2.1 (vp_in_nI (by omega) (by omega)) (by rw [nI_clamp (by omega)]; exact hr0) (yrs hs.2.1 (yW_r hW hs.2.1) (vp_in_nI (by omega) (by omega)) hpi.2.1.1.1 ?_)))
      refine ygr hs.1 rfl (ygr hs.1 rfl (yrl (C i) hs.2.2.1 (vp_in_nI (by omega) (by omega)) ?_ (yrs hs.2.2.1 (yW_r hW hs.2.2.1) (vp_in_nI (by omega) (by omega)) hpi.2.1.2.1 ?_)))
      · rw [ywR_ne _ _ (by omega), nI_clamp (by omega)]
        exact hr1
      · rw [nI_clamp (by omega), ywR_ne _ _ (by omega)]
        have := ih (by omega) he
        rw [← yTm_s (by omega), hr0, hr1] at this
        have e2 : nI (i + 1) + (-1) = nI i := pk_m1 i
        rw [e2]
        exact this
theorem Tr_makePlace_sp (hW : yW Λ) (hT : yTv Λ S t fs) (hlt : fs.length < 10) (hO : yB Λ o capo) (hw : yBv S o capo bs) (hbs : bs.length ≤ 17) (ho : own Λ o ≠ t) (h : ∀ S', yAg Λ S S' t → yTh Λ S' t (insL fs (insP bs fs fs.length) (bs, [])) (insP bs fs fs.length) → post (some (.int (nI (insP bs fs fs.length)))) (yH Λ f0 S')) : xSp xT0 (d + 2) j_Tr_makePlace [.ref t, .ref o] (yH Λ f0 S) post := by
  obtain ⟨hs, P, C, hp, hl, hn, h0, hb⟩ := id hT
  have hpn := hp.1 fs.length hlt
  refine xSp_of (M := m_Tr_makePlace) rfl (b_Tr_makePlace_0 (ygr hs.1 rfl (ygi hs.1 rfl ?_)))
  rw [hn]
  refine yrl (P fs.length) hs.2.1 (vp_in_nI hlt (by omega)) (by rw [nI_clamp (by omega)]; exact hpn.1.1) (ygr hs.1 rfl (ygi hs.1 rfl ?_))
  rw [hn]
  refine yrl (C fs.length) hs.2.2.1 (vp_in_nI hlt (by omega)) (by rw [nI_clamp (by omega)]; exact hpn.1.2) (ygi hs.1 rfl ?_)
  rw [hn]
  have := Tr_makePlace_loop (d := d) (f0 := f0) hW hT hlt hO hw hbs ho hp hb h fs.length (Nat.le_refl _) rfl
  rw [yTm_n] at this
  exact this
end
