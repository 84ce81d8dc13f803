/-! 7c PatchChains: the other calls -/
def wC (B : Ab) (cl : List (Nat × Nat)) : Ab := (B.1, B.2.1, B.2.2.1, B.2.2.2.1, cl, B.2.2.2.2.2)
def wD (B : Ab) (D : Dv) : Ab := (B.1, B.2.1, B.2.2.1, B.2.2.2.1, B.2.2.2.2.1, D)
def a_patch (B : Ab) (a b : Int32) : Ab × Int32 := match tIx (aT B).length a with
  | none => (B, -1)
  | some i => match tIx (aT B).length b with
    | none => (B, -1)
    | some j => if (aP B).length < 8 then (wP B (aP B ++ [stV (difX ((aT B).getD i []) ((aT B).getD j []))]), nI (aP B).length) else (B, -3)
def a_step (B : Ab) (p i w : Int32) : Int32 := match tIx (aP B).length p with
  | none => -1
  | some p' => if w = 9 then nI ((aP B).getD p' []).length else match tIx ((aP B).getD p' []).length i with
    | none => -1
    | some k => tellS (((aP B).getD p' []).getD k sv0) w
def a_stepByte (B : Ab) (p i w k : Int32) : Int32 := match tIx (aP B).length p with
  | none => -1
  | some p' => match tIx ((aP B).getD p' []).length i with
    | none => -1
    | some j => if w = 0 then bAt (((aP B).getD p' []).getD j sv0).2.1 k else if w = 1 then bAt (((aP B).getD p' []).getD j sv0).2.2.1 k else -1
def stI (zs : List Int32) (x : Int32) : Nat := fstI (fun k => stP zs k && decide (x = nI (cntP zs k))) zs.length
def enI (zs : List Int32) (s : Nat) : Nat := s + 1 + fstI (fun i => stP zs (s + 1 + i)) (zs.length - (s + 1))
def pcT (zs : List Int32) (x y : Int32) : Int32 := if stI zs x < zs.length then tellV zs (stI zs x) (enI zs (stI zs x)) y else -1
def a_piece (B : Ab) (p i w j k : Int32) : Int32 := match tIx (aP B).length p with
  | none => -1
  | some p' => match tIx ((aP B).getD p' []).length i with
    | none => -1
    | some s => if w = 0 then pcT (((aP B).getD p' []).getD s sv0).2.2.2.2.2.2.2.1 j k else if w = 1 then pcT (((aP B).getD p' []).getD s sv0).2.2.2.2.2.2.2.2 j k else -1
def a_apply (B : Ab) (p t : Int32) (st : Bool) : Ab × Int32 := match tIx (aP B).length p with
  | none => (B, -1)
  | some p' => match tIx (aT B).length t with
    | none => (B, -1)
    | some t' => if (aT B).length < 12 then (if runR ((aP B).getD p' []) ((aT B).getD t' []) st = 0 then (wT (wC B (runA ((aP B).getD p' []) ((aT B).getD t' []) st).2.1) (aT B ++ [runT ((aP B).getD p' []) ((aT B).getD t' []) st]), nI (aT B).length) else (wC B (runA ((aP B).getD p' []) ((aT B).getD t' []) st).2.1, -10 - nI (runR ((aP B).getD p' []) ((aT B).getD t' []) st))) else (B, -3)
def a_conflict (B : Ab) (i w : Int32) : Int32 := tellC B.2.2.2.2.1 i w
def a_inverse (B : Ab) (p : Int32) : Ab × Int32 := match tIx (aP B).length p with
  | none => (B, -1)
  | some p' => if (aP B).length < 8 then (wP B (aP B ++ [invP ((aP B).getD p' [])]), nI (aP B).length) else (B, -3)
def a_chain (B : Ab) (p q : Int32) : Ab × Int32 := match tIx (aP B).length p with
  | none => (B, -1)
  | some p' => match tIx (aP B).length q with
    | none => (B, -1)
    | some q' => if (aP B).length < 8 then (if cruA ((aP B).getD p' []) ((aP B).getD q' []) = 0 then (match jn2 ((aP B).getD p' []) ((aP B).getD q' []) ((aP B).getD q' []).length with
      | none => (B, -3)
      | some rs => (wP B (aP B ++ [rs]), nI (aP B).length)) else (B, -10 - nI (cruA ((aP B).getD p' []) ((aP B).getD q' [])))) else (B, -3)
def a_power (B : Ab) (n : Int32) : Ab × Int32 := if n < -1 ∨ ¬ n ≤ 40 then (B, -1) else if (aD B).2.2.2.2.2 = true then (B, -4) else (wD B (pwD (aD B) n), 1)
def a_install (B : Ab) (t : Int32) : Ab × Int32 := match tIx (aT B).length t with
  | none => (B, -1)
  | some i => (wD B (wrA ((aT B).getD i []) (aD B)).1, (wrA ((aT B).getD i []) (aD B)).2)
def a_opn (B : Ab) : Ab × Int32 := if (aT B).length < 12 then (wT (wD B (rdD (aD B))) (aT B ++ [rdT (aD B)]), nI (aT B).length) else (B, -3)
def a_slot (B : Ab) (i w : Int32) : Int32 := tlS (aD B) i w
def a_count (B : Ab) (w : Int32) : Int32 := if w = 0 then nI (aT B).length else if w = 1 then nI (aP B).length else if w = 2 then nI B.1.length else if w = 3 then nI B.2.1.length else if w = 4 then nI (dL (aD B)).length else if w = 5 then (aD B).2.2.2.2.1 else if w = 6 then bI (aD B).2.2.2.2.2 else if w = 7 then nI (aD B).2.2.1 else -1
theorem nI_subN {a b : Nat} (h : b ≤ a) : nI a - nI b = nI (a - b) := by
  have e : nI a = nI (a - b) + nI b := by rw [nI_add, Nat.sub_add_cancel h]
  rw [e, Int32.add_sub_cancel]
theorem rnA_le (vs : List Sv) (fs : List Fl) (st : Bool) : ∀ n G cl, (rnA vs fs st n G cl).2.2 ≤ 4
  | 0, G, cl => by show 0 ≤ 4; omega
  | n + 1, G, cl => by
    unfold rnA
    split
    · split
      · exact rulA_le _ _ _ _
      · exact rnA_le vs fs st n _ _
    · show 0 ≤ 4; omega
theorem runR_le (vs : List Sv) (fs : List Fl) (st : Bool) : runR vs fs st ≤ 5 := by
  have := rnA_le vs fs st vs.length (fun _ => true) []
  unfold runR
  split
  · split <;> omega
  · show (rnA vs fs st vs.length (fun _ => true) []).2.2 ≤ 5
    omega
section
variable {Λ : yL} {f0 : xH} {S S' : yS} {x d o : Nat} {T P C Lx Q : Nat → Nat} {PL : Nat → Nat → Nat} {B : Ab} {fs : List Fl} {vs : List Sv} {bs cs : List Nat} {zs : List Int32} {a b c e g y : Int32} {E0 : yS × Nat} {post : Option Value → xH → Prop}
theorem X_feed (h : yQ Λ E0 S x T P C Lx PL B) (hp : ∀ S', yQ Λ E0 S' x T P C Lx PL (a_feed B a b c e g).1 → post (some (.int (a_feed B a b c e g).2)) (yH Λ f0 S')) : xSp xT0 (d + 8) j_PC_feed [.ref x, .int a, .int b, .int c, .int e, .int g] (yH Λ f0 S) post := by
  obtain ⟨hB0, c0⟩ := h.1.2.2.1
  have hv0 := h.2.1.1
  have hl0 := hv0.1
  have ho := Q_o h
  have hW := h.1.1
  unfold a_feed at hp
  refine xSp_of (M := m_PC_feed) rfl (b_PC_feed_0 (ygr ho rfl ⟨yex hB0.1, By_size_sp hB0 hv0 (xviI ?_)⟩))
  have e20 : nI B.1.length + 20 = nI (B.1.length + 20) := nI_add _ 20
  rw [e20]
  refine brle (b := 80) (by omega) (by omega) (fun c1 => ?_) (fun c1 => ?_)
  · rw [if_neg (by omega)] at hp
    have l4 : ∀ z : Int32, (be4 z).length = 4 := fun _ => rfl
    refine ygr ho rfl ⟨yex hB0.1, By_addNumber_sp hW hB0 hv0 (by omega) (fun g1 w1 v1 => xvvI (ygr ho rfl ⟨yex hB0.1, By_addNumber_sp hW hB0 v1 (by rw [List.length_append, l4]; omega) (fun g2 w2 v2 => xvvI (ygr ho rfl ⟨yex hB0.1, By_addNumber_sp hW hB0 v2 (by rw [List.length_append, List.length_append, l4, l4]; omega) (fun g3 w3 v3 => xvvI (ygr ho rfl ⟨yex hB0.1, By_addNumber_sp hW hB0 v3 (by rw [List.length_append, List.length_append, List.length_append, l4, l4, l4]; omega) (fun g4 w4 v4 => xvvI (ygr ho rfl ⟨yex hB0.1, By_addNumber_sp hW hB0 v4 (by rw [List.length_append, List.length_append, List.length_append, List.length_append, l4, l4, l4, l4]; omega) (fun g5 w5 v5 => xvvI (ygr ho rfl ⟨yex hB0.1, By_size_sp hB0 v5 (xviI ?_)⟩))⟩))⟩))⟩))⟩))⟩
    have el : (B.1 ++ be4 a ++ be4 b ++ be4 c ++ be4 e ++ be4 g).length = B.1.length + 20 := by simp only [List.length_append, l4]
    rw [el]
    have hq : ∀ {s : yS} {gg : Nat → Int32} {w : Int32}, yFr (fun c a => c = 1 ∧ (a = xq0 Λ x ∨ a = xq1 Λ x)) s (yBw s (xq0 Λ x) gg w) := fun {s gg w} => yFr_Bw ⟨rfl, Or.inl rfl⟩
    have n01 : xq1 Λ x ≠ xq0 Λ x := fun z => h.1.2.2.2.2.1 z.symm
    exact hp _ (yQ_B h (yFr_tr (yFr_tr (yFr_tr (yFr_tr hq hq) hq) hq) hq) ⟨v5, yBv_w n01 (yBv_w n01 (yBv_w n01 (yBv_w n01 (yBv_w n01 h.2.1.2))))⟩)
  · rw [if_pos (by omega)] at hp
    exact hp S h
theorem X_end (h : yQ Λ E0 S x T P C Lx PL B) (hp : ∀ S', yQ Λ E0 S' x T P C Lx PL (a_end B a).1 → post (some (.int (a_end B a).2)) (yH Λ f0 S')) : xSp xT0 (d + 8) j_PC_end [.ref x, .int a] (yH Λ f0 S) post := by
  obtain ⟨hB0, c0⟩ := h.1.2.2.1
  have hv0 := h.2.1.1
  have hl0 := hv0.1
  have ho := Q_o h
  have n01 : xq1 Λ x ≠ xq0 Λ x := fun z => h.1.2.2.2.2.1 z.symm
  unfold a_end at hp
  refine xSp_of (M := m_PC_end) rfl (b_PC_end_0 ?_)
  rcases tIx_c 21 (by omega) a with ⟨q, q2⟩ | ⟨k, hk, e, e2⟩
  · rw [q] at hp
    refine ⟨fun _ => hp S h, fun c1 => ⟨fun _ => hp S h, fun c2 => absurd q2 ?_⟩⟩
    rintro (z | z)
    · exact c1 z
    · refine c2 (Int32.lt_of_lt_of_le ?_ z)
      decide
  · subst e
    rw [e2] at hp
    dsimp only at hp
    refine ⟨fun z => absurd z (nI_pos (by omega)), fun _ => brlt (a := 20) (by omega) (by omega) (fun z => absurd z (by omega)) (fun _ => ygr ho rfl ⟨yex hB0.1, By_size_sp hB0 hv0 (xviI (brle (a := 20) (by omega) (by omega) (fun c1 => ygr ho rfl (ygr ho rfl ⟨yex hB0.1, By_size_sp hB0 hv0 (xviI ⟨yex hB0.1, ?_⟩)⟩)) (fun c1 => ?_)))⟩)⟩
    · rw [if_neg (by omega)] at hp
      have ek : (nI B.1.length - 20) + nI k = nI (B.1.length - 20 + k) := by
        have : nI B.1.length - 20 = nI (B.1.length - 20) := nI_subN c1
        rw [this, nI_add]
      rw [ek]
      refine By_cutTo_sp hB0 hv0 (fun j hj ej => xvvI ?_) (fun z => xvvI ?_)
      · have ej2 : B.1.length - 20 + k = j := (nI_eq (by omega) (by omega)).mp ej
        have hv1 := yBv_t (k := j) hv0 (by omega)
        refine ygr ho rfl ⟨yex hB0.1, By_size_sp hB0 hv1 (xviI ?_)⟩
        rw [List.length_take, show min j B.1.length = j by omega]
        rw [ej2] at hp
        exact hp _ (yQ_B h (yFr_wI ⟨rfl, Or.inl rfl⟩) ⟨hv1, by rw [yBw_e]; exact yBv_w n01 h.2.1.2⟩)
      · have hge : B.1.length ≤ B.1.length - 20 + k := by
          rcases z with z | z
          · exact absurd z (nI_pos (by omega))
          · exact (leI (by omega) (by omega)).mp z
        have e3 : B.1.length - 20 + k = B.1.length := by omega
        refine ygr ho rfl ⟨yex hB0.1, By_size_sp hB0 hv0 (xviI ?_)⟩
        rw [e3, List.take_length] at hp
        exact hp S h
    · rw [if_pos (by omega)] at hp
      exact hp S h
theorem X_path (h : yQ Λ E0 S x T P C Lx PL B) (hp : ∀ S', yQ Λ E0 S' x T P C Lx PL (a_path B).1 → post (some (.int (a_path B).2)) (yH Λ f0 S')) : xSp xT0 (d + 8) j_PC_path [.ref x] (yH Λ f0 S) post := by
  obtain ⟨hB0, c0⟩ := h.1.2.2.1
  obtain ⟨hB1, c1⟩ := h.1.2.2.2.1
  have hv0 := h.2.1.1
  have hl0 := hv0.1
  have ho := Q_o h
  have n01 : xq1 Λ x ≠ xq0 Λ x := fun z => h.1.2.2.2.2.1 z.symm
  have h3 : nmB B.1 ≤ 3 := nm_le B.1 1 0 (by omega)
  unfold a_path at hp
  refine xSp_of (M := m_PC_path) rfl (b_PC_path_0 (ygr ho rfl ⟨yex hB0.1, By_names_sp hB0 hv0 (xviI (brle (b := 0) (by omega) (by omega) (fun c => ?_) (fun c => ygr ho rfl (ygr ho rfl ⟨yex hB1.1, By_copyOf_sp h.1.1 hB1 hB0 h.1.2.2.2.2.1 hv0 (nmB_len c) (fun gg hg => xvvI ?_)⟩))))⟩))
  · rw [if_neg (by omega)] at hp
    refine b_PC_path_23 (ygr ho rfl ⟨yex hB0.1, By_empty_sp hB0 (xvvI (brle (b := 0) (by omega) (by omega) (fun _ => ?_) (fun z => absurd z (by omega))))⟩)
    exact hp _ (yQ_B h (yFr_wI ⟨rfl, Or.inl rfl⟩) ⟨yBv_e, by rw [yBw_e]; exact yBv_w n01 h.2.1.2⟩)
  · rw [if_pos c] at hp
    refine b_PC_path_23 (ygr ho rfl ⟨yex hB0.1, By_empty_sp hB0 (xvvI (brle (b := 0) (by omega) (by omega) (fun z => absurd z (by omega)) (fun _ => ?_)))⟩)
    exact hp _ (yQ_B h (yFr_tr (yFr_Bw ⟨rfl, Or.inr rfl⟩) (yFr_wI ⟨rfl, Or.inl rfl⟩)) ⟨yBv_e, by rw [yBw_e]; exact yBv_w n01 hg⟩)
theorem Q_keepP (h : yQ Λ E0 S x T P C Lx PL B) (hl : (aP B).length < 8) {S1 : yS} (k : yFr (AD Λ (P (aP B).length)) S S1) (hD : yDl Λ S1 (xq4 Λ x)) (hP : yPq Λ S1 (P (aP B).length) vs Q) (hp : ∀ S', yQ Λ E0 S' x T P C Lx PL (wP B (aP B ++ [vs])) → post (some (.int (nI (aP B).length))) (yH Λ f0 S')) : (∃ gs, yH Λ f0 S1 x = some (xO 0 gs)) ∧ xSp xT0 (d + 1) j_PC_keepPatch [.ref x] (yH Λ f0 S1) (fun w9 f10 => xvi w9 (fun v11 => post (some (.int v11)) f10)) := by
  have h1 := yQ_P h hl k hD hP
  have e : (B.1, B.2.1, B.2.2.1, (aP B).set (aP B).length vs, B.2.2.2.2) = B := by rw [setO (Nat.le_refl _)]
  have h1 : yQ Λ E0 S1 x T P C Lx PL B := by rw [← e]; exact h1
  exact ⟨yex (Q_o h), PC_keepPatch_sp h1 hl hP (fun S2 h2 => hp S2 h2)⟩
theorem X_patch (h : yQ Λ E0 S x T P C Lx PL B) (hp : ∀ S', yQ Λ E0 S' x T P C Lx PL (a_patch B a b).1 → post (some (.int (a_patch B a b).2)) (yH Λ f0 S')) : xSp xT0 (d + 8) j_PC_patch [.ref x, .int a, .int b] (yH Λ f0 S) post := by
  have hl := Q_tl h
  have hl8 := Q_pl h
  have ho := Q_o h
  unfold a_patch at hp
  refine xSp_of (M := m_PC_patch) rfl (b_PC_patch_0 ⟨yex ho, PC_isTree_sp h (fun i hi e e2 => xviI ⟨fun z => absurd z (by decide), fun _ => ⟨yex ho, PC_isTree_sp h (fun j hj e3 e4 => xviI ⟨fun _ => ygi ho rfl ?_, fun z => absurd (by decide) z⟩) (fun e3 => xviI ⟨fun z => absurd rfl z, fun _ => ?_⟩)⟩⟩) (fun e => xviI ⟨fun _ => ?_, fun z => absurd rfl z⟩)⟩)
  · subst e; subst e3
    rw [e2, e4] at hp
    dsimp only at hp
    rw [Q_i8 h]
    refine brlt (b := 8) (by omega) (by omega) (fun c => ?_) (fun c => ?_)
    · rw [if_pos c] at hp
      obtain ⟨vs0, Q0, hP0⟩ := (h.2.2.2.1.1 _ c).2
      obtain ⟨hDf, cD⟩ := h.1.2.2.2.2.2.2.1
      refine ygr ho rfl (rdTr h (by omega) (rdTr h (by omega) (rdPc h c ⟨yex hDf.1, Di_difference_sp h.1.1 hDf h.2.2.2.2.1 (yCo_top h.1.2.1 cD) (Q_tt h (by omega)) (Q_tt h (by omega)) (Q_tp h c) (Q_T h hi) (Q_T h hj) hP0 (fun S1 Q1 k1 hD1 hP1 => xvvI (Q_keepP h c k1 hD1 hP1 hp))⟩)))
    · rw [if_neg (by omega)] at hp
      exact hp S h
  · rw [e2, e3] at hp; exact hp S h
  · rw [e] at hp; exact hp S h
theorem X_step (h : yQ Λ E0 S x T P C Lx PL B) (hp : post (some (.int (a_step B a b c))) (yH Λ f0 S)) : xSp xT0 (d + 8) j_PC_step [.ref x, .int a, .int b, .int c] (yH Λ f0 S) post := by
  have hl8 := Q_pl h
  have ho := Q_o h
  unfold a_step at hp
  refine xSp_of (M := m_PC_step) rfl (b_PC_step_0 ⟨yex ho, PC_isPatch_sp h (fun i hi e e2 => xviI ⟨fun _ => ?_, fun z => absurd (by decide) z⟩) (fun e => xviI ⟨fun z => absurd rfl z, fun _ => ?_⟩)⟩)
  · subst e
    rw [e2] at hp
    dsimp only at hp
    obtain ⟨Q0, hP⟩ := Q_P h hi
    have hpl := hP.2.2.2.1
    refine ⟨fun c1 => rdPa h (by omega) ⟨yex hP.1.1, Pa_has_sp hP (fun k hk e => xviI ⟨fun z => absurd z (by decide), fun _ => ?_⟩) (fun e => xviI ⟨fun _ => ?_, fun z => absurd rfl z⟩)⟩, fun c1 => rdPa h (by omega) ⟨yex hP.1.1, Pa_size_sp hP (xviI ?_)⟩⟩
    · subst e
      rw [if_neg c1, tIx_s (by omega) hk] at hp
      have hv := hP.2.2.2.2.2.1 k hk
      exact rdPa h (by omega) ⟨yex hP.1.1, Pa_at_sp hP hk (xvrI ⟨yex hv.1.1, St_tell_sp hv (xviI hp)⟩)⟩
    · rw [if_neg c1, tIx_n e] at hp; exact hp
    · rw [if_pos (Classical.not_not.mp c1)] at hp; exact hp
  · rw [e] at hp; exact hp
theorem X_stepByte (h : yQ Λ E0 S x T P C Lx PL B) (hp : post (some (.int (a_stepByte B a b c e))) (yH Λ f0 S)) : xSp xT0 (d + 8) j_PC_stepByte [.ref x, .int a, .int b, .int c, .int e] (yH Λ f0 S) post := by
  have hl8 := Q_pl h
  have ho := Q_o h
  unfold a_stepByte at hp
  refine xSp_of (M := m_PC_stepByte) rfl (b_PC_stepByte_0 ⟨yex ho, PC_isPatch_sp h (fun i hi e e2 => xviI ⟨fun z => absurd z (by decide), fun _ => ?_⟩) (fun e => xviI ⟨fun _ => ?_, fun z => absurd rfl z⟩)⟩)
  · subst e
    rw [e2] at hp
    dsimp only at hp
    obtain ⟨Q0, hP⟩ := Q_P h hi
    have hpl := hP.2.2.2.1
    refine rdPa h (by omega) ⟨yex hP.1.1, Pa_has_sp hP (fun k hk e => xviI ⟨fun _ => ?_, fun z => absurd (by decide) z⟩) (fun e => xviI ⟨fun z => absurd rfl z, fun _ => ?_⟩)⟩
    · subst e
      rw [tIx_s (by omega) hk] at hp
      dsimp only at hp
      have hv := hP.2.2.2.2.2.1 k hk
      refine ⟨fun c2 => rdPa h (by omega) ⟨yex hP.1.1, Pa_at_sp hP hk (xvrI (ygr hv.1.1 rfl ⟨yex hv.1.2.1.1.1, By_at2 hv.1.2.1.1 hv.2.1.2.1 (xviI ?_)⟩))⟩, fun c2 => ⟨fun c3 => rdPa h (by omega) ⟨yex hP.1.1, Pa_at_sp hP hk (xvrI (ygr hv.1.1 rfl ⟨yex hv.1.2.1.2.1.1, By_at2 hv.1.2.1.2.1 hv.2.1.2.2 (xviI ?_)⟩))⟩, fun c3 => ?_⟩⟩
      · rw [if_pos c2] at hp; exact hp
      · rw [if_neg c2, if_pos c3] at hp; exact hp
      · rw [if_neg c2, if_neg c3] at hp; exact hp
    · rw [tIx_n e] at hp; exact hp
  · rw [e] at hp; exact hp
theorem cntP_lt {zs : List Int32} {s s' : Nat} (h : stP zs s = true) (h2 : s < s') : cntP zs s < cntP zs s' := by
  have h1 : cntP zs (s + 1) = cntP zs s + 1 := by rw [cntP_s, if_pos h]
  have := cntP_mono zs (show s + 1 ≤ s' from h2)
  omega
theorem De_tell2 (hD : yD Λ o) (hz : yDv S o zs) (hp : post (some (.int (pcT zs a b))) (yH Λ f0 S)) : xSp xT0 (d + 3) j_De_tellPiece [.ref o, .int a, .int b] (yH Λ f0 S) post := by
  have hl := hz.1
  unfold pcT at hp
  refine De_tellPiece_sp hD hz (fun s e hs hst hx hse hel hmid hend => ?_) (fun hn => ?_)
  · have e1 : stI zs a = s := by
      refine fstI_eq (Nat.le_of_lt hs) (fun i hi => ?_) (Or.inr ?_)
      · cases hc : stP zs i
        · rfl
        · refine decide_eq_false (fun z => ?_)
          have h1 := cntP_lt hc hi
          have h2 := cntP_le zs s
          have := (nI_eq (a := cntP zs s) (b := cntP zs i) (by omega) (by omega)).mp (hx.symm.trans z)
          omega
      · show (stP zs s && decide (a = nI (cntP zs s))) = true
        rw [hst, decide_eq_true hx]; rfl
    have e2 : enI zs s = e := by
      unfold enI
      have : fstI (fun i => stP zs (s + 1 + i)) (zs.length - (s + 1)) = e - (s + 1) := by
        refine fstI_eq (by omega) (fun i hi => hmid _ (by omega) (by omega)) ?_
        rcases hend with z | z
        · exact Or.inl (by omega)
        · exact Or.inr (by show stP zs (s + 1 + (e - (s + 1))) = true; rw [show s + 1 + (e - (s + 1)) = e by omega]; exact z)
      rw [this]
      omega
    rw [e1, e2, if_pos hs] at hp
    exact hp
  · have e1 : stI zs a = zs.length := by
      refine fstI_eq (Nat.le_refl _) (fun i hi => ?_) (Or.inl rfl)
      cases hc : stP zs i
      · rfl
      · exact decide_eq_false (hn i hi hc)
    rw [e1, if_neg (Nat.lt_irrefl _)] at hp
    exact hp
theorem X_piece (h : yQ Λ E0 S x T P C Lx PL B) (hp : post (some (.int (a_piece B a b c e g))) (yH Λ f0 S)) : xSp xT0 (d + 8) j_PC_piece [.ref x, .int a, .int b, .int c, .int e, .int g] (yH Λ f0 S) post := by
  have hl8 := Q_pl h
  have ho := Q_o h
  unfold a_piece at hp
  refine xSp_of (M := m_PC_piece) rfl (b_PC_piece_0 ⟨yex ho, PC_isPatch_sp h (fun i hi e e2 => xviI ⟨fun z => absurd z (by decide), fun _ => ?_⟩) (fun e => xviI ⟨fun _ => ?_, fun z => absurd rfl z⟩)⟩)
  · subst e
    rw [e2] at hp
    dsimp only at hp
    obtain ⟨Q0, hP⟩ := Q_P h hi
    have hpl := hP.2.2.2.1
    refine rdPa h (by omega) ⟨yex hP.1.1, Pa_has_sp hP (fun k hk e => xviI ⟨fun _ => ?_, fun z => absurd (by decide) z⟩) (fun e => xviI ⟨fun z => absurd rfl z, fun _ => ?_⟩)⟩
    · subst e
      rw [tIx_s (by omega) hk] at hp
      dsimp only at hp
      have hv := hP.2.2.2.2.2.1 k hk
      refine ⟨fun c2 => rdPa h (by omega) ⟨yex hP.1.1, Pa_at_sp hP hk (xvrI (ygr hv.1.1 rfl ⟨yex hv.1.2.1.2.2.1.1, De_tell2 hv.1.2.1.2.2.1 hv.2.2.2.1 (xviI ?_)⟩))⟩, fun c2 => ⟨fun c3 => rdPa h (by omega) ⟨yex hP.1.1, Pa_at_sp hP hk (xvrI (ygr hv.1.1 rfl ⟨yex hv.1.2.1.2.2.2.1, De_tell2 hv.1.2.1.2.2.2 hv.2.2.2.2 (xviI ?_)⟩))⟩, fun c3 => ?_⟩⟩
      · rw [if_pos c2] at hp; exact hp
      · rw [if_neg c2, if_pos c3] at hp; exact hp
      · rw [if_neg c2, if_neg c3] at hp; exact hp
    · rw [tIx_n e] at hp; exact hp
  · rw [e] at hp; exact hp
theorem X_apply (h : yQ Λ E0 S x T P C Lx PL B) {st : Bool} (hp : ∀ S', yQ Λ E0 S' x T P C Lx PL (a_apply B a b st).1 → post (some (.int (a_apply B a b st).2)) (yH Λ f0 S')) : xSp xT0 (d + 8) j_PC_apply [.ref x, .int a, .int b, .int (bI st)] (yH Λ f0 S) post := by
  have hl := Q_tl h
  have hl8 := Q_pl h
  have ho := Q_o h
  unfold a_apply at hp
  refine xSp_of (M := m_PC_apply) rfl (b_PC_apply_0 ⟨yex ho, PC_isPatch_sp h (fun i hi e e2 => xviI ⟨fun z => absurd z (by decide), fun _ => ⟨yex ho, PC_isTree_sp h (fun j hj e3 e4 => xviI ⟨fun _ => ygi ho rfl ?_, fun z => absurd (by decide) z⟩) (fun e3 => xviI ⟨fun z => absurd rfl z, fun _ => ?_⟩)⟩⟩) (fun e => xviI ⟨fun _ => ?_, fun z => absurd rfl z⟩)⟩)
  · subst e; subst e3
    rw [e2, e4] at hp
    dsimp only at hp
    rw [Q_i7 h]
    refine brlt (b := 12) (by omega) (by omega) (fun c => ?_) (fun c => ?_)
    · rw [if_pos c] at hp
      obtain ⟨gs, hU⟩ := (h.2.2.1.1 _ c).2
      obtain ⟨Q0, hP⟩ := Q_P h hi
      obtain ⟨hA, cA⟩ := h.1.2.2.2.2.2.2.2.1
      have hne : T j ≠ T (aT B).length := fun z => by
        have := h.1.2.2.2.2.2.2.2.2.2.2.1 j _ (by omega) c z
        omega
      have hr5 := runR_le ((aP B).getD i []) ((aT B).getD j []) st
      refine ygr ho rfl (rdPa h (by omega) (rdTr h (by omega) (rdTc h c ⟨yex hA.1, Ap_run_sp h.1.1 hA (yCo_top h.1.2.1 cA) (Q_tt h c) (Q_tt h (by omega)) (Q_tp h (by omega)) hne (Q_T h hj) hP hU (fun S1 hs k1 hC1 hU1 he => xviI ?_)⟩)))
      have h1 := yQ_A h c k1 hU1 hC1
      have e : (B.1, B.2.1, (aT B).set (aT B).length hs, B.2.2.2.1, (runA ((aP B).getD i []) ((aT B).getD j []) st).2.1, B.2.2.2.2.2) = wC B (runA ((aP B).getD i []) ((aT B).getD j []) st).2.1 := by rw [setO (Nat.le_refl _)]; rfl
      have h1 : yQ Λ E0 S1 x T P C Lx PL (wC B (runA ((aP B).getD i []) ((aT B).getD j []) st).2.1) := by rw [← e]; exact h1
      refine brne (b := 0) (by omega) (by omega) (fun c2 => ?_) (fun c2 => ⟨yex ho, ?_⟩)
      · rw [if_neg c2] at hp
        exact hp S1 h1
      · rw [if_pos c2] at hp
        rw [he c2] at hU1
        exact PC_keepTree_sp h1 c hU1 (fun S2 h2 => xviI (hp S2 h2))
    · rw [if_neg (by omega)] at hp
      exact hp S h
  · rw [e2, e3] at hp; exact hp S h
  · rw [e] at hp; exact hp S h
theorem X_conflict (h : yQ Λ E0 S x T P C Lx PL B) (hp : post (some (.int (a_conflict B a b))) (yH Λ f0 S)) : xSp xT0 (d + 8) j_PC_conflict [.ref x, .int a, .int b] (yH Λ f0 S) post := by
  obtain ⟨hA, cA⟩ := h.1.2.2.2.2.2.2.2.1
  exact xSp_of (M := m_PC_conflict) rfl (b_PC_conflict_0 (ygr (Q_o h) rfl ⟨yex hA.1, Ap_tellConflict_sp hA h.2.2.2.2.2.1 (xviI hp)⟩))
theorem X_inverse (h : yQ Λ E0 S x T P C Lx PL B) (hp : ∀ S', yQ Λ E0 S' x T P C Lx PL (a_inverse B a).1 → post (some (.int (a_inverse B a).2)) (yH Λ f0 S')) : xSp xT0 (d + 8) j_PC_inverse [.ref x, .int a] (yH Λ f0 S) post := by
  have hl8 := Q_pl h
  have ho := Q_o h
  unfold a_inverse at hp
  refine xSp_of (M := m_PC_inverse) rfl (b_PC_inverse_0 ⟨yex ho, PC_isPatch_sp h (fun i hi e e2 => xviI ⟨fun _ => ygi ho rfl ?_, fun z => absurd (by decide) z⟩) (fun e => xviI ⟨fun z => absurd rfl z, fun _ => ?_⟩)⟩)
  · subst e
    rw [e2] at hp
    dsimp only at hp
    rw [Q_i8 h]
    refine brlt (b := 8) (by omega) (by omega) (fun c => ?_) (fun c => ?_)
    · rw [if_pos c] at hp
      obtain ⟨vs0, Q0, hP0⟩ := (h.2.2.2.1.1 _ c).2
      obtain ⟨Q1, hP1⟩ := Q_P h hi
      have hne : P i ≠ P (aP B).length := fun z => by
        have := h.1.2.2.2.2.2.2.2.2.2.2.2.2 i _ (by omega) c z
        omega
      refine rdPc h c (rdPa h (by omega) ⟨yex hP0.1.1, Pa_inverseOf_sp h.1.1 hP0 hP1 hne (Q_tp h c) (Q_tp h (by omega)) (fun S1 Q2 k1 hP2 => xvvI (Q_keepP h c (yFr_mo k1 (fun _ _ z => Or.inr z)) (Dl_AP h.1 c k1 h.2.2.2.2.1) hP2 hp))⟩)
    · rw [if_neg (by omega)] at hp
      exact hp S h
  · rw [e] at hp; exact hp S h
theorem X_chain (h : yQ Λ E0 S x T P C Lx PL B) (hp : ∀ S', yQ Λ E0 S' x T P C Lx PL (a_chain B a b).1 → post (some (.int (a_chain B a b).2)) (yH Λ f0 S')) : xSp xT0 (d + 8) j_PC_chain [.ref x, .int a, .int b] (yH Λ f0 S) post := by
  have hl8 := Q_pl h
  have ho := Q_o h
  unfold a_chain at hp
  refine xSp_of (M := m_PC_chain) rfl (b_PC_chain_0 ⟨yex ho, PC_isPatch_sp h (fun i hi e e2 => xviI ⟨fun z => absurd z (by decide), fun _ => ⟨yex ho, PC_isPatch_sp h (fun j hj e3 e4 => xviI ⟨fun _ => ygi ho rfl ?_, fun z => absurd (by decide) z⟩) (fun e3 => xviI ⟨fun z => absurd rfl z, fun _ => ?_⟩)⟩⟩) (fun e => xviI ⟨fun _ => ?_, fun z => absurd rfl z⟩)⟩)
  · subst e; subst e3
    rw [e2, e4] at hp
    dsimp only at hp
    rw [Q_i8 h]
    refine brlt (b := 8) (by omega) (by omega) (fun c => ?_) (fun c => ?_)
    · rw [if_pos c] at hp
      obtain ⟨vs0, Q0, hP0⟩ := (h.2.2.2.1.1 _ c).2
      obtain ⟨Q1, hP1⟩ := Q_P h hi
      obtain ⟨Q2, hP2⟩ := Q_P h hj
      have hne : ∀ {k}, k < (aP B).length → P k ≠ P (aP B).length := fun {k} hk z => by
        have := h.1.2.2.2.2.2.2.2.2.2.2.2.2 k _ (by omega) c z
        omega
      have hr : cruA ((aP B).getD i []) ((aP B).getD j []) ≤ 3 := by
        unfold cruA
        split
        · exact cruB_le _ _ _
        · omega
      refine rdPa h (by omega) (rdPa h (by omega) (Jo_ruleBroken_sp hP1 hP2 (xviI (breq (b := 0) (by omega) (by omega) (fun c2 => ?_) (fun c2 => ?_)))))
      · rw [if_pos c2] at hp
        refine rdPa h (by omega) (rdPa h (by omega) (rdPc h c (Jo_join_sp h.1.1 (Q_tp h (by omega)) (Q_tp h (by omega)) (Q_tp h c) hP1 hP2 hP0 (hne hi) (hne hj) (fun S1 rs Q3 e5 k1 hP3 => xviI ⟨fun z => absurd z (by decide), fun _ => ?_⟩) (fun S1 rs Q3 e5 k1 hP3 => xviI ⟨fun _ => ?_, fun z => absurd rfl z⟩))))
        · rw [e5] at hp
          exact Q_keepP h c (yFr_mo k1 (fun _ _ z => Or.inr z)) (Dl_AP h.1 c k1 h.2.2.2.2.1) hP3 hp
        · rw [e5] at hp
          have h1 := yQ_P h c (yFr_mo k1 (fun _ _ z => Or.inr z)) (Dl_AP h.1 c k1 h.2.2.2.2.1) hP3
          have e : (B.1, B.2.1, B.2.2.1, (aP B).set (aP B).length rs, B.2.2.2.2) = B := by rw [setO (Nat.le_refl _)]
          have h1 : yQ Λ E0 S1 x T P C Lx PL B := by rw [← e]; exact h1
          exact hp S1 h1
      · rw [if_neg c2] at hp
        exact hp S h
    · rw [if_neg (by omega)] at hp
      exact hp S h
  · rw [e2, e3] at hp; exact hp S h
  · rw [e] at hp; exact hp S h
theorem X_power (h : yQ Λ E0 S x T P C Lx PL B) (hp : ∀ S', yQ Λ E0 S' x T P C Lx PL (a_power B a).1 → post (some (.int (a_power B a).2)) (yH Λ f0 S')) : xSp xT0 (d + 8) j_PC_power [.ref x, .int a] (yH Λ f0 S) post := by
  have ho := Q_o h
  have hK := h.2.2.2.2.2.2.1
  unfold a_power at hp
  refine xSp_of (M := m_PC_power) rfl (b_PC_power_0 ⟨fun c => ?_, fun c => ⟨fun c2 => ygr ho rfl ⟨yex hK.1.1.1, Dk_setPower_sp hK (fun q S1 k1 hK1 => xviI ?_) (fun q => xviI ?_)⟩, fun c2 => ?_⟩⟩)
  · rw [if_pos (Or.inl c)] at hp; exact hp S h
  · rw [if_neg (fun z => z.elim c (fun z => z c2)), if_neg (by rw [q]; decide)] at hp
    exact hp S1 (yQ_K h k1 hK1)
  · rw [if_neg (fun z => z.elim c (fun z => z c2)), if_pos q] at hp
    exact hp S h
  · rw [if_pos (Or.inr c2)] at hp; exact hp S h
theorem X_install (h : yQ Λ E0 S x T P C Lx PL B) (hp : ∀ S', yQ Λ E0 S' x T P C Lx PL (a_install B a).1 → post (some (.int (a_install B a).2)) (yH Λ f0 S')) : xSp xT0 (d + 8) j_PC_install [.ref x, .int a] (yH Λ f0 S) post := by
  have hl := Q_tl h
  have ho := Q_o h
  have hK := h.2.2.2.2.2.2.1
  unfold a_install at hp
  refine xSp_of (M := m_PC_install) rfl (b_PC_install_0 ⟨yex ho, PC_isTree_sp h (fun i hi e e2 => xviI ⟨fun z => absurd z (by decide), fun _ => ?_⟩) (fun e => xviI ⟨fun _ => ?_, fun z => absurd rfl z⟩)⟩)
  · subst e
    rw [e2] at hp
    exact ygr ho rfl (rdTr h (by omega) ⟨yex hK.1.1.1, Dk_write_sp h.1.1 (yCo_top h.1.2.1 h.1.2.2.2.2.2.2.2.2.1.2) (Q_tt h (by omega)) hK (Q_T h hi) (fun S1 k1 hK1 => xviI (hp S1 (yQ_K h k1 hK1)))⟩)
  · rw [e] at hp; exact hp S h
theorem X_opn (h : yQ Λ E0 S x T P C Lx PL B) (hp : ∀ S', yQ Λ E0 S' x T P C Lx PL (a_opn B).1 → post (some (.int (a_opn B).2)) (yH Λ f0 S')) : xSp xT0 (d + 8) j_PC_open [.ref x] (yH Λ f0 S) post := by
  have hl := Q_tl h
  have ho := Q_o h
  have hK := h.2.2.2.2.2.2.1
  unfold a_opn at hp
  refine xSp_of (M := m_PC_open) rfl (b_PC_open_0 (ygi ho rfl ?_))
  rw [Q_i7 h]
  refine brlt (b := 12) (by omega) (by omega) (fun c => ?_) (fun c => ?_)
  · rw [if_pos c] at hp
    obtain ⟨gs, hU⟩ := (h.2.2.1.1 _ c).2
    refine ygr ho rfl (rdTc h c ⟨yex hK.1.1.1, Dk_read_sp h.1.1 (yCo_top h.1.2.1 h.1.2.2.2.2.2.2.2.2.1.2) (Q_tt h c) hK hU (fun S1 k1 hK1 hU1 => xvvI ⟨yex ho, ?_⟩)⟩)
    have h1 := yQ_O h c k1 hU1 hK1
    have e : (B.1, B.2.1, (aT B).set (aT B).length (rdT (aD B)), B.2.2.2.1, B.2.2.2.2.1, rdD (aD B)) = wD B (rdD (aD B)) := by rw [setO (Nat.le_refl _)]; rfl
    have h1 : yQ Λ E0 S1 x T P C Lx PL (wD B (rdD (aD B))) := by rw [← e]; exact h1
    exact PC_keepTree_sp h1 c hU1 (fun S2 h2 => xviI (hp S2 h2))
  · rw [if_neg (by omega)] at hp
    exact hp S h
theorem X_slot (h : yQ Λ E0 S x T P C Lx PL B) (hp : post (some (.int (a_slot B a b))) (yH Λ f0 S)) : xSp xT0 (d + 8) j_PC_slot [.ref x, .int a, .int b] (yH Λ f0 S) post := by
  have hK := h.2.2.2.2.2.2.1
  exact xSp_of (M := m_PC_slot) rfl (b_PC_slot_0 (ygr (Q_o h) rfl ⟨yex hK.1.1.1, Dk_tellSlot_sp hK (xviI hp)⟩))
theorem X_count (h : yQ Λ E0 S x T P C Lx PL B) (hp : post (some (.int (a_count B a))) (yH Λ f0 S)) : xSp xT0 (d + 8) j_PC_count [.ref x, .int a] (yH Λ f0 S) post := by
  have ho := Q_o h
  have hK := h.2.2.2.2.2.2.1
  obtain ⟨hB0, c0⟩ := h.1.2.2.1
  obtain ⟨hB1, c1⟩ := h.1.2.2.2.1
  unfold a_count at hp
  refine xSp_of (M := m_PC_count) rfl (b_PC_count_0 ⟨fun n0 => ygi ho rfl ?_, fun n0 => ⟨fun n1 => ygi ho rfl ?_, fun n1 => ⟨fun n2 => ygr ho rfl ⟨yex hB0.1, By_size_sp hB0 h.2.1.1 (xviI ?_)⟩, fun n2 => ⟨fun n3 => ygr ho rfl ⟨yex hB1.1, By_size_sp hB1 h.2.1.2 (xviI ?_)⟩, fun n3 => ⟨fun n4 => ygr ho rfl ⟨yex hK.1.1.1, Dk_listed_sp hK (xviI ?_)⟩, fun n4 => ⟨fun n5 => ygr ho rfl ⟨yex hK.1.1.1, Dk_writings_sp hK (xviI ?_)⟩, fun n5 => ⟨fun n6 => ygr ho rfl ⟨yex hK.1.1.1, Dk_isDown_sp hK (xviI (brB (fun q => ?_) (fun q => ?_)))⟩, fun n6 => ⟨fun n7 => ygr ho rfl ⟨yex hK.1.1.1, Dk_counting_sp hK (xviI ?_)⟩, fun n7 => ?_⟩⟩⟩⟩⟩⟩⟩⟩)
  · rw [if_pos n0] at hp; rw [Q_i7 h]; exact hp
  · rw [if_neg n0, if_pos n1] at hp; rw [Q_i8 h]; exact hp
  · rw [if_neg n0, if_neg n1, if_pos n2] at hp; exact hp
  · rw [if_neg n0, if_neg n1, if_neg n2, if_pos n3] at hp; exact hp
  · rw [if_neg n0, if_neg n1, if_neg n2, if_neg n3, if_pos n4] at hp; exact hp
  · rw [if_neg n0, if_neg n1, if_neg n2, if_neg n3, if_neg n4, if_pos n5] at hp; exact hp
  · rw [if_neg n0, if_neg n1, if_neg n2, if_neg n3, if_neg n4, if_neg n5, if_pos n6, q] at hp; exact hp
  · rw [if_neg n0, if_neg n1, if_neg n2, if_neg n3, if_neg n4, if_neg n5, if_pos n6, q] at hp; exact hp
  · rw [if_neg n0, if_neg n1, if_neg n2, if_neg n3, if_neg n4, if_neg n5, if_neg n6, if_pos n7] at hp; exact hp
  · rw [if_neg n0, if_neg n1, if_neg n2, if_neg n3, if_neg n4, if_neg n5, if_neg n6, if_neg n7] at hp; exact hp
end
