/-! 7b PatchChains: the calls, in words of lists; tape, path, trees -/
def tIx (n : Nat) (x : Int32) : Option Nat := if x < 0 ∨ nI n ≤ x then none else some x.toNatClampNeg
theorem tIx_n {n : Nat} {x : Int32} (h : x < 0 ∨ nI n ≤ x) : tIx n x = none := if_pos h
theorem tIx_s {n i : Nat} (hn : n < 2 ^ 31) (hi : i < n) : tIx n (nI i) = some i := by
  unfold tIx
  rw [if_neg, nI_clamp (by omega)]
  rintro (z | z)
  · exact nI_pos (by omega) z
  · exact absurd ((leI (by omega) (by omega)).mp z) (by omega)
theorem tIx_c (n : Nat) (hn : n < 2 ^ 31) (x : Int32) : (tIx n x = none ∧ (x < 0 ∨ nI n ≤ x)) ∨ ∃ i, i < n ∧ x = nI i ∧ tIx n x = some i := by
  rcases pk_ix x (n := n) hn with q | q | ⟨k, hk, e⟩
  · exact Or.inl ⟨tIx_n (Or.inl q), Or.inl q⟩
  · exact Or.inl ⟨tIx_n (Or.inr q), Or.inr q⟩
  · exact Or.inr ⟨k, hk, e, by rw [e]; exact tIx_s hn hk⟩
abbrev aT (B : Ab) : List (List Fl) := B.2.2.1
abbrev aP (B : Ab) : List (List Sv) := B.2.2.2.1
abbrev aD (B : Ab) : Dv := B.2.2.2.2.2
def wT (B : Ab) (ts : List (List Fl)) : Ab := (B.1, B.2.1, ts, B.2.2.2)
def wP (B : Ab) (ps : List (List Sv)) : Ab := (B.1, B.2.1, B.2.2.1, ps, B.2.2.2.2)
def a_feed (B : Ab) (a b c e g : Int32) : Ab × Int32 := if 80 < B.1.length + 20 then (B, -3) else ((B.1 ++ be4 a ++ be4 b ++ be4 c ++ be4 e ++ be4 g, B.2), nI (B.1.length + 20))
def a_end (B : Ab) (n : Int32) : Ab × Int32 := match tIx 21 n with
  | none => (B, -1)
  | some k => if B.1.length < 20 then (B, -1) else ((B.1.take (B.1.length - 20 + k), B.2), nI (B.1.length - 20 + k))
def a_path (B : Ab) : Ab × Int32 := if 0 < nmB B.1 then (([], B.1, B.2.2), nI (nmB B.1)) else (([], B.2), -1)
def a_tree (B : Ab) (t : Int32) : Ab × Int32 := if ¬ t = -1 ∧ tIx (aT B).length t = none then (B, -1) else if (aT B).length < 12 then (wT B (aT B ++ [match tIx (aT B).length t with | none => [] | some i => (aT B).getD i []]), nI (aT B).length) else (B, -3)
def a_put (B : Ab) (t : Int32) : Ab × Int32 := match tIx (aT B).length t with
  | none => (B, -1)
  | some i => if B.2.1.length = 0 ∨ 48 < B.1.length then (B, -1) else match tkT ((aT B).getD i []) (B.2.1, B.1) with
    | some gs => (([], B.2.1, (aT B).set i gs, B.2.2.2), nI gs.length)
    | none => (B, if barT ((aT B).getD i []) B.2.1 = true then -2 else -3)
def a_drop (B : Ab) (t : Int32) : Ab × Int32 := match tIx (aT B).length t with
  | none => (B, -1)
  | some i => if B.2.1.length = 0 then (B, -1) else if fnd ((aT B).getD i []) B.2.1 < ((aT B).getD i []).length then (wT B ((aT B).set i (((aT B).getD i []).eraseIdx (fnd ((aT B).getD i []) B.2.1))), nI (((aT B).getD i []).length - 1)) else (B, -1)
def bAt (bs : List Nat) (k : Int32) : Int32 := match tIx bs.length k with
  | none => -1
  | some j => nI (bs.getD j 0)
def a_file (B : Ab) (t i w : Int32) : Int32 := match tIx (aT B).length t with
  | none => -1
  | some t' => if w = 3 then nI ((aT B).getD t' []).length else match tIx ((aT B).getD t' []).length i with
    | none => -1
    | some k => if w = 0 then nI (((aT B).getD t' []).getD k fl0).1.length else if w = 1 then nI (((aT B).getD t' []).getD k fl0).2.length else if w = 2 then nI (sumB (((aT B).getD t' []).getD k fl0).2) else -1
def a_byteOf (B : Ab) (t i w k : Int32) : Int32 := match tIx (aT B).length t with
  | none => -1
  | some t' => match tIx ((aT B).getD t' []).length i with
    | none => -1
    | some j => if w = 0 then bAt (((aT B).getD t' []).getD j fl0).2 k else if w = 1 then bAt (((aT B).getD t' []).getD j fl0).1 k else -1
def a_same (B : Ab) (t u : Int32) : Int32 := match tIx (aT B).length t with
  | none => -1
  | some t' => match tIx (aT B).length u with
    | none => -1
    | some u' => if (aT B).getD t' [] = (aT B).getD u' [] then 1 else 0
def a_clear (B : Ab) : Ab × Int32 := ((B.1, B.2.1, [], [], B.2.2.2.2), nI (aT B).length)
theorem apG {α : Type} {ts : List (List α)} {fs : List α} {t : Nat} (h : t < (ts ++ [fs]).length) : (ts ++ [fs]).getD t [] = if t < ts.length then ts.getD t [] else fs := by
  rw [List.length_append] at h
  simp only [List.length_cons, List.length_nil] at h
  rw [List.getD_eq_getElem?_getD]
  by_cases c : t < ts.length
  · rw [if_pos c, List.getElem?_append_left c, ← List.getD_eq_getElem?_getD]
  · rw [if_neg c, List.getElem?_append_right (by omega), show t - ts.length = 0 by omega]
    rfl
theorem setO {α : Type} {ts : List α} {n : Nat} {a : α} (h : ts.length ≤ n) : ts.set n a = ts := by
  apply List.ext_getElem?
  intro i
  rw [List.getElem?_set]
  by_cases e : n = i
  · rw [if_pos e, if_neg (by omega), List.getElem?_eq_none (by omega)]
  · rw [if_neg e]
theorem nm_len : ∀ (bs : List Nat) (n l : Nat), 0 < nmGo n l bs → n ≤ 3 → l ≤ 5 → bs.length + 6 * n + l ≤ 23
  | [], n, l, _, h3, h5 => by simp only [List.length_nil]; omega
  | b :: r, n, l, h, h3, h5 => by
    unfold nmGo at h
    rw [List.length_cons]
    split at h
    · next c => have := nm_len r n (l + 1) h h3 (by omega); omega
    · split at h
      · next c => have := nm_len r (n + 1) 0 h (by omega) (by omega); omega
      · omega
theorem nmB_len {bs : List Nat} (h : 0 < nmB bs) : bs.length ≤ 17 := by
  have := nm_len bs 1 0 h (by omega) (by omega)
  omega
theorem nm_le : ∀ (bs : List Nat) (n l : Nat), n ≤ 3 → nmGo n l bs ≤ 3
  | [], n, l, h3 => by unfold nmGo; split <;> omega
  | b :: r, n, l, h3 => by
    unfold nmGo
    split
    · exact nm_le r n (l + 1) h3
    · split
      · next c => exact nm_le r (n + 1) 0 (by omega)
      · omega
section
variable {Λ : yL} {f0 : xH} {S S' : yS} {x d : Nat} {T P C Lx Q : Nat → Nat} {PL : Nat → Nat → Nat} {B : Ab} {fs : List Fl} {vs : List Sv} {bs cs : List Nat} {a b c e g y : Int32} {E0 : yS × Nat} {post : Option Value → xH → Prop}
theorem Q_o (h : yQ Λ E0 S x T P C Lx PL B) : yo Λ x 0 := h.1.2.1.1
theorem Q_tl (h : yQ Λ E0 S x T P C Lx PL B) : (aT B).length ≤ 12 := h.2.2.1.2.1
theorem Q_pl (h : yQ Λ E0 S x T P C Lx PL B) : (aP B).length ≤ 8 := h.2.2.2.1.2.1
theorem Q_i7 (h : yQ Λ E0 S x T P C Lx PL B) : yI S 0 7 x = nI (aT B).length := h.2.2.1.2.2.1
theorem Q_i8 (h : yQ Λ E0 S x T P C Lx PL B) : yI S 0 8 x = nI (aP B).length := h.2.2.2.1.2.2.1
theorem Q_T (h : yQ Λ E0 S x T P C Lx PL B) {i : Nat} (hi : i < (aT B).length) : yTv Λ S (T i) ((aT B).getD i []) := h.2.2.1.2.2.2 i hi
theorem Q_P (h : yQ Λ E0 S x T P C Lx PL B) {i : Nat} (hi : i < (aP B).length) : ∃ Q, yPq Λ S (P i) ((aP B).getD i []) Q := h.2.2.2.1.2.2.2 i hi
theorem Q_tt (h : yQ Λ E0 S x T P C Lx PL B) {i : Nat} (hi : i < 12) : yTop Λ (T i) := yCo_top h.1.2.1 (h.1.2.2.2.2.2.2.2.2.2.1 i hi).1
theorem Q_tp (h : yQ Λ E0 S x T P C Lx PL B) {i : Nat} (hi : i < 8) : yTop Λ (P i) := yCo_top h.1.2.1 (h.1.2.2.2.2.2.2.2.2.2.2.2.1 i hi).1
theorem rdTr (h : yQ Λ E0 S x T P C Lx PL B) {i : Nat} (hi : i < 12) {K : Nat → Prop} (q : K (T i)) : xgr (yH Λ f0 S) x 0 2 (fun r => xrl (yH Λ f0 S) r 4 (nI i) K) := ygr (Q_o h) rfl (yrl (T i) h.1.2.2.2.2.2.1.1 (vp_in_nI hi (by omega)) (by rw [nI_clamp (by omega)]; exact (h.2.2.1.1 i hi).1) q)
theorem rdPa (h : yQ Λ E0 S x T P C Lx PL B) {i : Nat} (hi : i < 8) {K : Nat → Prop} (q : K (P i)) : xgr (yH Λ f0 S) x 0 3 (fun r => xrl (yH Λ f0 S) r 6 (nI i) K) := ygr (Q_o h) rfl (yrl (P i) h.1.2.2.2.2.2.1.2 (vp_in_nI hi (by omega)) (by rw [nI_clamp (by omega)]; exact (h.2.2.2.1.1 i hi).1) q)
theorem rdTc (h : yQ Λ E0 S x T P C Lx PL B) (hi : (aT B).length < 12) {K : Nat → Prop} (q : K (T (aT B).length)) : xgr (yH Λ f0 S) x 0 2 (fun r => xgi (yH Λ f0 S) x 0 7 (fun v => xrl (yH Λ f0 S) r 4 v K)) := by
  refine ygr (Q_o h) rfl (ygi (Q_o h) rfl ?_)
  rw [Q_i7 h]
  exact yrl _ h.1.2.2.2.2.2.1.1 (vp_in_nI hi (by omega)) (by rw [nI_clamp (by omega)]; exact (h.2.2.1.1 _ hi).1) q
theorem rdPc (h : yQ Λ E0 S x T P C Lx PL B) (hi : (aP B).length < 8) {K : Nat → Prop} (q : K (P (aP B).length)) : xgr (yH Λ f0 S) x 0 3 (fun r => xgi (yH Λ f0 S) x 0 8 (fun v => xrl (yH Λ f0 S) r 6 v K)) := by
  refine ygr (Q_o h) rfl (ygi (Q_o h) rfl ?_)
  rw [Q_i8 h]
  exact yrl _ h.1.2.2.2.2.2.1.2 (vp_in_nI hi (by omega)) (by rw [nI_clamp (by omega)]; exact (h.2.2.2.1.1 _ hi).1) q
theorem PC_isTree_sp (h : yQ Λ E0 S x T P C Lx PL B) (h1 : ∀ i, i < (aT B).length → y = nI i → tIx (aT B).length y = some i → post (some (.int 1)) (yH Λ f0 S)) (h0 : tIx (aT B).length y = none → post (some (.int 0)) (yH Λ f0 S)) : xSp xT0 (d + 1) j_PC_isTree [.ref x, .int y] (yH Λ f0 S) post := by
  have hl := Q_tl h
  refine xSp_of (M := m_PC_isTree) rfl (b_PC_isTree_0 ⟨fun c => h0 (tIx_n (Or.inl c)), fun c => ygi (Q_o h) rfl ?_⟩)
  rw [Q_i7 h]
  refine ⟨fun c2 => h0 (tIx_n (Or.inr c2)), fun c2 => ?_⟩
  rcases tIx_c (aT B).length (by omega) y with ⟨q, q2⟩ | ⟨k, hk, e, e2⟩
  · exact absurd q2 (fun z => z.elim c c2)
  · exact h1 k hk e e2
theorem PC_isPatch_sp (h : yQ Λ E0 S x T P C Lx PL B) (h1 : ∀ i, i < (aP B).length → y = nI i → tIx (aP B).length y = some i → post (some (.int 1)) (yH Λ f0 S)) (h0 : tIx (aP B).length y = none → post (some (.int 0)) (yH Λ f0 S)) : xSp xT0 (d + 1) j_PC_isPatch [.ref x, .int y] (yH Λ f0 S) post := by
  have hl := Q_pl h
  refine xSp_of (M := m_PC_isPatch) rfl (b_PC_isPatch_0 ⟨fun c => h0 (tIx_n (Or.inl c)), fun c => ygi (Q_o h) rfl ?_⟩)
  rw [Q_i8 h]
  refine ⟨fun c2 => h0 (tIx_n (Or.inr c2)), fun c2 => ?_⟩
  rcases tIx_c (aP B).length (by omega) y with ⟨q, q2⟩ | ⟨k, hk, e, e2⟩
  · exact absurd q2 (fun z => z.elim c c2)
  · exact h1 k hk e e2
theorem PC_keepTree_sp (h : yQ Λ E0 S x T P C Lx PL B) (hl : (aT B).length < 12) (hT : yTv Λ S (T (aT B).length) fs) (hp : ∀ S', yQ Λ E0 S' x T P C Lx PL (wT B (aT B ++ [fs])) → post (some (.int (nI (aT B).length))) (yH Λ f0 S')) : xSp xT0 (d + 1) j_PC_keepTree [.ref x] (yH Λ f0 S) post := by
  refine xSp_of (M := m_PC_keepTree) rfl (b_PC_keepTree_0 (ygi (Q_o h) rfl (ypf (Q_o h) rfl (ygi (Q_o h) rfl ?_))))
  rw [Q_i7 h, ywI_s, nI_1, nI_pred]
  have hlen : (aT B ++ [fs]).length = (aT B).length + 1 := by rw [List.length_append]; rfl
  refine hp _ (yQ_I h (QT_n h.2.2.1 (by rw [hlen]; omega) hlen.symm (fun t ht => ?_)) (QP_0 h.2.2.2.1 (by decide)))
  rw [apG ht]
  by_cases c : t < (aT B).length
  · rw [if_pos c]; exact Q_T h c
  · rw [if_neg c, show t = (aT B).length by omega]; exact hT
theorem PC_keepPatch_sp (h : yQ Λ E0 S x T P C Lx PL B) (hl : (aP B).length < 8) (hT : yPq Λ S (P (aP B).length) vs Q) (hp : ∀ S', yQ Λ E0 S' x T P C Lx PL (wP B (aP B ++ [vs])) → post (some (.int (nI (aP B).length))) (yH Λ f0 S')) : xSp xT0 (d + 1) j_PC_keepPatch [.ref x] (yH Λ f0 S) post := by
  refine xSp_of (M := m_PC_keepPatch) rfl (b_PC_keepPatch_0 (ygi (Q_o h) rfl (ypf (Q_o h) rfl (ygi (Q_o h) rfl ?_))))
  rw [Q_i8 h, ywI_s, nI_1, nI_pred]
  have hlen : (aP B ++ [vs]).length = (aP B).length + 1 := by rw [List.length_append]; rfl
  refine hp _ (yQ_I h (QT_0 h.2.2.1 (by decide)) (QP_n h.2.2.2.1 (by rw [hlen]; omega) hlen.symm (fun t ht => ?_)))
  rw [apG ht]
  by_cases c : t < (aP B).length
  · rw [if_pos c]; exact Q_P h c
  · rw [if_neg c, show t = (aP B).length by omega]; exact ⟨Q, hT⟩
theorem X_clear (h : yQ Λ E0 S x T P C Lx PL B) (hp : ∀ S', yQ Λ E0 S' x T P C Lx PL (a_clear B).1 → post (some (.int (a_clear B).2)) (yH Λ f0 S')) : xSp xT0 (d + 8) j_PC_clear [.ref x] (yH Λ f0 S) post := by
  refine xSp_of (M := m_PC_clear) rfl (b_PC_clear_0 (ygi (Q_o h) rfl (ypf (Q_o h) rfl (ypf (Q_o h) rfl ?_))))
  rw [Q_i7 h]
  have h1 : yQ Λ E0 (ywI S 0 7 x 0) x T P C Lx PL (wT B []) := yQ_I h (QT_n (v := 0) h.2.2.1 (Nat.zero_le _) rfl (fun t ht => absurd ht (Nat.not_lt_zero _))) (QP_0 h.2.2.2.1 (by decide))
  exact hp _ (yQ_I h1 (QT_0 h1.2.2.1 (by decide)) (QP_n (v := 0) h1.2.2.2.1 (Nat.zero_le _) rfl (fun t ht => absurd ht (Nat.not_lt_zero _))))
theorem X_file (h : yQ Λ E0 S x T P C Lx PL B) (hp : post (some (.int (a_file B a b c))) (yH Λ f0 S)) : xSp xT0 (d + 8) j_PC_file [.ref x, .int a, .int b, .int c] (yH Λ f0 S) post := by
  have hl := Q_tl h
  unfold a_file at hp
  refine xSp_of (M := m_PC_file) rfl (b_PC_file_0 ⟨yex (Q_o h), PC_isTree_sp h (fun i hi e e2 => xviI ⟨fun _ => ?_, fun z => absurd (by decide) z⟩) (fun e => xviI ⟨fun z => absurd rfl z, fun _ => ?_⟩)⟩)
  · subst e
    rw [e2] at hp
    have hT := Q_T h hi
    have hfl := Tv_le hT
    dsimp only at hp
    refine rdTr h (by omega) ⟨fun c1 => ⟨yex hT.1.1, Tr_has_sp hT (fun k hk e => xviI ⟨fun _ => ?_, fun z => absurd (by decide) z⟩) (fun e => xviI ⟨fun z => absurd rfl z, fun _ => ?_⟩)⟩, fun c1 => ⟨yex hT.1.1, Tr_size_sp hT (xviI ?_)⟩⟩
    · subst e
      rw [if_neg c1, tIx_s (by omega) hk] at hp
      dsimp only at hp
      refine ⟨fun c2 => ⟨yex hT.1.1, Tr_pAt hT hk (fun q B1 v1 o1 => xvrI ⟨yex B1.1, By_size_sp B1 v1 (xviI ?_)⟩)⟩, fun c2 => ⟨fun c3 => ⟨yex hT.1.1, Tr_cAt hT (Or.inl ⟨k, hk, rfl, rfl⟩) (fun q cq B1 v1 o1 l1 => xvrI ⟨yex B1.1, By_size_sp B1 v1 (xviI ?_)⟩)⟩, fun c3 => ⟨fun c4 => ⟨yex hT.1.1, Tr_cAt hT (Or.inl ⟨k, hk, rfl, rfl⟩) (fun q cq B1 v1 o1 l1 => xvrI ⟨yex B1.1, By_sum_sp B1 v1 (xviI ?_)⟩)⟩, fun c4 => ?_⟩⟩⟩
      · rw [if_pos c2] at hp; exact hp
      · rw [if_neg c2, if_pos c3] at hp; exact hp
      · rw [if_neg c2, if_neg c3, if_pos c4] at hp; exact hp
      · rw [if_neg c2, if_neg c3, if_neg c4] at hp; exact hp
    · rw [if_neg c1, tIx_n e] at hp; exact hp
    · rw [if_pos (Classical.not_not.mp c1)] at hp; exact hp
  · rw [e] at hp; exact hp
theorem By_at2 {o cap : Nat} (hB : yB Λ o cap) (hv : yBv S o cap bs) (hp : post (some (.int (bAt bs y))) (yH Λ f0 S)) : xSp xT0 (d + 1) j_By_at [.ref o, .int y] (yH Λ f0 S) post := by
  have h1 := hv.1
  have h2 := hB.2.2
  unfold bAt at hp
  refine By_at_sp hB hv (fun k hk e => ?_) (fun z => ?_)
  · subst e
    rw [tIx_s (by omega) hk] at hp
    exact hp
  · rw [tIx_n z] at hp
    exact hp
theorem X_byteOf (h : yQ Λ E0 S x T P C Lx PL B) (hp : post (some (.int (a_byteOf B a b c e))) (yH Λ f0 S)) : xSp xT0 (d + 8) j_PC_byteOf [.ref x, .int a, .int b, .int c, .int e] (yH Λ f0 S) post := by
  have hl := Q_tl h
  unfold a_byteOf at hp
  refine xSp_of (M := m_PC_byteOf) rfl (b_PC_byteOf_0 ⟨yex (Q_o h), PC_isTree_sp h (fun i hi e e2 => xviI ⟨fun z => absurd z (by decide), fun _ => ?_⟩) (fun e => xviI ⟨fun _ => ?_, fun z => absurd rfl z⟩)⟩)
  · subst e
    rw [e2] at hp
    have hT := Q_T h hi
    have hfl := Tv_le hT
    dsimp only at hp
    refine rdTr h (by omega) ⟨yex hT.1.1, Tr_has_sp hT (fun k hk e => xviI ⟨fun _ => ?_, fun z => absurd (by decide) z⟩) (fun e => xviI ⟨fun z => absurd rfl z, fun _ => ?_⟩)⟩
    · subst e
      rw [tIx_s (by omega) hk] at hp
      dsimp only at hp
      refine ⟨fun c2 => rdTr h (by omega) ⟨yex hT.1.1, Tr_cAt hT (Or.inl ⟨k, hk, rfl, rfl⟩) (fun q cq B1 v1 o1 l1 => xvrI ⟨yex B1.1, By_at2 B1 v1 (xviI ?_)⟩)⟩, fun c2 => ⟨fun c3 => rdTr h (by omega) ⟨yex hT.1.1, Tr_pAt hT hk (fun q B1 v1 o1 => xvrI ⟨yex B1.1, By_at2 B1 v1 (xviI ?_)⟩)⟩, fun c3 => ?_⟩⟩
      · rw [if_pos c2] at hp; exact hp
      · rw [if_neg c2, if_pos c3] at hp; exact hp
      · rw [if_neg c2, if_neg c3] at hp; exact hp
    · rw [tIx_n e] at hp; exact hp
  · rw [e] at hp; exact hp
theorem X_same (h : yQ Λ E0 S x T P C Lx PL B) (hp : post (some (.int (a_same B a b))) (yH Λ f0 S)) : xSp xT0 (d + 8) j_PC_same [.ref x, .int a, .int b] (yH Λ f0 S) post := by
  have hl := Q_tl h
  unfold a_same at hp
  refine xSp_of (M := m_PC_same) rfl (b_PC_same_0 ⟨yex (Q_o h), PC_isTree_sp h (fun i hi e e2 => xviI ⟨fun z => absurd z (by decide), fun _ => ⟨yex (Q_o h), PC_isTree_sp h (fun j hj e3 e4 => xviI ⟨fun _ => ?_, fun z => absurd (by decide) z⟩) (fun e3 => xviI ⟨fun z => absurd rfl z, fun _ => ?_⟩)⟩⟩) (fun e => xviI ⟨fun _ => ?_, fun z => absurd rfl z⟩)⟩)
  · subst e; subst e3
    rw [e2, e4] at hp
    dsimp only at hp
    have hT := Q_T h hi
    have hU := Q_T h hj
    refine rdTr h (by omega) (rdTr h (by omega) ⟨yex hT.1.1, Tr_equalTo_sp hT hU (xviI ?_)⟩)
    by_cases c : (aT B).getD i [] = (aT B).getD j []
    · rw [if_pos c]
      rw [if_pos c] at hp
      exact ⟨fun z => absurd z (by decide), fun _ => hp⟩
    · rw [if_neg c]
      rw [if_neg c] at hp
      exact ⟨fun _ => hp, fun z => absurd rfl z⟩
  · rw [e2, e3] at hp; exact hp
  · rw [e] at hp; exact hp
theorem X_tree (h : yQ Λ E0 S x T P C Lx PL B) (hp : ∀ S', yQ Λ E0 S' x T P C Lx PL (a_tree B a).1 → post (some (.int (a_tree B a).2)) (yH Λ f0 S')) : xSp xT0 (d + 8) j_PC_tree [.ref x, .int a] (yH Λ f0 S) post := by
  have hl := Q_tl h
  unfold a_tree at hp
  have hkeep : (aT B).length < 12 → ∀ {S1 fs}, yAg Λ S S1 (T (aT B).length) → yTv Λ S1 (T (aT B).length) fs → (∀ S', yQ Λ E0 S' x T P C Lx PL (wT B (aT B ++ [fs])) → post (some (.int (nI (aT B).length))) (yH Λ f0 S')) → (∃ gs, yH Λ f0 S1 x = some (xO 0 gs)) ∧ xSp xT0 (d + 7) j_PC_keepTree [.ref x] (yH Λ f0 S1) (fun w9 f10 => xvi w9 (fun v11 => post (some (.int v11)) f10)) := by
    intro hlt S1 fs k1 hT1 hp1
    have h1 := yQ_T h hlt (yFr_AT k1) hT1
    have e : (B.1, B.2.1, (aT B).set (aT B).length fs, B.2.2.2) = B := by rw [setO (Nat.le_refl _)]
    have h1 : yQ Λ E0 S1 x T P C Lx PL B := by rw [← e]; exact h1
    exact ⟨yex (Q_o h), PC_keepTree_sp h1 hlt hT1 (fun S2 h2 => hp1 S2 h2)⟩
  have h15 : ¬ (¬ a = -1 ∧ tIx (aT B).length a = none) → xWp (xT0, xSp xT0 (d + 7), none, m_PC_tree, post) 15 [some (.ref x), some (.int a)] [] (yH Λ f0 S) 0 0 := by
    intro hc
    rw [if_neg hc] at hp
    refine b_PC_tree_15 (ygi (Q_o h) rfl ?_)
    rw [Q_i7 h]
    refine brlt (b := 12) (by omega) (by omega) (fun hlt => ?_) (fun hge => ?_)
    · rw [if_pos hlt] at hp
      obtain ⟨gs, hgs⟩ := (h.2.2.1.1 _ hlt).2
      rcases tIx_c (aT B).length (by omega) a with ⟨q, q2⟩ | ⟨k, hk, e, e2⟩
      · have ea : a = -1 := Classical.byContradiction (fun z => hc ⟨z, q⟩)
        rw [q] at hp
        subst ea
        exact ⟨fun z => absurd z (by decide), fun _ => rdTc h hlt ⟨yex hgs.1.1, Tr_empty_sp hgs.1 (xvvI (hkeep hlt (S1 := ywI S 2 3 (T (aT B).length) 0) yAg_I (yTv_e hgs) hp))⟩⟩
      · subst e
        rw [e2] at hp
        have hT := Q_T h hk
        have hne : T k ≠ T (aT B).length := fun z => by
          have := h.1.2.2.2.2.2.2.2.2.2.2.1 k _ (by omega) hlt z
          omega
        refine ⟨fun _ => rdTc h hlt (rdTr h (by omega) ⟨yex hgs.1.1, Tr_copyOf_sp h.1.1 hgs hT hne ?_ ?_ (fun S1 k1 hT1 => xvvI (hkeep hlt k1 hT1 hp))⟩), fun z => absurd ((leI (a := 0) (by omega) (by omega)).mpr (Nat.zero_le _)) z⟩
        · exact yo_ne (Q_tt h (by omega)).1 hgs.1.1 (by decide)
        · exact yo_ne (Q_tt h hlt).1 hT.1.1 (by decide)
    · rw [if_neg (by omega)] at hp
      exact hp S h
  refine xSp_of (M := m_PC_tree) rfl (b_PC_tree_0 ⟨fun c => h15 (fun z => z.1 c), fun c => ⟨yex (Q_o h), PC_isTree_sp h (fun i hi e e2 => xviI ⟨fun _ => h15 (fun z => by rw [e2] at z; cases z.2), fun z => absurd (by decide) z⟩) (fun e => xviI ⟨fun z => absurd rfl z, fun _ => ?_⟩)⟩⟩)
  rw [if_pos ⟨c, e⟩] at hp
  exact hp S h
theorem X_put (h : yQ Λ E0 S x T P C Lx PL B) (hp : ∀ S', yQ Λ E0 S' x T P C Lx PL (a_put B a).1 → post (some (.int (a_put B a).2)) (yH Λ f0 S')) : xSp xT0 (d + 8) j_PC_put [.ref x, .int a] (yH Λ f0 S) post := by
  have hl := Q_tl h
  obtain ⟨hB0, c0⟩ := h.1.2.2.1
  obtain ⟨hB1, c1⟩ := h.1.2.2.2.1
  have hv0 := h.2.1.1
  have hv1 := h.2.1.2
  have hl0 := hv0.1
  have hl1 := hv1.1
  unfold a_put at hp
  refine xSp_of (M := m_PC_put) rfl (b_PC_put_0 ⟨yex (Q_o h), PC_isTree_sp h (fun i hi e e2 => xviI ⟨fun z => absurd z (by decide), fun _ => ygr (Q_o h) rfl ⟨yex hB1.1, By_size_sp hB1 hv1 (xviI (breq (b := 0) (by omega) (by omega) (fun c => ?_) (fun c => ygr (Q_o h) rfl ⟨yex hB0.1, By_size_sp hB0 hv0 (xviI (brle (b := 48) (by omega) (by omega) (fun c2 => ?_) (fun c2 => ?_)))⟩)))⟩⟩) (fun e => xviI ⟨fun _ => ?_, fun z => absurd rfl z⟩)⟩)
  · rw [e2] at hp
    dsimp only at hp
    rw [if_pos (Or.inl c)] at hp
    exact hp S h
  · subst e
    rw [e2] at hp
    dsimp only at hp
    rw [if_neg (by omega)] at hp
    have hT := Q_T h hi
    have hi12 : i < 12 := by omega
    refine rdTr h hi12 (ygr (Q_o h) rfl (ygr (Q_o h) rfl ⟨yex hT.1.1, Tr_take2 h.1.1 hT hB1 hv1 hl1 ?_ hB0 hv0 c2 ?_ (fun S1 gs e3 k1 hT1 => xviI ?_) (fun e3 => xviI ?_)⟩))
    · rw [c1.1]; exact yo_ne (Q_o h) hT.1.1 (by decide)
    · rw [c0.1]; exact yo_ne (Q_o h) hT.1.1 (by decide)
    · rw [e3] at hp
      dsimp only at hp
      have hg := Tv_le hT1
      refine brlt (b := 0) (by omega) (by omega) (fun z => absurd z (by omega)) (fun _ => ygr (Q_o h) rfl ⟨yex hB0.1, By_empty_sp hB0 (xvvI ?_)⟩)
      have h1 := yQ_T h hi12 (yFr_AT k1) hT1
      exact hp _ (yQ_B h1 (yFr_wI ⟨rfl, Or.inl rfl⟩) ⟨yBv_e, by rw [yBw_e]; exact yBv_w (fun z => h.1.2.2.2.2.1 z.symm) h1.2.1.2⟩)
    · rw [e3] at hp
      dsimp only at hp
      by_cases cb : barT ((aT B).getD i []) B.2.1 = true
      · rw [if_pos cb] at hp ⊢
        exact ⟨fun _ => hp S h, fun z => absurd (by decide) z⟩
      · rw [if_neg cb] at hp ⊢
        exact ⟨fun _ => hp S h, fun z => absurd (by decide) z⟩
  · rw [e2] at hp
    dsimp only at hp
    rw [if_pos (Or.inr c2)] at hp
    exact hp S h
  · rw [e] at hp
    exact hp S h
theorem X_drop (h : yQ Λ E0 S x T P C Lx PL B) (hp : ∀ S', yQ Λ E0 S' x T P C Lx PL (a_drop B a).1 → post (some (.int (a_drop B a).2)) (yH Λ f0 S')) : xSp xT0 (d + 8) j_PC_drop [.ref x, .int a] (yH Λ f0 S) post := by
  have hl := Q_tl h
  obtain ⟨hB1, c1⟩ := h.1.2.2.2.1
  have hv1 := h.2.1.2
  have hl1 := hv1.1
  unfold a_drop at hp
  refine xSp_of (M := m_PC_drop) rfl (b_PC_drop_0 ⟨yex (Q_o h), PC_isTree_sp h (fun i hi e e2 => xviI ⟨fun z => absurd z (by decide), fun _ => ygr (Q_o h) rfl ⟨yex hB1.1, By_size_sp hB1 hv1 (xviI (brne (b := 0) (by omega) (by omega) (fun c => ?_) (fun c => ?_)))⟩⟩) (fun e => xviI ⟨fun _ => ?_, fun z => absurd rfl z⟩)⟩)
  · subst e
    rw [e2] at hp
    dsimp only at hp
    rw [if_neg c] at hp
    have hT := Q_T h hi
    have hfl := Tv_le hT
    have hi12 : i < 12 := by omega
    refine rdTr h hi12 (ygr (Q_o h) rfl ⟨yex hT.1.1, Tr_find2 hT hB1 hv1 (xviI (brixn (by omega) (fun c2 e3 => ?_) (fun c2 => ?_)))⟩)
    · rw [if_pos c2] at hp
      rw [e3]
      refine rdTr h hi12 ⟨yex hT.1.1, Tr_remove_sp h.1.1 hT c2 (fun S1 k1 hT1 => xvvI ?_)⟩
      have h1 := yQ_T h hi12 (yFr_AT k1) hT1
      refine rdTr h1 hi12 ⟨yex hT.1.1, Tr_size_sp hT1 (xviI ?_)⟩
      rw [List.length_eraseIdx_of_lt c2]
      exact hp S1 h1
    · rw [if_neg c2] at hp
      exact hp S h
  · rw [e2] at hp
    dsimp only at hp
    rw [if_pos c] at hp
    exact hp S h
  · rw [e] at hp
    exact hp S h
end
