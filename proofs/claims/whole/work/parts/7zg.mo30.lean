/-! 7zg the other object: chain -/
def cnO (vs : List Sv) (w : Sv) : Option Sv := if ¬ w.1 = 0 ∧ fTg vs w.2.2.1 < vs.length then (if joLd (vs.getD (fTg vs w.2.2.1) sv0) w then some (joV (vs.getD (fTg vs w.2.2.1) sv0) w) else none) else if w.1 = 0 ∧ fDr vs w.2.1 < vs.length then some (chgV (vs.getD (fDr vs w.2.1) sv0) w) else some w
def cnK (vs : List Sv) (w : Sv) : Nat := if ¬ w.1 = 0 ∧ fTg vs w.2.2.1 < vs.length then fTg vs w.2.2.1 else if w.1 = 0 ∧ fDr vs w.2.1 < vs.length then fDr vs w.2.1 else vs.length
def cnT (vs l : List Sv) (k : Nat) : Bool := l.any (fun w => decide (cnK vs w = k))
def cnU (vs ws : List Sv) (n : Nat) : List Sv := ((List.range n).filter (fun k => !cnT vs ws k)).map (fun k => vs.getD k sv0)
def cnM (vs ws : List Sv) : List Sv := ws.filterMap (cnO vs) ++ cnU vs ws vs.length
theorem cnU_s (vs ws : List Sv) (n : Nat) : cnU vs ws (n + 1) = if cnT vs ws n = true then cnU vs ws n else cnU vs ws n ++ [vs.getD n sv0] := by
  unfold cnU
  rw [List.range_succ, List.filter_append, List.map_append]
  cases h : cnT vs ws n
  · simp [h]
  · simp [h]
theorem cnF_s {vs ws : List Sv} {n : Nat} (h : n < ws.length) : (ws.take (n + 1)).filterMap (cnO vs) = (ws.take n).filterMap (cnO vs) ++ (cnO vs (ws.getD n sv0)).toList := by
  rw [tkG h, List.filterMap_append]
  congr 1
theorem cnT_s {vs ws : List Sv} {n k : Nat} (h : n < ws.length) : cnT vs (ws.take (n + 1)) k = (cnT vs (ws.take n) k || decide (cnK vs (ws.getD n sv0) = k)) := by
  unfold cnT
  rw [tkG h, List.any_append]
  simp
theorem fTg_t {vs : List Sv} {bs : List Nat} (h : fTg vs bs < vs.length) : ¬ (vs.getD (fTg vs bs) sv0).1 = 1 ∧ (vs.getD (fTg vs bs) sv0).2.1 = bs := of_decide_eq_true (fstI_t (p := fun i => decide (¬ (vs.getD i sv0).1 = 1 ∧ (vs.getD i sv0).2.1 = bs)) h)
theorem fSr_t {vs : List Sv} {bs : List Nat} (h : fSr vs bs < vs.length) : ¬ (vs.getD (fSr vs bs) sv0).1 = 0 ∧ (vs.getD (fSr vs bs) sv0).2.2.1 = bs := of_decide_eq_true (fstI_t (p := fun i => decide (¬ (vs.getD i sv0).1 = 0 ∧ (vs.getD i sv0).2.2.1 = bs)) h)
theorem fDr_t {vs : List Sv} {bs : List Nat} (h : fDr vs bs < vs.length) : (vs.getD (fDr vs bs) sv0).1 = 1 ∧ (vs.getD (fDr vs bs) sv0).2.1 = bs := of_decide_eq_true (fstI_t (p := fun i => decide ((vs.getD i sv0).1 = 1 ∧ (vs.getD i sv0).2.1 = bs)) h)
theorem cnO_p {vs : List Sv} {w v : Sv} (hv : ∀ i, i < vs.length → okV (vs.getD i sv0)) (hw : okV w) (h : cnO vs w = some v) : okP v.2.1 := by
  unfold cnO at h
  split at h
  · rename_i c
    split at h
    · have e := (Option.some.inj h).symm
      rw [e]
      show okP (joP _ _)
      unfold joP
      split
      · exact (hv _ c.2).2.1.2.1
      · exact hw.2.1.1
    · cases h
  · split at h
    · have e := (Option.some.inj h).symm
      rw [e]
      exact hw.2.1.1
    · have e := (Option.some.inj h).symm
      rw [e]
      exact hw.2.1.1
theorem memG {vs : List Sv} {v : Sv} (h : v ∈ vs) : ∃ i, i < vs.length ∧ vs.getD i sv0 = v := by
  obtain ⟨i, hi, e⟩ := List.getElem_of_mem h
  refine ⟨i, hi, ?_⟩
  rw [List.getD_eq_getElem?_getD, List.getElem?_eq_getElem hi]
  exact e
theorem Gmem {vs : List Sv} {i : Nat} (h : i < vs.length) : vs.getD i sv0 ∈ vs := by
  rw [List.getD_eq_getElem?_getD, List.getElem?_eq_getElem h]
  exact List.getElem_mem h
theorem cn1_p {vs ws : List Sv} (hv : ∀ i, i < vs.length → okV (vs.getD i sv0)) (hw : ∀ i, i < ws.length → okV (ws.getD i sv0)) (n : Nat) : ∀ v, v ∈ (ws.take n).filterMap (cnO vs) → okP v.2.1 := fun v h => by
  obtain ⟨w, h1, h2⟩ := List.mem_filterMap.mp h
  obtain ⟨i, hi, e⟩ := memG (List.mem_of_mem_take h1)
  exact cnO_p hv (by rw [← e]; exact hw i hi) h2
theorem cnU_p {vs ws : List Sv} (hv : ∀ i, i < vs.length → okV (vs.getD i sv0)) (n : Nat) (hn : n ≤ vs.length) : ∀ v, v ∈ cnU vs ws n → okP v.2.1 := fun v h => by
  obtain ⟨k, h1, h2⟩ := List.mem_map.mp h
  have h3 := List.mem_range.mp (List.mem_filter.mp h1).1
  rw [← h2]
  exact (hv k (by omega)).2.1.1
theorem stV_p {l : List Sv} (h : ∀ v, v ∈ l → okP v.2.1) : ∀ i, i < (stV l).length → okP ((stV l).getD i sv0).2.1 := fun i hi => by
  rw [stV_l] at hi
  obtain ⟨k, hk, e⟩ := stV_mem l l.length (Nat.le_refl _) i hi
  rw [List.take_length] at e
  rw [e]
  exact h _ (Gmem hk)
theorem nI_sub24 (p k : Nat) : nI (24 * p + k) - 24 * nI p = nI k := by
  rw [show (24 : Int32) * nI p = nI (24 * p) from pk_mul 24 p, ← nI_add, Int32.add_comm, Int32.add_sub_cancel]
section
variable {Λ : yL} {f0 : xH} {S S' S1 S2 : yS} {m d s t u f g p : Nat} {J F : Nat → Prop} {v w : Sv} {vs ws l : List Sv} {ps : List (List Sv)} {zs ys : List Int32} {bs cs : List Nat} {B : Ab} {x y a b c e z : Int32} {post : Option Value → xH → Prop}
theorem toCh (hL : mLay Λ m) (hl : l.length ≤ 24) (hP : mP S m 8 (stV l)) (hv : mS S m 217 v) (hok : ∀ w, w ∈ l → okP w.2.1) (hov : okP v.2.1) (h : ∀ S', zX m Jp S S' → zP m 8 S S' → yI S' 11 23 m = yI S 11 23 m → yA S' 11 36 m = yA S 11 36 m → ((l ++ [v]).length ≤ 24 → mP S' m 8 (stV (l ++ [v]))) → post (some (.int (bI (decide ((l ++ [v]).length ≤ 24))))) (yH Λ f0 S')) : xSp xT0 (d + 4) j_Mo_toChain [.ref m] (yH Λ f0 S) post := by
  have hlen : (l ++ [v]).length = l.length + 1 := by rw [List.length_append]; rfl
  refine Mo_toChain_sp hL hP hv (stV_p hok) hov (fun c S' k z hU => ?_) (fun c => ?_)
  · rw [stV_l] at c
    have := h S' (zX_mo k (fun j w => Or.inl (by rcases w with w | w; have := grp2 w; omega; omega))) z (by rw [(mX k (j := 23) (fun w => by rcases w with w | w; have := grp2 w; omega; omega)).1]) (by rw [(mX k (j := 36) (fun w => by rcases w with w | w; have := grp2 w; omega; omega)).2]) (fun _ => by rw [stV_a]; exact hU)
    rw [decide_eq_true (by omega)] at this
    exact this
  · rw [stV_l] at c
    have := h S zX_rf zP_rf rfl rfl (fun w => by omega)
    rw [decide_eq_false (by omega)] at this
    exact this
/-- what stands while a chain is made -/
def chQ (Λ : yL) (m n p q : Nat) (vs ws l : List Sv) (T : Nat → Bool) (S S1 : yS) : Prop := zX m Jp S S1 ∧ zP m 8 S S1 ∧ yI S1 11 23 m = nI n ∧ (∀ k, k < vs.length → yA S1 11 36 m k = bI (T k)) ∧ (l.length ≤ 24 → mP S1 m 8 (stV l))
theorem chQ_217 {n q : Nat} {T : Nat → Bool} (h : chQ Λ m n p q vs ws l T S S1) (k : zS m 2 (fun i => i = 217) S1 S2) : chQ Λ m n p q vs ws l T S S2 := by
  obtain ⟨h1, h2, h3, h4, h5⟩ := h
  refine ⟨zX_tr h1 (zX_217 k), zP_tr h2 (zP_S k (fun i e => Or.inr e)), by rw [(k.1 11 23 m).1]; exact h3, fun i hi => by rw [k.2.1 11 36 m (fun z => absurd z.2.2 (by decide))]; exact h4 i hi, fun hl => ?_⟩
  have hP := h5 hl
  refine ⟨hP.1, by rw [k.2.1 11 22 m (fun z => absurd z.2.2 (by decide))]; exact hP.2.1, fun i hi => mS_z k (fun _ e => ?_) (hP.2.2 i hi)⟩
  have hl' := hP.1
  have e : 24 * 8 + i = 217 := e
  omega
theorem chQ_36 {n q k : Nat} {T T' : Nat → Bool} {b : Bool} (h : chQ Λ m n p q vs ws l T S S1) (hT : ∀ i, T' i = if i = k then b else T i) : chQ Λ m n p q vs ws l T' S (ywA S1 11 36 m (upd (yA S1 11 36 m) k (bI b))) := by
  obtain ⟨h1, h2, h3, h4, h5⟩ := h
  have k2 : zX m (fun j => j = 36) S1 (ywA S1 11 36 m (upd (yA S1 11 36 m) k (bI b))) := zX_wA rfl
  refine ⟨zX_tr h1 (zX_mo k2 (fun j w => by show Jp j; unfold Jp scr; omega)), zP_tr h2 (zP_x k2 (fun j _ _ => by omega)), h3, fun i hi => ?_, fun hl => mP_x k2 (fun j _ _ => by omega) (h5 hl)⟩
  rw [yA_s, hT i]
  by_cases c : i = k
  · rw [c, pk_us, if_pos rfl]
  · rw [pk_un c, if_neg c]; exact h4 i hi
theorem chQ_to {n q : Nat} {T : Nat → Bool} (h : chQ Λ m n p q vs ws l T S S1) (hL : mLay Λ m) (hv : mS S1 m 217 v) (hok : ∀ w, w ∈ l → okP w.2.1) (hov : okP v.2.1) (hl : l.length ≤ 24) (hp : ∀ S2, chQ Λ m n p q vs ws (l ++ [v]) T S S2 → post (some (.int (bI (decide ((l ++ [v]).length ≤ 24))))) (yH Λ f0 S2)) : xSp xT0 (d + 4) j_Mo_toChain [.ref m] (yH Λ f0 S1) post := by
  obtain ⟨h1, h2, h3, h4, h5⟩ := h
  exact toCh hL hl (h5 hl) hv hok hov (fun S2 k z e e2 hm => hp S2 ⟨zX_tr h1 k, zP_tr h2 z, e.trans h3, fun i hi => by rw [e2]; exact h4 i hi, hm⟩)
theorem chQ_no {n q : Nat} {T : Nat → Bool} (h : chQ Λ m n p q vs ws l T S S1) (hl : ¬ l.length ≤ 24) : chQ Λ m n p q vs ws (l ++ [v]) T S S1 := by
  obtain ⟨h1, h2, h3, h4, h5⟩ := h
  exact ⟨h1, h2, h3, h4, fun w => by rw [List.length_append] at w; omega⟩
end
