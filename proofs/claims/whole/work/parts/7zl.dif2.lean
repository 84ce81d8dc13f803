/-! 7zl two differences are one -/
theorem mwM_e (fs gs : List Fl) {w w' : Nat → Option Nat} (st : List Sv) : ∀ n, (∀ k, k < n → w' k = w k) → mwM fs gs w' st n = mwM fs gs w st n
  | 0, _ => rfl
  | n + 1, h => by rw [mwM_s, mwM_s, mwM_e fs gs st n (fun k hk => h k (by omega)), h n (by omega)]
theorem mw_mv (fs gs : List Fl) (G0 N0 : Nat → Bool) (st : List Sv) : ∀ n, mvL fs gs (G0, N0, st) n = ((mwL fs gs (G0, N0, fun _ => none) n).1, (mwL fs gs (G0, N0, fun _ => none) n).2.1, mwM fs gs (mwL fs gs (G0, N0, fun _ => none) n).2.2 st n) ∧ ∀ k, n ≤ k → (mwL fs gs (G0, N0, fun _ => none) n).2.2 k = none
  | 0 => ⟨rfl, fun _ _ => rfl⟩
  | n + 1 => by
    obtain ⟨ih1, ih2⟩ := mw_mv fs gs G0 N0 st n
    have e1 : mvL fs gs (G0, N0, st) (n + 1) = mvS fs gs (mvL fs gs (G0, N0, st) n) n := by unfold mvL; rw [rgF]
    have e2 : mwL fs gs (G0, N0, fun _ => none) (n + 1) = mwS fs gs (mwL fs gs (G0, N0, fun _ => none) n) n := by unfold mwL; rw [rgF]
    rw [e1, e2, ih1]
    generalize mwL fs gs (G0, N0, fun _ => none) n = W at *
    have hn := ih2 n (Nat.le_refl _)
    unfold mvS mwS
    have ei : mvI fs gs (W.1, W.2.1, mwM fs gs W.2.2 st n) n = mwI fs gs W n := rfl
    by_cases c : W.2.1 n = true ∧ 0 < (gs.getD n fl0).2.length ∧ mwI fs gs W n < fs.length
    · rw [if_pos (show (W.1, W.2.1, mwM fs gs W.2.2 st n).2.1 n = true ∧ 0 < (gs.getD n fl0).2.length ∧ mvI fs gs (W.1, W.2.1, mwM fs gs W.2.2 st n) n < fs.length from c), if_pos c, ei]
      refine ⟨?_, fun k hk => ?_⟩
      · rw [mwM_s, mwM_e fs gs st n (w := W.2.2) (fun k hk => if_neg (by omega))]
        show _ = (_, _, match (if n = n then some (mwI fs gs W n) else W.2.2 n) with | none => _ | some i => _)
        rw [if_pos rfl]
      · show (if k = n then some (mwI fs gs W n) else W.2.2 k) = none
        rw [if_neg (by omega)]
        exact ih2 k (by omega)
    · rw [if_neg (show ¬ ((W.1, W.2.1, mwM fs gs W.2.2 st n).2.1 n = true ∧ 0 < (gs.getD n fl0).2.length ∧ mvI fs gs (W.1, W.2.1, mwM fs gs W.2.2 st n) n < fs.length) from c), if_neg c]
      refine ⟨?_, fun k hk => ih2 k (by omega)⟩
      rw [mwM_s, hn]
theorem dfM1_e (fs gs : List Fl) : dfM1 fs gs = mvL fs gs (gone0 fs gs, gone0 gs fs, chM fs gs gs.length) gs.length := ((mw_mv fs gs (gone0 fs gs) (gone0 gs fs) (chM fs gs gs.length) gs.length).1).symm
/-- what was there before stays in front -/
def preD (a : List Sv) (D : DS) : DS := (D.1, D.2.1, a ++ D.2.2)
theorem mvS_p (fs gs : List Fl) (a : List Sv) (D : DS) (j : Nat) : mvS fs gs (preD a D) j = preD a (mvS fs gs D j) := by
  have ei : mvI fs gs (preD a D) j = mvI fs gs D j := rfl
  unfold mvS
  by_cases c : D.2.1 j = true ∧ 0 < (gs.getD j fl0).2.length ∧ mvI fs gs D j < fs.length
  · rw [if_pos (show (preD a D).2.1 j = true ∧ 0 < (gs.getD j fl0).2.length ∧ mvI fs gs (preD a D) j < fs.length from c), if_pos c, ei]
    show (_, _, (a ++ D.2.2) ++ _) = (_, _, a ++ (D.2.2 ++ _))
    rw [List.append_assoc]
    rfl
  · rw [if_neg (show ¬ ((preD a D).2.1 j = true ∧ 0 < (gs.getD j fl0).2.length ∧ mvI fs gs (preD a D) j < fs.length) from c), if_neg c]
theorem mvL_p (fs gs : List Fl) (a : List Sv) (D : DS) : ∀ n, mvL fs gs (preD a D) n = preD a (mvL fs gs D n)
  | 0 => rfl
  | n + 1 => by
    have e1 : ∀ D, mvL fs gs D (n + 1) = mvS fs gs (mvL fs gs D n) n := fun D => by unfold mvL; rw [rgF]
    rw [e1, e1, mvL_p fs gs a D n, mvS_p]
theorem rnS_p (fs gs : List Fl) (a : List Sv) (D : DS) : rnS fs gs (preD a D) = (rnS fs gs D).map (preD a) := by
  unfold rnS
  have e : bsA fs gs (preD a D) gs.length = bsA fs gs D gs.length := rfl
  rw [e]
  cases (bsA fs gs D gs.length).2 with
  | none => rfl
  | some q =>
    show some (_, _, (a ++ D.2.2) ++ _) = some (_, _, a ++ (D.2.2 ++ _))
    rw [List.append_assoc]
    rfl
theorem rnL_p (fs gs : List Fl) (a : List Sv) : ∀ n D, rnL fs gs n (preD a D) = preD a (rnL fs gs n D)
  | 0, _ => rfl
  | n + 1, D => by
    unfold rnL
    rw [rnS_p]
    cases rnS fs gs D with
    | none => rfl
    | some D' => exact rnL_p fs gs a n D'
theorem otG_p (fs : List Fl) (G : Nat → Bool) (st : List Sv) : ∀ n, otG fs G st n = st ++ otG fs G [] n
  | 0 => (List.append_nil _).symm
  | n + 1 => by
    have e : ∀ st, otG fs G st (n + 1) = if G n = true then otG fs G st n ++ [mkS 1 (fs.getD n fl0) ((fs.getD n fl0).1, [])] else otG fs G st n := fun st => by unfold otG; rw [rgF]
    rw [e, e, otG_p fs G st n]
    split
    · rw [List.append_assoc]
    · rfl
theorem otN_p (gs : List Fl) (N : Nat → Bool) (st : List Sv) : ∀ n, otN gs N st n = st ++ otN gs N [] n
  | 0 => (List.append_nil _).symm
  | n + 1 => by
    have e : ∀ st, otN gs N st (n + 1) = if N n = true then otN gs N st n ++ [mkS 0 ((gs.getD n fl0).1, []) (gs.getD n fl0)] else otN gs N st n := fun st => by unfold otN; rw [rgF]
    rw [e, e, otN_p gs N st n]
    split
    · rw [List.append_assoc]
    · rfl
theorem otG_m (fs : List Fl) (G : Nat → Bool) (v : Sv) : ∀ n, v ∈ otG fs G [] n → ∃ i, i < n ∧ G i = true ∧ v = mkS 1 (fs.getD i fl0) ((fs.getD i fl0).1, [])
  | 0, h => absurd h (by simp [otG])
  | n + 1, h => by
    have e : otG fs G [] (n + 1) = if G n = true then otG fs G [] n ++ [mkS 1 (fs.getD n fl0) ((fs.getD n fl0).1, [])] else otG fs G [] n := by unfold otG; rw [rgF]
    rw [e] at h
    split at h
    · rename_i c
      rcases List.mem_append.mp h with h | h
      · obtain ⟨i, hi, q⟩ := otG_m fs G v n h
        exact ⟨i, by omega, q⟩
      · exact ⟨n, by omega, c, List.mem_singleton.mp h⟩
    · obtain ⟨i, hi, q⟩ := otG_m fs G v n h
      exact ⟨i, by omega, q⟩
theorem otN_m (gs : List Fl) (N : Nat → Bool) (v : Sv) : ∀ n, v ∈ otN gs N [] n → ∃ j, j < n ∧ N j = true ∧ v = mkS 0 ((gs.getD j fl0).1, []) (gs.getD j fl0)
  | 0, h => absurd h (by simp [otN])
  | n + 1, h => by
    have e : otN gs N [] (n + 1) = if N n = true then otN gs N [] n ++ [mkS 0 ((gs.getD n fl0).1, []) (gs.getD n fl0)] else otN gs N [] n := by unfold otN; rw [rgF]
    rw [e] at h
    split at h
    · rename_i c
      rcases List.mem_append.mp h with h | h
      · obtain ⟨i, hi, q⟩ := otN_m gs N v n h
        exact ⟨i, by omega, q⟩
      · exact ⟨n, by omega, c, List.mem_singleton.mp h⟩
    · obtain ⟨i, hi, q⟩ := otN_m gs N v n h
      exact ⟨i, by omega, q⟩
theorem okFl_0 {f : Fl} (h : okFl f) : okFl (f.1, []) := ⟨h.1, h.2.1, by show 0 ≤ 48; omega, fun k hk => absurd hk (Nat.not_lt_zero _)⟩
theorem ot_ok {fs gs : List Fl} (hF : okT fs) (hG : okT gs) (oF : okFs fs) (oG : okFs gs) {D : DS} (h : inD fs gs D) : okVs (otN gs D.2.1 (otG fs D.1 D.2.2 fs.length) gs.length) := by
  have h1 : ∀ n, n ≤ fs.length → okVs (otG fs D.1 D.2.2 n) := by
    intro n
    induction n with
    | zero => intro _; exact h.1
    | succ n ih =>
      intro hn
      have e : otG fs D.1 D.2.2 (n + 1) = if D.1 n = true then otG fs D.1 D.2.2 n ++ [mkS 1 (fs.getD n fl0) ((fs.getD n fl0).1, [])] else otG fs D.1 D.2.2 n := by unfold otG; rw [rgF]
      rw [e]
      split
      · rename_i c
        refine okVs_a (ih (by omega)) (okV_mk (oF _ (by omega)) (okFl_0 (oF _ (by omega))) (by decide) (fun z => absurd z (by decide)) (fun _ => ⟨rfl, rfl⟩) (fun z => absurd z (by decide)) (fun z => absurd z (by decide))) (fun a ha => ⟨fun _ _ z => ?_, fun _ w => absurd rfl w⟩)
        have z : a.2.2.1 = (fs.getD n fl0).1 := z
        rw [otG_p] at ha
        rcases List.mem_append.mp ha with ha | ha
        · obtain ⟨-, ⟨i, hi, gi, ei⟩, -⟩ := h.2 a ha
          rw [ei] at z
          have := hF.2.2 i n hi (by omega) z
          rw [this, c] at gi; cases gi
        · obtain ⟨i, hi, gi, ei⟩ := otG_m fs D.1 a n ha
          rw [ei] at z
          have := hF.2.2 i n (by omega) (by omega) z
          omega
      · exact ih (by omega)
  have h2 : ∀ n, n ≤ gs.length → okVs (otN gs D.2.1 (otG fs D.1 D.2.2 fs.length) n) := by
    intro n
    induction n with
    | zero => intro _; exact h1 _ (Nat.le_refl _)
    | succ n ih =>
      intro hn
      have e : otN gs D.2.1 (otG fs D.1 D.2.2 fs.length) (n + 1) = if D.2.1 n = true then otN gs D.2.1 (otG fs D.1 D.2.2 fs.length) n ++ [mkS 0 ((gs.getD n fl0).1, []) (gs.getD n fl0)] else otN gs D.2.1 (otG fs D.1 D.2.2 fs.length) n := by unfold otN; rw [rgF]
      rw [e]
      split
      · rename_i c
        refine okVs_a (ih (by omega)) (okV_mk (okFl_0 (oG _ (by omega))) (oG _ (by omega)) (by decide) (fun _ => ⟨rfl, rfl⟩) (fun z => absurd z (by decide)) (fun z => absurd z (by decide)) (fun z => absurd z (by decide))) (fun a ha => ⟨fun _ w => absurd rfl w, fun w1 _ z => ?_⟩)
        have z : a.2.1 = (gs.getD n fl0).1 := z
        rw [otN_p, otG_p] at ha
        rcases List.mem_append.mp ha with ha | ha
        · rcases List.mem_append.mp ha with ha | ha
          · obtain ⟨-, -, j, hj, gj, ej⟩ := h.2 a ha
            rw [ej] at z
            have := hG.2.2 j n hj (by omega) z
            rw [this, c] at gj; cases gj
          · obtain ⟨i, hi, gi, ei⟩ := otG_m fs D.1 a _ ha
            rw [ei] at w1
            exact w1 rfl
        · obtain ⟨i, hi, gi, ei⟩ := otN_m gs D.2.1 a n ha
          rw [ei] at z
          have := hG.2.2 i n (by omega) (by omega) z
          omega
      · exact ih (by omega)
  exact h2 _ (Nat.le_refl _)
theorem inD_0 {fs gs : List Fl} (hF : okT fs) (hG : okT gs) (oF : okFs fs) (oG : okFs gs) : inD fs gs (gone0 fs gs, gone0 gs fs, chL fs gs fs.length) := by
  refine ⟨chL_ok hF hG oF oG _ (Nat.le_refl _), fun v hv => ?_⟩
  obtain ⟨i, hi, hc, ev⟩ := (chL_m fs gs v _).mp hv
  rw [ev]
  refine ⟨⟨by show ¬ (2 : Int32) = 0; decide, by show ¬ (2 : Int32) = 1; decide⟩, ⟨i, hi, decide_eq_false (fun z => z hc.1), rfl⟩, fnd gs (fs.getD i fl0).1, hc.1, decide_eq_false (fun z => z ?_), rfl⟩
  rw [fnd_t hc.1]
  exact fnd_lt hi rfl
theorem difX_ok {fs gs : List Fl} (hF : okT fs) (hG : okT gs) (oF : okFs fs) (oG : okFs gs) : okVs (difX fs gs) := ot_ok hF hG oF oG (inD_rn hF hG oF oG 10 _ (inD_mv hF hG oF oG (inD_0 hF hG oF oG) _ (Nat.le_refl _)))
theorem dif_pm {fs gs : List Fl} (hF : okT fs) (hG : okT gs) (oF : okFs fs) (oG : okFs gs) : (difX fs gs).Perm (difM fs gs) := by
  have ec : ∀ c, (gone0 fs gs, gone0 gs fs, c) = preD c (gone0 fs gs, gone0 gs fs, []) := fun c => by
    show _ = (_, _, c ++ [])
    rw [List.append_nil]
  have eX : difD fs gs = preD (chL fs gs fs.length) (rnL fs gs 10 (mvL fs gs (gone0 fs gs, gone0 gs fs, []) gs.length)) := by
    unfold difD
    rw [ec, mvL_p, rnL_p]
  have eM : dfM2 fs gs = preD (chM fs gs gs.length) (rnL fs gs 10 (mvL fs gs (gone0 fs gs, gone0 gs fs, []) gs.length)) := by
    unfold dfM2
    rw [dfM1_e, ec, mvL_p, rnL_p]
  unfold difX difM
  rw [eX, eM]
  generalize rnL fs gs 10 (mvL fs gs (gone0 fs gs, gone0 gs fs, []) gs.length) = E
  show (otN gs E.2.1 (otG fs E.1 (chL fs gs fs.length ++ E.2.2) fs.length) gs.length).Perm (otG fs E.1 (otN gs E.2.1 (chM fs gs gs.length ++ E.2.2) gs.length) fs.length)
  rw [otN_p, otG_p, otG_p _ _ (otN _ _ _ _), otN_p _ _ (chM _ _ _ ++ _), List.append_assoc (chL _ _ _ ++ _), List.append_assoc (chM _ _ _ ++ _)]
  refine List.Perm.append ((ch_pm hF hG oF oG).append_right _) List.perm_append_comm
theorem dif_eq {fs gs : List Fl} (hF : okT fs) (hG : okT gs) (oF : okFs fs) (oG : okFs gs) : stV (difX fs gs) = stV (difM fs gs) := stV_eq (dif_pm hF hG oF oG) (difX_ok hF hG oF oG)
