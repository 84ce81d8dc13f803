/-! 7zn a chain stays right -/
theorem joK_1 {v w : Sv} (h : joLd v w) : (joK v w = 0 ↔ v.1 = 0) ∧ (joK v w = 1 ↔ w.1 = 1) := by
  unfold joK
  by_cases c : v.1 = 0
  · rw [if_pos c]
    exact ⟨⟨fun _ => c, fun _ => rfl⟩, ⟨fun z => absurd z (by decide), fun z => absurd ⟨c, z⟩ h.1⟩⟩
  · rw [if_neg c]
    by_cases c1 : w.1 = 1
    · rw [if_pos c1]
      exact ⟨⟨fun z => absurd z (by decide), fun z => absurd z c⟩, ⟨fun _ => c1, fun _ => rfl⟩⟩
    · rw [if_neg c1]
      split
      · exact ⟨⟨fun z => absurd z (by decide), fun z => absurd z c⟩, ⟨fun z => absurd z (by decide), fun z => absurd z c1⟩⟩
      · split
        · exact ⟨⟨fun z => absurd z (by decide), fun z => absurd z c⟩, ⟨fun z => absurd z (by decide), fun z => absurd z c1⟩⟩
        · exact ⟨⟨fun z => absurd z (by decide), fun z => absurd z c⟩, ⟨fun z => absurd z (by decide), fun z => absurd z c1⟩⟩
theorem joK_r (v w : Sv) : joK v w = 0 ∨ joK v w = 1 ∨ joK v w = 2 ∨ joK v w = 3 ∨ joK v w = 4 := by
  unfold joK
  split
  · decide
  · split
    · decide
    · split
      · decide
      · split <;> decide
theorem joK_2 {v w : Sv} (h : joK v w = 2) : joP v w = joF v w := by
  unfold joK at h
  split at h
  · exact absurd h (by decide)
  · split at h
    · exact absurd h (by decide)
    · split at h
      · assumption
      · split at h <;> exact absurd h (by decide)
theorem okO_j {ys zs : List Int32} {n : Nat} (hl : ys.length ≤ 48) (hz : okO zs ys.length) (hy : okO ys n) : okO (joinD ys zs) n := fun k hk => by
  rw [joinD_l hl hz] at hk
  rw [joinD_g hl hz hk]
  rcases hz k hk with z | ⟨i, hi, ez⟩
  · have n0 := (told_n z).1
    rw [if_neg n0]; exact Or.inl z
  · rw [ez, if_pos (nI_pos' (by omega)), nI_clamp (by omega)]
    exact hy i hi
theorem okV_joV {v w : Sv} (hv : okV v) (hw : okV w) (hl : lkJ v w) (hg : goV v w) (h : joLd v w) : okV (joV v w) := by
  have hlen := okV_jo hv hw hl.1 hl.2.1 hg
  have hk := joK_1 h
  have lv := hv.2.2.2.2.1
  have lw := hw.2.2.2.2.1
  have hOd : okO w.2.2.2.2.2.2.2.1 v.2.2.2.2.2.2.2.1.length := fun k hk => by rw [hlen]; exact hw.2.2.2.2.2.1 k hk
  have hOb : okO v.2.2.2.2.2.2.2.2 w.2.2.2.2.2.2.2.2.length := fun k hk => by rw [← hlen]; exact hv.2.2.2.2.2.2.1 k hk
  have ld : (joD v w).length = w.2.2.2.2.2.2.2.1.length := joinD_l lv.1 hOd
  have lb : (joB v w).length = v.2.2.2.2.2.2.2.2.length := joinD_l lw.2 hOb
  have hP : okP (joP v w) ∧ (joP v w).length ≤ 17 := by
    unfold joP
    split
    · exact ⟨hv.2.1.2.1, hv.2.1.2.2.2⟩
    · exact ⟨hw.2.1.1, hw.2.1.2.2.1⟩
  have hF : okP (joF v w) ∧ (joF v w).length ≤ 17 := by
    unfold joF
    split
    · exact ⟨hw.2.1.1, hw.2.1.2.2.1⟩
    · exact ⟨hv.2.1.2.1, hv.2.1.2.2.2⟩
  refine ⟨joK_r v w, ⟨hP.1, hF.1, hP.2, hF.2⟩, ⟨fun c => ?_, fun c => ?_⟩, ⟨fun c => ?_, fun c => ?_⟩, ⟨by show (joD v w).length ≤ 48; omega, by show (joB v w).length ≤ 48; omega⟩, ?_, ?_, fun c => ?_⟩
  · have c1 := hw.2.2.1.1 (hk.2.mp c)
    refine ⟨c1.1, c1.2.1, List.length_eq_zero_iff.mp ?_⟩
    show (joD v w).length = 0
    rw [ld, c1.2.2]; rfl
  · show w.2.2.2.2.2.1 = nI (joD v w).length
    rw [ld]; exact hw.2.2.1.2 (fun z => c (hk.2.mpr z))
  · have c1 := hv.2.2.2.1.1 (hk.1.mp c)
    refine ⟨c1.1, c1.2.1, List.length_eq_zero_iff.mp ?_⟩
    show (joB v w).length = 0
    rw [lb, c1.2.2]; rfl
  · show v.2.2.2.1 = nI (joB v w).length
    rw [lb]; exact hv.2.2.2.1.2 (fun z => c (hk.1.mpr z))
  · show okO (joD v w) (joB v w).length
    rw [lb]
    exact okO_j lv.1 hOd (fun k hk => hv.2.2.2.2.2.1 k hk)
  · show okO (joB v w) (joD v w).length
    rw [ld]
    exact okO_j lw.2 hOb (fun k hk => hw.2.2.2.2.2.2.1 k hk)
  · show joP v w = joF v w
    rcases c with c | c | c
    · have c0 := hk.1.mp c
      unfold joP joF
      rw [if_neg (fun z => h.1 ⟨c0, z⟩), if_pos c0]
    · have c1 := hk.2.mp c
      unfold joP joF
      rw [if_pos c1, if_neg (fun z => h.1 ⟨z, c1⟩)]
    · exact joK_2 c
theorem okV_chg {v w : Sv} (hv : okV v) (hw : okV w) (hl : lkC v w) : okV (chgV v w) := by
  have hw0 := hw.2.2.2.1.1 hl.2.1
  have hv1 := hv.2.2.1.1 hl.1
  have hn1 : ¬ w.1 = 1 := by rw [hl.2.1]; decide
  have hn0 : ¬ v.1 = 0 := by rw [hl.1]; decide
  refine ⟨Or.inr (Or.inr (Or.inl rfl)), ⟨hw.2.1.1, hv.2.1.1, hw.2.1.2.2.1, hv.2.1.2.2.1⟩, ⟨fun c => absurd c (by show ¬ (2 : Int32) = 1; decide), fun _ => hw.2.2.1.2 hn1⟩, ⟨fun c => absurd c (by show ¬ (2 : Int32) = 0; decide), fun _ => hv.2.2.2.1.2 hn0⟩, ⟨hw.2.2.2.2.1.1, hv.2.2.2.2.1.2⟩, fun k hk => ?_, fun k hk => ?_, fun _ => hl.2.2.symm⟩
  · rcases hw.2.2.2.2.2.1 k hk with z | ⟨i, hi, _⟩
    · exact Or.inl z
    · rw [hw0.2.2] at hi; exact absurd hi (Nat.not_lt_zero _)
  · rcases hv.2.2.2.2.2.2.1 k hk with z | ⟨i, hi, _⟩
    · exact Or.inl z
    · rw [hv1.2.2] at hi; exact absurd hi (Nat.not_lt_zero _)
/-- whose SOURCE, whose TARGET -/
theorem cn_S {vs ws : List Sv} (hV : okVs vs) {w b : Sv} (h : cnO vs w = some b) (h0 : ¬ b.1 = 0) : (∃ v, v ∈ vs ∧ ¬ v.1 = 0 ∧ (lkJ v w ∨ lkC v w) ∧ b.2.2.1 = v.2.2.1) ∨ (b = w ∧ ∀ v, v ∈ vs → ¬ (lkJ v w ∨ lkC v w)) := by
  rcases (cnO_i (ws := ws) hV).mp h with ⟨v, hv, h1, h2, e⟩ | ⟨v, hv, h1, e⟩ | ⟨e, hn⟩
  · have hv0 : ¬ v.1 = 0 := fun z => h0 (by rw [e]; exact (joK_1 h2).1.mpr z)
    refine Or.inl ⟨v, hv, hv0, Or.inl h1, ?_⟩
    rw [e]
    exact if_neg hv0
  · refine Or.inl ⟨v, hv, by rw [h1.1]; decide, Or.inr h1, ?_⟩
    rw [e]
    exact (hV.1 v hv).2.2.2.2.2.2.2 (Or.inr (Or.inl h1.1))
  · exact Or.inr ⟨e, hn⟩
theorem cn_T {vs ws : List Sv} (hV : okVs vs) {w b : Sv} (h : cnO vs w = some b) (h0 : ¬ b.1 = 1) : ¬ w.1 = 1 ∧ b.2.1 = w.2.1 := by
  rcases (cnO_i (ws := ws) hV).mp h with ⟨v, hv, h1, h2, e⟩ | ⟨v, hv, h1, e⟩ | ⟨e, hn⟩
  · have hw1 : ¬ w.1 = 1 := fun z => h0 (by rw [e]; exact (joK_1 h2).2.mpr z)
    refine ⟨hw1, ?_⟩
    rw [e]
    exact if_neg hw1
  · exact ⟨by rw [h1.2.1]; decide, by rw [e]; rfl⟩
  · exact ⟨by rw [← e]; exact h0, by rw [e]⟩
theorem jf_S {vs ws : List Sv} (hV : okVs vs) (hW : okVs ws) {v b : Sv} (hv : v ∈ vs) (h : jfV ws v = some b) (h0 : ¬ b.1 = 0) : ¬ v.1 = 0 ∧ b.2.2.1 = v.2.2.1 := by
  rcases (jfV_i hV hW hv).mp h with ⟨w, hw, h1, h2, e⟩ | ⟨w, hw, h1, e⟩ | ⟨e, hn⟩
  · have hv0 : ¬ v.1 = 0 := fun z => h0 (by rw [e]; exact (joK_1 h2).1.mpr z)
    refine ⟨hv0, ?_⟩
    rw [e]
    exact if_neg hv0
  · refine ⟨by rw [h1.1]; decide, ?_⟩
    rw [e]
    exact (hV.1 v hv).2.2.2.2.2.2.2 (Or.inr (Or.inl h1.1))
  · exact ⟨by rw [← e]; exact h0, by rw [e]⟩
theorem jf_T {vs ws : List Sv} (hV : okVs vs) (hW : okVs ws) {v b : Sv} (hv : v ∈ vs) (h : jfV ws v = some b) (h0 : ¬ b.1 = 1) : (∃ w, w ∈ ws ∧ ¬ w.1 = 1 ∧ (lkJ v w ∨ lkC v w) ∧ b.2.1 = w.2.1) ∨ (b = v ∧ ∀ w, w ∈ ws → ¬ (lkJ v w ∨ lkC v w)) := by
  rcases (jfV_i hV hW hv).mp h with ⟨w, hw, h1, h2, e⟩ | ⟨w, hw, h1, e⟩ | ⟨e, hn⟩
  · have hw1 : ¬ w.1 = 1 := fun z => h0 (by rw [e]; exact (joK_1 h2).2.mpr z)
    refine Or.inl ⟨w, hw, hw1, Or.inl h1, ?_⟩
    rw [e]
    exact if_neg hw1
  · exact Or.inl ⟨w, hw, by rw [h1.2.1]; decide, Or.inr h1, by rw [e]; rfl⟩
  · exact Or.inr ⟨e, hn⟩
theorem pw_fm {f : Sv → Option Sv} : ∀ {l : List Sv}, l.Pairwise dsR → (∀ a, a ∈ l → ∀ a', a' ∈ l → dsR a a' → ∀ b, f a = some b → ∀ b', f a' = some b' → dsR b b') → (l.filterMap f).Pairwise dsR
  | [], _, _ => List.Pairwise.nil
  | x :: l, h, hf => by
    have h' := List.pairwise_cons.mp h
    have ih := pw_fm (f := f) h'.2 (fun a ha a' ha' => hf a (List.mem_cons_of_mem _ ha) a' (List.mem_cons_of_mem _ ha'))
    cases hx : f x with
    | none => rw [List.filterMap_cons_none hx]; exact ih
    | some b =>
      rw [List.filterMap_cons_some hx]
      refine List.pairwise_cons.mpr ⟨fun b' hb' => ?_, ih⟩
      obtain ⟨a', ha', e⟩ := List.mem_filterMap.mp hb'
      exact hf x (List.mem_cons_self ..) a' (List.mem_cons_of_mem _ ha') (h'.1 a' ha') b hx b' e
theorem chX_pw {vs ws : List Sv} (hV : okVs vs) (hW : okVs ws) (hR : rulC vs ws) : (chX vs ws).Pairwise dsR := by
  obtain ⟨r1, r2, r3⟩ := hR
  have hb2 : ∀ b, b ∈ ws.filterMap (fun w => if isJ vs w = true then none else some w) → b ∈ ws ∧ ∀ v, v ∈ vs → ¬ (lkJ v b ∨ lkC v b) := fun b hb => by
    obtain ⟨w, hw, e⟩ := List.mem_filterMap.mp hb
    split at e
    · cases e
    · rename_i hj
      have e := Option.some.inj e
      subst e
      exact ⟨hw, fun v hv z => hj ((isJ_i hV).mpr ⟨v, hv, z⟩)⟩
  refine List.pairwise_append.mpr ⟨pw_fm hV.2 (fun v hv v' hv' hd b hb b' hb' => ⟨fun x y z => ?_, fun x y z => ?_⟩), pw_fm hW.2 (fun w hw w' hw' hd b hb b' hb' => ?_), fun b hb w' hw' => ?_⟩
  · have s1 := jf_S hV hW hv hb x
    have s2 := jf_S hV hW hv' hb' y
    exact hd.1 s1.1 s2.1 (s1.2.symm.trans (z.trans s2.2))
  · rcases jf_T hV hW hv hb x with ⟨w, hw, w1, l1, e1⟩ | ⟨e1, n1⟩
    · rcases jf_T hV hW hv' hb' y with ⟨w', hw', w1', l1', e1'⟩ | ⟨e1', n1'⟩
      · have ew := tgt_u hW.2 hw hw' w1 w1' (e1.symm.trans (z.trans e1'))
        rw [← ew] at l1'
        rw [lk_w hV hv hv' l1 l1'] at hd
        exact dsR_i hd
      · rw [e1'] at y z
        obtain ⟨w'', hw'', hl⟩ := r3 v' w hv' hw y w1 (z.symm.trans e1)
        exact n1' w'' hw'' (Or.inl hl)
    · rcases jf_T hV hW hv' hb' y with ⟨w', hw', w1', l1', e1'⟩ | ⟨e1', n1'⟩
      · rw [e1] at x z
        obtain ⟨w'', hw'', hl⟩ := r3 v w' hv hw' x w1' (z.trans e1')
        exact n1 w'' hw'' (Or.inl hl)
      · rw [e1] at x z
        rw [e1'] at y z
        exact hd.2 x y z
  · split at hb
    · cases hb
    · split at hb'
      · cases hb'
      · rw [← Option.some.inj hb, ← Option.some.inj hb']; exact hd
  · obtain ⟨v, hv, hb⟩ := List.mem_filterMap.mp hb
    obtain ⟨hw, hn⟩ := hb2 w' hw'
    refine ⟨fun x y z => ?_, fun x y z => ?_⟩
    · have s1 := jf_S hV hW hv hb x
      exact r1 w' hw y (fun v hv q => hn v hv (Or.inl q)) v hv s1.1 (s1.2.symm.trans z)
    · rcases jf_T hV hW hv hb x with ⟨w, hw2, w1, l1, e1⟩ | ⟨e1, n1⟩
      · have ew := tgt_u hW.2 hw2 hw w1 y (e1.symm.trans z)
        rw [ew] at l1
        exact hn v hv l1
      · rw [e1] at x z
        obtain ⟨w'', hw'', hl⟩ := r3 v w' hv hw x y z
        exact n1 w'' hw'' (Or.inl hl)
theorem cnU_pw {vs : List Sv} (hV : okVs vs) (ws : List Sv) : (cnU vs ws vs.length).Pairwise dsR := by
  unfold cnU
  refine List.Pairwise.map _ (R := fun i j => dsR (vs.getD i sv0) (vs.getD j sv0)) (fun a b h => h) ?_
  refine List.Pairwise.filter _ (List.Pairwise.imp_of_mem (fun {i j} hi hj h => pwG hV.2 h (List.mem_range.mp hj)) List.pairwise_lt_range)
theorem cnM_pw {vs ws : List Sv} (hV : okVs vs) (hW : okVs ws) (hR : rulC vs ws) : (cnM vs ws).Pairwise dsR := by
  obtain ⟨r1, r2, r3⟩ := hR
  refine List.pairwise_append.mpr ⟨pw_fm hW.2 (fun w hw w' hw' hd b hb b' hb' => ⟨fun x y z => ?_, fun x y z => ?_⟩), cnU_pw hV ws, fun b hb v' hv' => ?_⟩
  · rcases cn_S (ws := ws) hV hb x with ⟨v, hv, v1, l1, e1⟩ | ⟨e1, n1⟩
    · rcases cn_S (ws := ws) hV hb' y with ⟨v', hv', v1', l1', e1'⟩ | ⟨e1', n1'⟩
      · have ev := src_u hV.2 hv hv' v1 v1' (e1.symm.trans (z.trans e1'))
        rw [← ev] at l1'
        rw [lk_v hW hw hw' l1 l1'] at hd
        exact dsR_i hd
      · rw [e1'] at y z
        exact r1 w' hw' y (fun v hv q => n1' v hv (Or.inl q)) v hv v1 (e1.symm.trans z)
    · rcases cn_S (ws := ws) hV hb' y with ⟨v', hv', v1', l1', e1'⟩ | ⟨e1', n1'⟩
      · rw [e1] at x z
        exact r1 w hw x (fun v hv q => n1 v hv (Or.inl q)) v' hv' v1' (e1'.symm.trans z.symm)
      · rw [e1] at x z
        rw [e1'] at y z
        exact hd.1 x y z
  · have t1 := cn_T (ws := ws) hV hb x
    have t2 := cn_T (ws := ws) hV hb' y
    exact hd.2 t1.1 t2.1 (t1.2.symm.trans (z.trans t2.2))
  · obtain ⟨w, hw, hb⟩ := List.mem_filterMap.mp hb
    obtain ⟨hv, hn⟩ := (cnU_i hV).mp hv'
    refine ⟨fun x y z => ?_, fun x y z => ?_⟩
    · rcases cn_S (ws := ws) hV hb x with ⟨v, hv2, v1, l1, e1⟩ | ⟨e1, n1⟩
      · have ev := src_u hV.2 hv2 hv v1 y (e1.symm.trans z)
        rw [ev] at l1
        exact hn w hw l1
      · rw [e1] at x z
        exact r1 w hw x (fun v hv q => n1 v hv (Or.inl q)) v' hv y z.symm
    · have t1 := cn_T (ws := ws) hV hb x
      obtain ⟨w'', hw'', hl⟩ := r3 v' w hv hw y t1.1 (z.symm.trans t1.2)
      exact hn w'' hw'' (Or.inl hl)
theorem cnM_ok {vs ws : List Sv} (hV : okVs vs) (hW : okVs ws) (hR : rulC vs ws) : okVs (cnM vs ws) := by
  refine ⟨fun b hb => ?_, cnM_pw hV hW hR⟩
  unfold cnM at hb
  rcases List.mem_append.mp hb with hb | hb
  · obtain ⟨w, hw, hb⟩ := List.mem_filterMap.mp hb
    rcases (cnO_i (ws := ws) hV).mp hb with ⟨v, hv, h1, h2, e⟩ | ⟨v, hv, h1, e⟩ | ⟨e, hn⟩
    · rw [e]; exact okV_joV (hV.1 v hv) (hW.1 w hw) h1 (hR.2.1 v w hv hw h1) h2
    · rw [e]; exact okV_chg (hV.1 v hv) (hW.1 w hw) h1
    · rw [e]; exact hW.1 w hw
  · exact hV.1 b ((cnU_i hV).mp hb).1
theorem kpV_s {l : List Sv} (o : Option Sv) : kpV (if l.length ≤ 24 then some (stV l) else none) o = if (l ++ o.toList).length ≤ 24 then some (stV (l ++ o.toList)) else none := by
  cases o with
  | none =>
    rw [show (none : Option Sv).toList = [] from rfl, List.append_nil]
    split
    · rfl
    · rfl
  | some v =>
    have hl : (l ++ (some v).toList).length = l.length + 1 := by rw [List.length_append]; rfl
    rw [hl]
    by_cases c : l.length ≤ 24
    · rw [if_pos c]
      show (if (stV l).length < 24 then some (addV (stV l) v) else none) = _
      rw [stV_l]
      by_cases c2 : l.length < 24
      · rw [if_pos c2, if_pos (by omega), show l ++ (some v).toList = l ++ [v] from rfl, stV_a]
      · rw [if_neg c2, if_neg (by omega)]
    · rw [if_neg c, if_neg (by omega)]
      rfl
theorem fm_s {f : Sv → Option Sv} {l : List Sv} {n : Nat} (h : n < l.length) : (l.take (n + 1)).filterMap f = (l.take n).filterMap f ++ (f (l.getD n sv0)).toList := by
  rw [tkG h, List.filterMap_append]
  congr 1
theorem jn2_e (vs ws : List Sv) : jn2 vs ws ws.length = if (chX vs ws).length ≤ 24 then some (stV (chX vs ws)) else none := by
  have h1 : ∀ n, n ≤ vs.length → jn1 vs ws n = if ((vs.take n).filterMap (jfV ws)).length ≤ 24 then some (stV ((vs.take n).filterMap (jfV ws))) else none := by
    intro n
    induction n with
    | zero => intro _; rfl
    | succ n ih =>
      intro hn
      have e : jn1 vs ws (n + 1) = kpV (jn1 vs ws n) (jfV ws (vs.getD n sv0)) := by unfold jn1; rw [rgF]
      rw [e, ih (by omega), kpV_s, fm_s (by omega)]
  have h2 : ∀ n, n ≤ ws.length → jn2 vs ws n = if (vs.filterMap (jfV ws) ++ (ws.take n).filterMap (fun w => if isJ vs w = true then none else some w)).length ≤ 24 then some (stV (vs.filterMap (jfV ws) ++ (ws.take n).filterMap (fun w => if isJ vs w = true then none else some w))) else none := by
    intro n
    induction n with
    | zero =>
      intro _
      have := h1 vs.length (Nat.le_refl _)
      rw [List.take_length] at this
      show jn1 vs ws vs.length = _
      rw [this, List.take_zero, List.filterMap_nil, List.append_nil]
    | succ n ih =>
      intro hn
      have e : jn2 vs ws (n + 1) = kpV (jn2 vs ws n) (if isJ vs (ws.getD n sv0) = true then none else some (ws.getD n sv0)) := by unfold jn2; rw [rgF]
      rw [e, ih (by omega), kpV_s, fm_s (by omega), List.append_assoc]
  have := h2 ws.length (Nat.le_refl _)
  rw [List.take_length] at this
  exact this
theorem jn2_M {vs ws : List Sv} (hV : okVs vs) (hW : okVs ws) (h : cruA vs ws = 0) : jn2 vs ws ws.length = if (cnM vs ws).length ≤ 24 then some (stV (cnM vs ws)) else none := by
  have hR := rulC_of hV h
  have hp := pm_of _ _ (chX_pw hV hW hR) (cnM_pw hV hW hR) (chX_m hV hW)
  rw [jn2_e, hp.length_eq, stV_eq hp.symm (cnM_ok hV hW hR)]
