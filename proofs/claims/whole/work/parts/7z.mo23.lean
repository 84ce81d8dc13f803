/-! 7z the other object: which RULE a STEP breaks -/
/-- origins that are told, or stand in the SOURCE -/
def okO (zs : List Int32) (n : Nat) : Prop := ∀ k, k < zs.length → told (zs.getD k 0) ∨ ∃ i, i < n ∧ zs.getD k 0 = nI i
theorem told_n {z : Int32} (h : told z) : ¬ 0 ≤ z ∧ ∃ b, b < 256 ∧ z ^^^ (-1) = nI b := by
  obtain ⟨b, hb, e⟩ := h
  have h1 : ∀ q : Fin 256, ¬ 0 ≤ nI q.val ^^^ (-1) ∧ (nI q.val ^^^ (-1)) ^^^ (-1) = nI q.val := by decide +kernel
  rw [e]
  exact ⟨(h1 ⟨b, hb⟩).1, b, hb, (h1 ⟨b, hb⟩).2⟩
theorem byI_n {b : Nat} (h : b < 256) : byI (nI b) = b := by
  have : ∀ q : Fin 256, byI (nI q.val) = q.val := by decide +kernel
  exact this ⟨b, h⟩
theorem makeZ_t {xs : List Nat} {z : Int32} {b : Nat} (h : ¬ 0 ≤ z) (hb : b < 256) (e : z ^^^ (-1) = nI b) : makeZ xs z = b := by
  unfold makeZ
  rw [if_neg h, e]
  exact byI_n hb
theorem makeZ_c {xs : List Nat} {i : Nat} (h : i < xs.length) (hl : xs.length < 2 ^ 31) : makeZ xs (nI i) = xs.getD i 0 := by
  unfold makeZ
  rw [if_pos (nI_pos' (by omega)), if_neg (fun w => absurd ((leI (by omega) (by omega)).mp w) (by omega)), nI_clamp (by omega)]
theorem makeD_l (zs : List Int32) (xs : List Nat) : (makeD zs xs).length = zs.length := List.length_map _
theorem makeD_g {zs : List Int32} {xs : List Nat} {k : Nat} (hk : k < zs.length) : (makeD zs xs).getD k 0 = makeZ xs (zs.getD k 0) := by
  unfold makeD
  rw [List.getD_eq_getElem?_getD, List.getElem?_map, List.getD_eq_getElem?_getD, List.getElem?_eq_getElem hk]
  rfl
/-- all told: the SOURCE doesn't matter -/
theorem makeD_0 {zs : List Int32} (h : okO zs 0) (xs ys : List Nat) : makeD zs xs = makeD zs ys := by
  apply List.ext_getElem (by rw [makeD_l, makeD_l])
  intro k h1 h2
  rw [makeD_l] at h1
  have e1 := makeD_g (xs := xs) h1
  have e2 := makeD_g (xs := ys) h1
  rw [List.getD_eq_getElem?_getD, List.getElem?_eq_getElem (by rw [makeD_l]; exact h1)] at e1 e2
  have e1 : (makeD zs xs)[k] = makeZ xs (zs.getD k 0) := e1
  have e2 : (makeD zs ys)[k] = makeZ ys (zs.getD k 0) := e2
  rw [e1, e2]
  rcases h k h1 with z | ⟨i, hi, _⟩
  · obtain ⟨n0, b, hb, e⟩ := told_n z
    rw [makeZ_t n0 hb e, makeZ_t n0 hb e]
  · omega
theorem takA_s (vs : List Sv) (G : Nat → Bool) (bs : List Nat) (k : Nat) : decide (fstI (takP vs G bs) (k + 1) < k + 1) = (decide (fstI (takP vs G bs) k < k) || takP vs G bs k) := fstD _ k
section
variable {Λ : yL} {f0 : xH} {S S' S1 S2 : yS} {m d p s t u f g : Nat} {J F : Nat → Prop} {v w : Sv} {vs : List Sv} {zs : List Int32} {fs gs : List Fl} {xs ys bs cs : List Nat} {B : Ab} {x y a b c e z : Int32} {G : Nat → Bool} {post : Option Value → xH → Prop}
theorem Mo_make_sp (hL : mLay Λ m) (hs : s < 220) (hv : mS S m s v) (hov : okV v) {p1 : Nat} (g1 : rg (yA S 11 7 m) p1 xs) (b1 : p1 + xs.length ≤ 6240) (hxl : xs.length ≤ 48) (hO : okO v.2.2.2.2.2.2.2.1 xs.length) (hp : ∀ S', zX m (fun j => j = 35) S S' → rg (yA S' 11 35 m) 0 (makeD v.2.2.2.2.2.2.2.1 xs) → post none (yH Λ f0 S')) : xSp xT0 (d + 2) j_Mo_make [.ref m, .int (nI s), .ref (Λ.2.1 11 7 m), .int (nI p1), .int 0] (yH Λ f0 S) post := by
  have hW := hL.1
  have ho := hL.2.1
  obtain ⟨s1, s2, s3, ⟨s8, s9, s10, s11⟩, ⟨s12, s13⟩, s14, s15⟩ := hv
  have hby := okV_d hov
  generalize v.2.2.2.2.2.2.2.1 = zs at *
  refine xSp_of (M := m_Mo_make) rfl (b_Mo_make_0 ?_)
  have hlo : ∀ k, k ≤ zs.length → (∀ S1 (u6 : Option Value), zX m (fun j => j = 35) S S1 → (∀ i, i < k → yA S1 11 35 m i = sb (makeZ xs (zs.getD i 0)) ∧ makeZ xs (zs.getD i 0) < 256) → xWp (xT0, xSp xT0 (d + 1), none, m_Mo_make, post) 3 [some (.ref m), some (.int (nI s)), some (.ref (Λ.2.1 11 7 m)), some (.int (nI p1)), some (.int 0), some (.int (nI k)), u6] [] (yH Λ f0 S1) 0 0) := by
    refine loopUp ?_ ?_
    · intro S1 u6 k1 hg
      refine b_Mo_make_3 (ygr ho rfl (yal (mk18 hL) (vp_in_nI hs (by omega)) (Mo_bytesOf_sp (xviI ?_))))
      rw [nI_clamp (by omega), (mX k1 (j := 18) (by omega)).2, s10, hby]
      refine brle (by omega) (by omega) (fun _ => hp S1 k1 (fun i hi => ?_)) (fun w => by omega)
      rw [makeD_l] at hi
      rw [makeD_g hi, Nat.zero_add]
      exact hg i hi
    · intro k hk ih S1 u6 k1 hg
      refine b_Mo_make_3 (ygr ho rfl (yal (mk18 hL) (vp_in_nI hs (by omega)) (Mo_bytesOf_sp (xviI ?_))))
      have e0 : (0 : Int32) + nI k = nI k := by rw [Int32.zero_add]
      rw [nI_clamp (by omega), (mX k1 (j := 18) (by omega)).2, s10, hby, n48, nI_add, e0, nI_1 k]
      refine brle (by omega) (by omega) (fun w => by omega) (fun _ => ygr ho rfl (yal (mk20 hL) (vp_in_nI (by omega) (by omega)) (ygr ho rfl ?_)))
      rw [nI_clamp (by omega), (mX k1 (j := 20) (by omega)).2, s13 k hk]
      have hend : ∀ w b (u6 : Option Value), w = sb b → makeZ xs (zs.getD k 0) = b → b < 256 → xas (yH Λ f0 S1) (Λ.2.1 11 35 m) 2 (nI k) w (fun f10 => xWp (xT0, xSp xT0 (d + 1), none, m_Mo_make, post) 3 [some (.ref m), some (.int (nI s)), some (.ref (Λ.2.1 11 7 m)), some (.int (nI p1)), some (.int 0), some (.int (nI (k + 1))), u6] [] f10 0 0) := by
        intro w b u6 ew em hb
        refine yas (mk35 hL) (yW_n hW (mk35 hL)) (vp_in_nI (by omega) (by omega)) ?_
        rw [nI_clamp (by omega)]
        refine ih _ _ (zX_tr k1 (zX_wA rfl)) (fun i hi => ?_)
        rw [yA_s]
        by_cases w2 : i = k
        · rw [w2, pk_us, em]; exact ⟨ew, hb⟩
        · rw [pk_un w2]; exact hg i (by omega)
      rcases hO k hk with z | ⟨i, hi, ez⟩
      · obtain ⟨n0, b, hb, e⟩ := told_n z
        refine ⟨fun w => absurd w n0, fun _ => hend _ b _ ?_ (makeZ_t n0 hb e) hb⟩
        rw [notI, e]
        show (sb b).toInt8.toInt32 = sb b
        exact sb_id b
      · rw [ez]
        rw [ez] at hend
        have hx := g1 i hi
        refine ⟨fun _ => ?_, fun w => absurd (nI_pos' (by omega)) w⟩
        rw [nI_add]
        refine yal (mk7 hL) (vp_in_nI (by omega) (by omega)) ?_
        rw [nI_clamp (by omega), (mX k1 (j := 7) (by omega)).2, hx.1]
        exact hend _ (xs.getD i 0) _ (sb_id _) (makeZ_c hi (by omega)) hx.2
  exact hlo 0 (Nat.zero_le _) S none zX_rf (fun i hi => absurd hi (Nat.not_lt_zero _))
def mGo (S : yS) (m n : Nat) (G : Nat → Bool) : Prop := ∀ i, i < n → yA S 11 31 m i = bI (G i)
theorem Mo_isSource_sp (hL : mLay Λ m) (hp8 : p < 9) (hP : mP S m p vs) (hG : mGo S m vs.length G) {r c j o n q : Nat} (hr : yn Λ r c j o 2 n) (hg : rg (yA S c j o) q bs) (hb : q + bs.length ≤ n) (hn : n < 2 ^ 30) (hp : post (some (.int (bI (takA vs G bs)))) (yH Λ f0 S)) : xSp xT0 (d + 2) j_Mo_isSource [.ref m, .int (nI p), .ref r, .int (nI q), .int (nI bs.length)] (yH Λ f0 S) post := by
  have ho := hL.2.1
  have hvl := hP.1
  refine xSp_of (M := m_Mo_isSource) rfl (b_Mo_isSource_0 ?_)
  have hlo : ∀ k, k ≤ vs.length → (∀ (u7 : Option Value), xWp (xT0, xSp xT0 (d + 1), none, m_Mo_isSource, post) 6 [some (.ref m), some (.int (nI p)), some (.ref r), some (.int (nI q)), some (.int (nI bs.length)), some (.int (bI (decide (fstI (takP vs G bs) k < k)))), some (.int (nI k)), u7] [] (yH Λ f0 S) 0 0) := by
    refine loopUp ?_ ?_
    · intro u7
      refine b_Mo_isSource_6 (ygr ho rfl (yal (mk22 hL) (vp_in_nI hp8 (by omega)) ?_))
      rw [nI_clamp (by omega), hP.2.1]
      refine brle (by omega) (by omega) (fun _ => ⟨?_, hp⟩) (fun w => by omega)
      cases decide (fstI (takP vs G bs) vs.length < vs.length)
      · exact Or.inl rfl
      · exact Or.inr rfl
    · intro k hk ih u7
      rw [takA_s] at ih
      obtain ⟨s1, -, ⟨s5, s6, s7⟩, -⟩ := hP.2.2 k hk
      refine b_Mo_isSource_6 (ygr ho rfl (yal (mk22 hL) (vp_in_nI hp8 (by omega)) ?_))
      rw [nI_clamp (by omega), hP.2.1, nI_1 k, n24, n18]
      refine brle (by omega) (by omega) (fun w => by omega) (fun _ => brBn (fun e1 => ?_) (fun e1 => ygr ho rfl (yal (mk31 hL) (vp_in_nI (by omega) (by omega)) ?_)))
      · rw [e1] at ih; exact ih _
      · rw [e1, Bool.false_or] at ih
        rw [nI_clamp (by omega), hG k hk]
        refine brB (fun e2 => ?_) (fun e2 => ygr ho rfl (yal (mk11 hL) (vp_in_nI (by omega) (by omega)) ?_))
        · have : takP vs G bs k = false := by unfold takP; rw [e2]; rfl
          rw [this] at ih; exact ih _
        · rw [nI_clamp (by omega), s1]
          refine ⟨fun c0 => ?_, fun c0 => ygr ho rfl (ygr ho rfl (yal (mk15 hL) (vp_in_nI (by omega) (by omega)) ?_))⟩
          · have : takP vs G bs k = false := by unfold takP; rw [e2, decide_eq_false (fun w => w c0)]; rfl
            rw [this] at ih; exact ih _
          · rw [nI_clamp (by omega), s5]
            refine Mo_order_sp (mk14 hL) hr s7 hg (by omega) hb (by omega) hn (xviI ⟨fun w => ?_, fun w => ?_⟩)
            · have : takP vs G bs k = false := by unfold takP; rw [e2, decide_eq_true c0, decide_eq_false (fun w2 => w (ordM_0.mpr w2))]; rfl
              rw [this] at ih; exact ih _
            · have : takP vs G bs k = true := by unfold takP; rw [e2, decide_eq_true c0, decide_eq_true (ordM_0.mp (Classical.not_not.mp w))]; rfl
              rw [this] at ih; exact ih _
  exact hlo 0 (Nat.zero_le _) none
/-- the place of the SOURCE, or -2 -/
def srO (fs : List Fl) (v : Sv) : Int32 := if ¬ v.1 = 0 ∧ fnd fs v.2.2.1 < fs.length then nI (fnd fs v.2.2.1) else -2
theorem Mo_sourceOf_sp (hL : mLay Λ m) (hs : s < 220) (hv : mS S m s v) (ht : t < 13) (hT : mT S m t fs) (hp : post (some (.int (srO fs v))) (yH Λ f0 S)) : xSp xT0 (d + 3) j_Mo_sourceOf [.ref m, .int (nI s), .int (nI t)] (yH Λ f0 S) post := by
  have ho := hL.2.1
  obtain ⟨s1, -, ⟨s5, s6, s7⟩, -⟩ := hv
  unfold srO at hp
  refine xSp_of (M := m_Mo_sourceOf) rfl (b_Mo_sourceOf_0 (ygr ho rfl (yal (mk11 hL) (vp_in_nI hs (by omega)) ?_)))
  rw [nI_clamp (by omega), s1]
  refine ⟨fun c0 => ygr ho rfl (ygr ho rfl (yal (mk15 hL) (vp_in_nI hs (by omega)) ?_)), fun c0 => ?_⟩
  · rw [nI_clamp (by omega), s5, n18]
    refine ⟨yex ho, Mo_find_sp hL ht hT (mk14 hL) s7 (by omega) (by omega) (xviI ?_)⟩
    by_cases cf : fnd fs v.2.2.1 < fs.length
    · rw [if_pos cf]
      rw [if_pos ⟨c0, cf⟩] at hp
      exact hp
    · rw [if_neg cf]
      rw [if_neg (fun w => cf w.2)] at hp
      exact hp
  · rw [if_neg (fun w => w.1 (Classical.not_not.mp c0))] at hp
    exact hp
/-- the bytes from which a STEP is made -/
theorem cnt_r {v : Sv} (hov : okV v) (hT : mT S m t fs) (ht : t < 13) (h1 : ¬ v.1 = 0 → fnd fs v.2.2.1 < fs.length) (h2 : ¬ v.1 = 0 → nI (cntA fs v).length = v.2.2.2.1) : ∃ p1 xs, (if srO fs v = -2 then 0 else 48 * (10 * t + fnd fs v.2.2.1)) = p1 ∧ rg (yA S 11 7 m) p1 xs ∧ p1 + xs.length ≤ 6240 ∧ xs.length ≤ 48 ∧ okO v.2.2.2.2.2.2.2.1 xs.length ∧ makeD v.2.2.2.2.2.2.2.1 (cntA fs v) = makeD v.2.2.2.2.2.2.2.1 xs := by
  have hfl := hT.1
  by_cases c : v.1 = 0
  · have e : srO fs v = -2 := if_neg (fun w => w.1 c)
    rw [if_pos e]
    have hb := (hov.2.2.2.1.1 c).2.2
    have ho0 : okO v.2.2.2.2.2.2.2.1 0 := fun k hk => by
      have := hov.2.2.2.2.2.1 k hk
      rw [hb] at this
      exact this
    exact ⟨0, [], rfl, fun k hk => absurd hk (by simp), by simp, by simp, ho0, makeD_0 ho0 _ _⟩
  · have cf := h1 c
    have e : srO fs v = nI (fnd fs v.2.2.1) := if_pos ⟨c, cf⟩
    have hF := hT.2.2 _ cf
    have hl := hF.2.2.1
    rw [if_neg (by rw [e]; exact nI_n2 (by omega))]
    refine ⟨_, cntA fs v, rfl, hF.2.2.2, by unfold cntA; omega, hl, fun k hk => ?_, rfl⟩
    have h3 := hov.2.2.2.2.2.1 k hk
    have h4 := hov.2.2.2.1.2 c
    have hbl := hov.2.2.2.2.1.2
    have h5 := h2 c
    rw [h4] at h5
    have hl' : (cntA fs v).length ≤ 48 := hl
    rw [(nI_eq (by omega) (by omega)).mp h5]
    exact h3
theorem Mo_ruleOf_sp (hL : mLay Λ m) (hp8 : p < 9) (ht : t < 13) (hP : mP S m p vs) (hT : mT S m t fs) (hG : mGo S m vs.length G) {k : Nat} (hk : k < vs.length) (hov : okV (vs.getD k sv0)) (hp : ∀ S', zX m (fun j => j = 35) S S' → post (some (.int (nI (rulA vs fs G (vs.getD k sv0))))) (yH Λ f0 S')) : xSp xT0 (d + 5) j_Mo_ruleOf [.ref m, .int (nI p), .int (nI k), .int (nI t)] (yH Λ f0 S) post := by
  have hW := hL.1
  have ho := hL.2.1
  have hvl := hP.1
  have hfl := hT.1
  have hmS := hP.2.2 k hk
  obtain ⟨s1, ⟨s2, s3, s4⟩, ⟨s5, s6, s7⟩, ⟨s8, s9, s10, s11⟩, ⟨s12, s13⟩, s14, s15⟩ := id hmS
  generalize hv : vs.getD k sv0 = v at *
  have h92 : ∀ (u6 : Option Value), (¬ v.1 = 0 → fnd fs v.2.2.1 < fs.length) → (¬ v.1 = 0 → nI (cntA fs v).length = v.2.2.2.1) → rulA vs fs G v = rulB vs fs G v → xWp (xT0, xSp xT0 (d + 4), none, m_Mo_ruleOf, post) 92 [some (.ref m), some (.int (nI p)), some (.int (nI k)), some (.int (nI t)), some (.int (nI (24 * p + k))), some (.int (srO fs v)), u6] [] (yH Λ f0 S) 0 0 := by
    intro u6 h1 h2 er
    rw [er] at hp
    unfold rulB at hp
    refine b_Mo_ruleOf_92 (ygr ho rfl (yal (mk11 hL) (vp_in_nI (by omega) (by omega)) ?_))
    rw [nI_clamp (by omega), s1]
    refine ⟨fun c1 => ygr ho rfl ?_, fun c1 => ?_⟩
    · rw [if_neg c1] at hp
      obtain ⟨p1, xs, e1, g1, b1, b2, b3, b4⟩ := cnt_r hov hT ht h1 h2
      have h132 : xWp (xT0, xSp xT0 (d + 4), none, m_Mo_ruleOf, post) 132 [some (.ref m), some (.int (nI p)), some (.int (nI k)), some (.int (nI t)), some (.int (nI (24 * p + k))), some (.int (srO fs v)), u6] [.int (nI p1), .ref (Λ.2.1 11 7 m), .int (nI (24 * p + k)), .ref m] (yH Λ f0 S) 0 0 := by
        refine b_Mo_ruleOf_132 ⟨yex ho, Mo_make_sp hL (by omega) hmS hov g1 b1 b2 b3 (fun S1 k1 hm => xvvI (ygr ho rfl (ygr ho rfl (yal (mk18 hL) (vp_in_nI (by omega) (by omega)) ?_))))⟩
        have hml := makeD_l v.2.2.2.2.2.2.2.1 xs
        rw [nI_clamp (by omega), (mX k1 (j := 18) (by omega)).2, s10, hov.2.2.1.2 c1, ← hml]
        refine Mo_sum_sp (p1 := 0) (mk35 hL) hm (by omega) (by omega) (xviI (ygr ho rfl (yal (mk19 hL) (vp_in_nI (by omega) (by omega)) ?_)))
        rw [nI_clamp (by omega), (mX k1 (j := 19) (by omega)).2, s11, ← b4]
        have hP1 : mP S1 m p vs := mP_x k1 (fun j _ _ => by omega) hP
        have hT1 : mT S1 m t fs := mT_x k1 (fun j _ _ => by omega) hT
        have hG1 : mGo S1 m vs.length G := by unfold mGo; rw [(mX k1 (j := 31) (by omega)).2]; exact hG
        have s4' : rg (yA S1 11 12 m) (18 * (24 * p + k)) v.2.1 := by rw [(mX k1 (j := 12) (by omega)).2]; exact s4
        refine ⟨fun c2 => ygr ho rfl (ygr ho rfl (yal (mk13 hL) (vp_in_nI (by omega) (by omega)) ?_)), fun c2 => ?_⟩
        · rw [if_neg (fun w => w c2)] at hp
          rw [nI_clamp (by omega), (mX k1 (j := 13) (by omega)).2, s2, n18]
          refine ⟨yex ho, Mo_find_sp hL ht hT1 (mk12 hL) s4' (by omega) (by omega) (xviI ?_)⟩
          by_cases cf : fnd fs v.2.1 < fs.length
          · rw [if_pos cf]
            refine ⟨fun w => absurd w (nI_pos (by omega)), fun _ => ygr ho rfl (ygr ho rfl (yal (mk13 hL) (vp_in_nI (by omega) (by omega)) ?_))⟩
            rw [nI_clamp (by omega), (mX k1 (j := 13) (by omega)).2, s2]
            refine ⟨yex ho, Mo_isSource_sp hL hp8 hP1 hG1 (mk12 hL) s4' (by omega) (by omega) (xviI (brBn (fun r => ?_) (fun r => ?_)))⟩
            · rw [if_neg (fun w => by rw [r] at w; exact absurd w.2 (by decide))] at hp
              exact hp S1 k1
            · rw [if_pos ⟨cf, r⟩] at hp
              exact hp S1 k1
          · rw [if_neg cf]
            rw [if_neg (fun w => cf w.1)] at hp
            exact ⟨fun _ => hp S1 k1, fun w => absurd (by decide) w⟩
        · rw [if_pos c2] at hp
          exact hp S1 k1
      by_cases c2 : srO fs v = -2
      · rw [if_pos c2] at e1
        rw [← e1] at h132
        exact ⟨fun w => absurd c2 w, fun _ => h132⟩
      · rw [if_neg c2] at e1
        have es : srO fs v = nI (fnd fs v.2.2.1) := by
          unfold srO at c2 ⊢
          by_cases cc : ¬ v.1 = 0 ∧ fnd fs v.2.2.1 < fs.length
          · rw [if_pos cc]
          · rw [if_neg cc] at c2; exact absurd rfl c2
        refine ⟨fun _ => ?_, fun w => absurd c2 w⟩
        rw [es]
        rw [es] at h132
        refine Mo_at_sp (xviI ?_)
        rw [n48, e1]
        exact h132
    · rw [if_pos (Classical.not_not.mp c1)] at hp
      exact hp S zX_rf
  refine xSp_of (M := m_Mo_ruleOf) rfl (b_Mo_ruleOf_0 ?_)
  unfold B_Mo_ruleOf_0
  rw [n24]
  refine ⟨yex ho, Mo_sourceOf_sp hL (by omega) hmS ht hT (xviI (ygr ho rfl (yal (mk11 hL) (vp_in_nI (by omega) (by omega)) ?_)))⟩
  rw [nI_clamp (by omega), s1]
  unfold rulA at hp h92
  refine ⟨fun c0 => h92 _ (fun w => absurd c0 w) (fun w => absurd c0 w) ?_, fun c0 => ?_⟩
  · rw [if_neg (fun w => w.1 c0), if_neg (fun w => w.1 c0)]
  · by_cases cf : fnd fs v.2.2.1 < fs.length
    · have es : srO fs v = nI (fnd fs v.2.2.1) := if_pos ⟨c0, cf⟩
      obtain ⟨-, b1, b2, b3⟩ := hT.2.2 _ cf
      rw [es] at h92 ⊢
      refine ⟨fun _ => Mo_at_sp (xviI (ygr ho rfl (yal (mk8 hL) (vp_in_nI (by omega) (by omega)) (ygr ho rfl (yal (mk16 hL) (vp_in_nI (by omega) (by omega)) ?_))))), fun w => absurd (nI_n2 (by omega)) w⟩
      rw [nI_clamp (by omega), nI_clamp (by omega), b1, s8]
      refine ⟨fun c2 => ?_, fun c2 => ygr ho rfl (ygr ho rfl (yal (mk8 hL) (vp_in_nI (by omega) (by omega)) ?_))⟩
      · rw [if_neg (fun w => w.2 cf), if_pos ⟨c0, fun w => c2 w.1⟩] at hp
        exact hp S zX_rf
      · rw [nI_clamp (by omega), b1, n48]
        refine Mo_sum_sp (mk7 hL) b3 (by omega) (by omega) (xviI (ygr ho rfl (yal (mk17 hL) (vp_in_nI (by omega) (by omega)) ?_)))
        rw [nI_clamp (by omega), s9]
        have c2 := Classical.not_not.mp c2
        refine ⟨fun c3 => h92 _ (fun _ => cf) (fun _ => c2) ?_, fun c3 => ?_⟩
        · rw [if_neg (fun w => w.2 cf), if_neg (fun w => w.2 ⟨c2, c3⟩)]
        · rw [if_neg (fun w => w.2 cf), if_pos ⟨c0, fun w => c3 w.2⟩] at hp
          exact hp S zX_rf
    · have es : srO fs v = -2 := if_neg (fun w => cf w.2)
      rw [es]
      rw [if_pos ⟨c0, cf⟩] at hp
      exact ⟨fun w => absurd rfl w, fun _ => hp S zX_rf⟩
end
