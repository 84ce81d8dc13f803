/-! 7v the other object: a STEP is added; likeness -/
section
variable {Λ : yL} {f0 : xH} {S S' S1 S2 : yS} {m d s t u f g : Nat} {J F : Nat → Prop} {v w : Sv} {vs : List Sv} {zs : List Int32} {xs ys bs cs : List Nat} {B : Ab} {x y a b c e z : Int32} {fl gl : Fl} {post : Option Value → xH → Prop}
/-- what f and g are: a FILE at a place, or none -/
def gF (S : yS) (m : Nat) (x : Int32) (q : Fl) : Prop := (∃ f, f < 130 ∧ x = nI f ∧ mF S m f q) ∨ (x = -1 ∧ q.2 = [])
theorem gF_c (h : gF S m x fl) : ∃ p, cF S m x fl.2 p := by
  rcases h with ⟨f, h1, h2, h3⟩ | ⟨h1, h2⟩
  · exact ⟨48 * f, Or.inl ⟨f, h1, h2, rfl, h3.2.1⟩, h3.2.2.1, h3.2.2.2⟩
  · refine ⟨0, Or.inr ⟨h1, h2, rfl⟩, by rw [h2]; simp, ?_⟩
    rw [h2]
    exact fun k hk => absurd hk (by simp)
theorem Mo_addStep_sp (hL : mLay Λ m) {p : Nat} (hp8 : p < 9) (hP : mP S m p vs) (hlt : vs.length < 24) (hok : ∀ i, i < vs.length → okP (vs.getD i sv0).2.1) {wh : Bool} (hf : gF S m a fl) (hg : gF S m b gl) (hab : (a = -1 → fl.1 = gl.1 ∧ ¬ b = -1) ∧ (b = -1 → gl.1 = fl.1 ∧ ¬ a = -1)) (hox : okP gl.1) (hk0 : c = 0 ↔ a = -1) (hk1 : c = 1 ↔ b = -1) (hk3 : c = 3 ↔ wh = true) (heq : c = 3 → fl.2.length = gl.2.length) (hp : ∀ S', zX m (fun j => (11 ≤ j ∧ j ≤ 22) ∨ j = 24 ∨ j = 25) S S' → zP m p S S' → mP S' m p (addV vs (mkS c fl gl)) → post none (yH Λ f0 S')) : xSp xT0 (d + 5) j_Mo_addStep [.ref m, .int (nI p), .int c, .int a, .int b, .int (bI wh)] (yH Λ f0 S) post := by
  have hW := hL.1
  have ho := hL.2.1
  obtain ⟨p1, hc1⟩ := gF_c hf
  obtain ⟨p2, hc2⟩ := gF_c hg
  have h23 : ∀ x y (u7 : Option Value), x < 130 → y < 130 → (yA S 11 6 m x = nI fl.1.length ∧ fl.1.length ≤ 17 ∧ rg (yA S 11 5 m) (18 * x) fl.1) → (yA S 11 6 m y = nI gl.1.length ∧ gl.1.length ≤ 17 ∧ rg (yA S 11 5 m) (18 * y) gl.1) → xWp (xT0, xSp xT0 (d + 4), none, m_Mo_addStep, post) 23 [some (.ref m), some (.int (nI p)), some (.int c), some (.int a), some (.int b), some (.int (bI wh)), some (.int (nI x)), u7] [.int (nI y)] (yH Λ f0 S) 0 0 := by
    intro x y u7 hx hy hxx hyy
    refine b_Mo_addStep_23 (ygr ho rfl (ygr ho rfl (yal (mk6 hL) (vp_in_nI hx (by omega)) (ygr ho rfl (ygr ho rfl (yal (mk6 hL) (vp_in_nI hy (by omega)) ?_))))))
    rw [nI_clamp (by omega), nI_clamp (by omega), hxx.1, hyy.1, n18, n18]
    refine ⟨yex ho, Mo_nameSpare_sp hL (mk5 hL) hxx.2.2 (by omega) (by omega) hxx.2.1 (fun w => absurd w (by decide)) (Or.inl (by decide)) (mk5 hL) hyy.2.2 (by omega) (by omega) hyy.2.1 (fun w => absurd w (by decide)) (Or.inl (by decide)) (fun S1 k1 o1 f11 f15 f13 => xvvI ⟨yex ho, ?_⟩)⟩
    have x1 : zX m (fun j => 11 ≤ j ∧ j ≤ 21) S S1 := zX_S k1 (fun j hj => grp2 hj)
    have hcx : ∀ {x xs q}, cF S m x xs q → cF S1 m x xs q := fun {x xs q} h => by
      unfold cF
      rw [(mX x1 (j := 7) (by omega)).2, (mX x1 (j := 8) (by omega)).2]
      exact h
    refine Mo_fillSpare_sp hL (hcx hc1) (hcx hc2) (fun S2 x2 s2 f16 f17 f18 f19 f20 f21 => xvvI ⟨yex ho, ?_⟩)
    have hmS : ∀ s q, s ≠ 217 → mS S m s q → mS S2 m s q := by
      intro s q hs h
      have h1 := mS_z k1 (fun _ e => hs e) h
      obtain ⟨q1, ⟨q2, q3, q4⟩, ⟨q5, q6, q7⟩, ⟨q8, q9, q10, q11⟩, ⟨q12, q13⟩, q14, q15⟩ := h1
      have e : ∀ j, j < 16 → yA S2 11 j m = yA S1 11 j m := fun j hj => (mX x2 (j := j) (by omega)).2
      refine ⟨by rw [e 11 (by omega)]; exact q1, ⟨by rw [e 13 (by omega)]; exact q2, q3, by rw [e 12 (by omega)]; exact q4⟩, ⟨by rw [e 15 (by omega)]; exact q5, q6, by rw [e 14 (by omega)]; exact q7⟩, ⟨?_, ?_, ?_, ?_⟩, ⟨q12, fun i hi => ?_⟩, q14, fun i hi => ?_⟩
      · rw [s2 16 s (by omega) (by omega) (by rw [show wid 16 = 1 from rfl, Nat.div_one]; exact hs)]; exact q8
      · rw [s2 17 s (by omega) (by omega) (by rw [show wid 17 = 1 from rfl, Nat.div_one]; exact hs)]; exact q9
      · rw [s2 18 s (by omega) (by omega) (by rw [show wid 18 = 1 from rfl, Nat.div_one]; exact hs)]; exact q10
      · rw [s2 19 s (by omega) (by omega) (by rw [show wid 19 = 1 from rfl, Nat.div_one]; exact hs)]; exact q11
      · rw [s2 20 _ (by omega) (by omega) (by rw [show wid 20 = 48 from rfl, div48 (by omega)]; exact hs)]; exact q13 i hi
      · rw [s2 21 _ (by omega) (by omega) (by rw [show wid 21 = 48 from rfl, div48 (by omega)]; exact hs)]; exact q15 i hi
    have e22 : yA S2 11 22 m = yA S 11 22 m := by rw [(mX x2 (j := 22) (by omega)).2, (mX x1 (j := 22) (by omega)).2]
    have hP2 : mP S2 m p vs := ⟨hP.1, by rw [e22]; exact hP.2.1, fun i hi => hmS _ _ (by omega) (hP.2.2 i hi)⟩
    have e : ∀ j, j < 16 → yA S2 11 j m = yA S1 11 j m := fun j hj => (mX x2 (j := j) (by omega)).2
    have hl1 := hc1.2.1
    have hl2 := hc2.2.1
    have hv : mS S2 m 217 (mkS c fl gl) := by
      unfold mkS
      refine ⟨by rw [e 11 (by omega)]; exact f11, ⟨by rw [e 13 (by omega)]; exact f13.1, hyy.2.1, by rw [e 12 (by omega)]; exact f13.2⟩, ⟨by rw [e 15 (by omega)]; exact f15.1, hxx.2.1, by rw [e 14 (by omega)]; exact f15.2⟩, ⟨?_, ?_, ?_, ?_⟩, ⟨?_, ?_⟩, ?_, ?_⟩
      · rw [f16]
        show _ = if c = 0 then (-2 : Int32) else nI fl.2.length
        by_cases w : a = -1
        · rw [if_pos w, if_pos (hk0.mpr w)]
        · rw [if_neg w, if_neg (fun z => w (hk0.mp z))]
      · rw [f17]
        show _ = if c = 0 then (-2 : Int32) else nI (sumB fl.2)
        by_cases w : a = -1
        · rw [if_pos w, if_pos (hk0.mpr w)]
        · rw [if_neg w, if_neg (fun z => w (hk0.mp z))]
      · rw [f18]
        show _ = if c = 1 then (-2 : Int32) else nI gl.2.length
        by_cases w : b = -1
        · rw [if_pos w, if_pos (hk1.mpr w)]
        · rw [if_neg w, if_neg (fun z => w (hk1.mp z))]
      · rw [f19]
        show _ = if c = 1 then (-2 : Int32) else nI (sumB gl.2)
        by_cases w : b = -1
        · rw [if_pos w, if_pos (hk1.mpr w)]
        · rw [if_neg w, if_neg (fun z => w (hk1.mp z))]
      · show (if c = 3 then whoD fl.2.length else wv fl.2 gl.2).length ≤ 48
        split
        · rw [whoD_l]; exact hl1
        · rw [wv_l]; exact hl2
      · show rz (yA S2 11 20 m) (48 * 217) (if c = 3 then whoD fl.2.length else wv fl.2 gl.2)
        by_cases w : c = 3
        · rw [if_pos (hk3.mp w)] at f20
          rw [if_pos w, heq w]
          exact f20
        · rw [if_neg (fun z => w (hk3.mpr z))] at f20
          rw [if_neg w]
          exact f20
      · show (if c = 3 then whoD gl.2.length else wv gl.2 fl.2).length ≤ 48
        split
        · rw [whoD_l]; exact hl2
        · rw [wv_l]; exact hl1
      · show rz (yA S2 11 21 m) (48 * 217) (if c = 3 then whoD gl.2.length else wv gl.2 fl.2)
        by_cases w : c = 3
        · rw [if_pos (hk3.mp w)] at f21
          rw [if_pos w, ← heq w]
          exact f21
        · rw [if_neg (fun z => w (hk3.mpr z))] at f21
          rw [if_neg w]
          exact f21
    refine Mo_addSpare_sp hL hp8 hP2 hlt hv hok hox (fun S3 x3 s3 h22 hP3 => xvvI (hp S3 (zX_tr (zX_tr (zX_mo x1 (fun j w => by omega)) (zX_mo x2 (fun j w => by omega))) (zX_mo x3 (fun j w => Or.inl (by rcases w with w | w; have := grp2 w; omega; omega)))) ⟨fun s q h1 h2 h => s3 s q h1 (hmS s q h2 h), fun p' h' => by rw [h22 p' h', e22]⟩ hP3))
  refine xSp_of (M := m_Mo_addStep) rfl (b_Mo_addStep_0 ?_)
  rcases hf with ⟨f, f1, f2, f3⟩ | ⟨f1, f2⟩
  · rw [f2]
    rw [f2] at h23 hab
    refine ⟨fun _ => ?_, fun w => absurd (nI_pos' (by omega)) w⟩
    rcases hg with ⟨g, g1, g2, g3⟩ | ⟨g1, g2⟩
    · rw [g2]
      rw [g2] at h23
      exact ⟨fun _ => h23 f g _ f1 g1 f3.1 g3.1, fun w => absurd (nI_pos' (by omega)) w⟩
    · have hh := (hab.2 g1).1
      rw [g1]
      rw [g1] at h23
      refine ⟨fun w => absurd w (by decide), fun _ => h23 f f _ f1 f1 f3.1 ?_⟩
      rw [hh]
      exact f3.1
  · have hh := hab.1 f1
    rw [f1]
    rw [f1] at h23
    refine ⟨fun w => absurd w (by decide), fun _ => ?_⟩
    rcases hg with ⟨g, g1, g2, g3⟩ | ⟨g1, g2⟩
    · rw [g2]
      rw [g2] at h23
      refine ⟨fun _ => h23 g g _ g1 g1 ?_ g3.1, fun w => absurd (nI_pos' (by omega)) w⟩
      rw [hh.1]
      exact g3.1
    · exact absurd g1 hh.2
theorem Mo_like_sp (hL : mLay Λ m) (hf : f < 130) (hg : g < 130) (hF : mF S m f fl) (hG : mF S m g gl) (hp : ∀ S', zX m (fun j => j = 26) S S' → post (some (.int (nI (lkV fl.2 gl.2)))) (yH Λ f0 S')) : xSp xT0 (d + 1) j_Mo_like [.ref m, .int (nI f), .int (nI g)] (yH Λ f0 S) post := by
  have hW := hL.1
  have ho := hL.2.1
  obtain ⟨-, b1, b2, b3⟩ := hF
  obtain ⟨-, c1, c2, c3⟩ := hG
  refine xSp_of (M := m_Mo_like) rfl (b_Mo_like_0 (ygr ho rfl (yal (mk8 hL) (vp_in_nI hf (by omega)) (ygr ho rfl (yal (mk8 hL) (vp_in_nI hg (by omega)) ?_)))))
  rw [nI_clamp (by omega), nI_clamp (by omega), b1, c1]
  generalize fl.2 = xs at *
  generalize gl.2 = ys at *
  unfold lkV at hp
  unfold xbr
  rw [nI_add]
  refine brne (b := 0) (by omega) (by omega) (fun c0 => ?_) (fun c0 => ?_)
  · rw [if_neg c0] at hp
    have hlb : ∀ i k, lcs (xs.drop i) (ys.drop k) ≤ 48 := fun i k => by
      have := lcs_b (xs.drop i) (ys.drop k)
      rw [List.length_drop] at this
      omega
    have n50 : ∀ i k : Nat, (50 : Int32) * nI i + nI k = nI (50 * i + k) := fun i k => by
      have : (50 : Int32) * nI i = nI (50 * i) := pk_mul 50 i
      rw [this, nI_add]
    have h27 : ∀ p, p ≤ xs.length + 1 → ∀ S1 (u6 u7 u8 u9 : Option Value), zX m (fun j => j = 26) S S1 → (∀ i k, p ≤ i → i ≤ xs.length → k ≤ ys.length → yA S1 11 26 m (50 * i + k) = nI (lcs (xs.drop i) (ys.drop k))) → xWp (xT0, xSp xT0 d, none, m_Mo_like, post) 27 [some (.ref m), some (.int (nI f)), some (.int (nI g)), some (.int (nI xs.length)), some (.int (nI ys.length)), some (.int (nI p - 1)), u6, u7, u8, u9] [] (yH Λ f0 S1) 0 0 := by
      intro p
      induction p with
      | zero =>
        intro _ S1 u6 u7 u8 u9 k1 hA
        have e : nI 0 - 1 = (-1 : Int32) := by decide
        rw [e]
        refine b_Mo_like_27 ⟨fun _ => ygr ho rfl (yal (mk26 hL) (vp_in_nI (n := 0) (by omega) (by omega)) ⟨?_, ?_⟩), fun w => absurd (by decide) w⟩
        · rw [nI_add]
          exact nI_ne0 (by omega) (by omega)
        · have h0 := hA 0 0 (Nat.zero_le _) (Nat.zero_le _) (Nat.zero_le _)
          have e0 : yA S1 11 26 m (0 : Int32).toNatClampNeg = nI (lcs xs ys) := h0
          have hl0 := lcs_b xs ys
          have e2 : (2000 : Int32) * nI (lcs xs ys) = nI (2000 * lcs xs ys) := pk_mul 2000 _
          rw [e0, e2, nI_add, pk_div (by omega) (by omega) (by omega)]
          exact hp S1 k1
      | succ p ih =>
        intro hpl S1 u6 u7 u8 u9 k1 hA
        rw [nI_pred]
        refine b_Mo_like_27 ⟨fun w => absurd w (nI_pos (by omega)), fun _ => ?_⟩
        have h36 : ∀ q, q ≤ ys.length + 1 → ∀ S2 (u7 u8 u9 : Option Value), zX m (fun j => j = 26) S S2 → (∀ i k, p + 1 ≤ i → i ≤ xs.length → k ≤ ys.length → yA S2 11 26 m (50 * i + k) = nI (lcs (xs.drop i) (ys.drop k))) → (∀ k, q ≤ k → k ≤ ys.length → yA S2 11 26 m (50 * p + k) = nI (lcs (xs.drop p) (ys.drop k))) → xWp (xT0, xSp xT0 d, none, m_Mo_like, post) 36 [some (.ref m), some (.int (nI f)), some (.int (nI g)), some (.int (nI xs.length)), some (.int (nI ys.length)), some (.int (nI p)), some (.int (nI q - 1)), u7, u8, u9] [] (yH Λ f0 S2) 0 0 := by
          intro q
          induction q with
          | zero =>
            intro _ S2 u7 u8 u9 k2 hA2 hB2
            have e : nI 0 - 1 = (-1 : Int32) := by decide
            rw [e]
            refine b_Mo_like_36 ⟨fun _ => ?_, fun w => absurd (by decide) w⟩
            have := ih (by omega) S2 (some (.int (-1))) u7 u8 u9 k2 (fun i k h1 h2 h3 => by
              by_cases w : i = p
              · rw [w]; exact hB2 k (Nat.zero_le _) h3
              · exact hA2 i k (by omega) h2 h3)
            rw [Int32.sub_eq_add_neg] at this
            exact this
          | succ q ih2 =>
            intro hql S2 u7 u8 u9 k2 hA2 hB2
            rw [nI_pred]
            have h155 : ∀ (z : Nat) (u8 u9 : Option Value), z = lcs (xs.drop p) (ys.drop q) → xWp (xT0, xSp xT0 d, none, m_Mo_like, post) 155 [some (.ref m), some (.int (nI f)), some (.int (nI g)), some (.int (nI xs.length)), some (.int (nI ys.length)), some (.int (nI p)), some (.int (nI q)), some (.int (nI z)), u8, u9] [] (yH Λ f0 S2) 0 0 := by
              intro z u8 u9 ez
              refine b_Mo_like_155 (ygr ho rfl ?_)
              rw [n50]
              refine yas (mk26 hL) (yW_n hW (mk26 hL)) (vp_in_nI (by omega) (by omega)) ?_
              rw [nI_clamp (by omega)]
              have := ih2 (by omega) _ (some (.int (nI z))) u8 u9 (zX_tr k2 (zX_wA (S := S2) (v := upd (yA S2 11 26 m) (50 * p + q) (nI z)) rfl)) (fun i k h1 h2 h3 => by rw [yA_s, pk_un (by omega)]; exact hA2 i k h1 h2 h3) (fun k h1 h2 => by
                rw [yA_s]
                by_cases w : k = q
                · rw [w, pk_us, ez]
                · rw [pk_un (by omega)]; exact hB2 k (by omega) h2)
              rw [Int32.sub_eq_add_neg] at this
              exact this
            refine b_Mo_like_36 ⟨fun w => absurd w (nI_pos (by omega)), fun _ => brle (by omega) (by omega) (fun cx => h155 0 _ _ ?_) (fun cx => brle (by omega) (by omega) (fun cy => h155 0 _ _ ?_) (fun cy => ygr ho rfl ?_))⟩
            · rw [List.drop_of_length_le cx, lcs_nl]
            · rw [List.drop_of_length_le cy, lcs_nr]
            · have hxd : xs.drop p = xs.getD p 0 :: xs.drop (p + 1) := dropG cx
              have hyd : ys.drop q = ys.getD q 0 :: ys.drop (q + 1) := dropG cy
              have hlc : lcs (xs.drop p) (ys.drop q) = if xs.getD p 0 = ys.getD q 0 then lcs (xs.drop (p + 1)) (ys.drop (q + 1)) + 1 else max (lcs (xs.drop (p + 1)) (ys.drop q)) (lcs (xs.drop p) (ys.drop (q + 1))) := by
                rw [hxd, hyd, lcs_c]
              have v1 := hA2 (p + 1) q (by omega) (by omega) (by omega)
              have v2 := hB2 (q + 1) (by omega) (by omega)
              have v3 := hA2 (p + 1) (q + 1) (by omega) (by omega) (by omega)
              have l1 := hlb (p + 1) q
              have l2 := hlb p (q + 1)
              have h105 : ∀ (z x8 x9 : Nat), z = max (lcs (xs.drop (p + 1)) (ys.drop q)) (lcs (xs.drop p) (ys.drop (q + 1))) → xWp (xT0, xSp xT0 d, none, m_Mo_like, post) 105 [some (.ref m), some (.int (nI f)), some (.int (nI g)), some (.int (nI xs.length)), some (.int (nI ys.length)), some (.int (nI p)), some (.int (nI q)), some (.int 0), some (.int (nI x8)), some (.int (nI x9))] [.int (nI z)] (yH Λ f0 S2) 0 0 := by
                intro z x8 x9 ez
                have e7 : yA S2 11 7 m = yA S 11 7 m := (mX k2 (j := 7) (by omega)).2
                have hx := b3 p cx
                have hy := c3 q cy
                refine b_Mo_like_105 (ygr ho rfl ?_)
                rw [n48, n48, nI_add, nI_add]
                refine yal (mk7 hL) (vp_in_nI (by omega) (by omega)) (ygr ho rfl (yal (mk7 hL) (vp_in_nI (by omega) (by omega)) ?_))
                rw [nI_clamp (by omega), nI_clamp (by omega), e7, hx.1, hy.1]
                refine ⟨fun w => h155 z _ _ ?_, fun w => ygr ho rfl ?_⟩
                · rw [hlc, if_neg (fun e => w (by rw [e]))]; exact ez
                · have e := sb_inj hx.2 hy.2 (Classical.not_not.mp w)
                  rw [nI_1, n50, nI_1]
                  refine yal (mk26 hL) (vp_in_nI (by omega) (by omega)) ?_
                  rw [nI_clamp (by omega), show 50 * (p + 1) + q + 1 = 50 * (p + 1) + (q + 1) by omega, v3, nI_1]
                  exact h155 _ _ _ (by rw [hlc, if_pos e])
              rw [nI_1, n50, n50, nI_1]
              refine yal (mk26 hL) (vp_in_nI (by omega) (by omega)) (ygr ho rfl (yal (mk26 hL) (vp_in_nI (by omega) (by omega)) ?_))
              rw [nI_clamp (by omega), nI_clamp (by omega), v1, show 50 * p + q + 1 = 50 * p + (q + 1) by omega, v2]
              exact brle (by omega) (by omega) (fun w => h105 _ _ _ (by omega)) (fun w => h105 _ _ _ (by omega))
        have := h36 (ys.length + 1) (Nat.le_refl _) S1 u7 u8 u9 k1 hA (fun k h1 h2 => by omega)
        rw [nI_pred] at this
        exact this
    have := h27 (xs.length + 1) (Nat.le_refl _) S none none none none zX_rf (fun i k h1 h2 _ => by omega)
    rw [nI_pred] at this
    exact this
  · rw [if_pos c0] at hp
    exact hp S zX_rf
end
