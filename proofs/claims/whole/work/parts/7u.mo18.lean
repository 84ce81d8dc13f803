/-! 7u the other object: a STEP is made; how like two CONTENTS are -/
section
variable {Λ : yL} {f0 : xH} {S S' S1 S2 : yS} {m d s t u f g : Nat} {J F : Nat → Prop} {v w : Sv} {vs : List Sv} {zs : List Int32} {xs ys bs cs : List Nat} {B : Ab} {x y a b c e z : Int32} {fl gl : Fl} {post : Option Value → xH → Prop}
theorem Mo_whole_sp (hL : mLay Λ m) {jd : Nat} (hd : yn Λ (Λ.2.1 11 jd m) 11 jd m 0 10560) {n : Nat} (hn : n ≤ 48) (hp : ∀ S', zX m (fun j => j = jd) S S' → (∀ i, i / 48 ≠ 217 → yA S' 11 jd m i = yA S 11 jd m i) → rz (yA S' 11 jd m) 10416 (whoD n) → post none (yH Λ f0 S')) : xSp xT0 (d + 1) j_Mo_whole [.int (nI n), .ref (Λ.2.1 11 jd m), .int 10416] (yH Λ f0 S) post := by
  refine xSp_of (M := m_Mo_whole) rfl (b_Mo_whole_0 ?_)
  have hlo : ∀ k, k ≤ n → (∀ S1, zX m (fun j => j = jd) S S1 → (∀ i, i / 48 ≠ 217 → yA S1 11 jd m i = yA S 11 jd m i) → (∀ i, i < k → yA S1 11 jd m (10416 + i) = nI i) → xWp (xT0, xSp xT0 d, none, m_Mo_whole, post) 2 [some (.int (nI n)), some (.ref (Λ.2.1 11 jd m)), some (.int 10416), some (.int (nI k))] [] (yH Λ f0 S1) 0 0) := by
    refine loopUp ?_ ?_
    · intro S1 k1 hs hg
      refine b_Mo_whole_2 (brle (by omega) (by omega) (fun _ => hp S1 k1 hs (fun k hk => ?_)) (fun w => by omega))
      rw [whoD_l] at hk
      rw [whoD_g hk]
      exact hg k hk
    · intro k hk ih S1 k1 hs hg
      have e1 : (10416 : Int32) + nI k = nI (10416 + k) := nI_add 10416 k
      refine b_Mo_whole_2 ?_
      unfold B_Mo_whole_2
      rw [e1, nI_1]
      refine brle (by omega) (by omega) (fun w => by omega) (fun _ => yas hd (yW_n hL.1 hd) (vp_in_nI (by omega) (by omega)) ?_)
      rw [nI_clamp (by omega)]
      refine ih _ (zX_tr k1 (zX_wA rfl)) (fun i hi => ?_) (fun i hi => ?_)
      · rw [yA_s, pk_un (fun e => hi (by rw [e]; omega))]; exact hs i hi
      · rw [yA_s]
        by_cases w : i = k
        · rw [w, pk_us]
        · rw [pk_un (by omega)]; exact hg i (by omega)
  exact hlo 0 (Nat.zero_le _) S zX_rf (fun _ _ => rfl) (fun i hi => absurd hi (Nat.not_lt_zero _))
theorem Mo_nameSpare_sp (hL : mLay Λ m) {r j n p r2 j2 n2 p2 : Nat} (hr : yn Λ r 11 j m 2 n) (hg : rg (yA S 11 j m) p bs) (hb : p + bs.length ≤ n) (hn : n < 2 ^ 30) (h17 : bs.length ≤ 17) (hx : grp j = 2 → ∀ k, k < bs.length → (p + k) / wid j ≠ 217) (hd1 : j ≠ 14 ∨ p + bs.length ≤ 3906) (hr2 : yn Λ r2 11 j2 m 2 n2) (hg2 : rg (yA S 11 j2 m) p2 cs) (hb2 : p2 + cs.length ≤ n2) (hn2 : n2 < 2 ^ 30) (h172 : cs.length ≤ 17) (hx2 : grp j2 = 2 → ∀ k, k < cs.length → (p2 + k) / wid j2 ≠ 217) (hd2 : j2 ≠ 12 ∨ p2 + cs.length ≤ 3906) (hp : ∀ S', zS m 2 (fun i => i = 217) S S' → (∀ k, 16 ≤ k → yA S' 11 k m = yA S 11 k m) → yA S' 11 11 m 217 = x → (yA S' 11 15 m 217 = nI bs.length ∧ rg (yA S' 11 14 m) 3906 bs) → (yA S' 11 13 m 217 = nI cs.length ∧ rg (yA S' 11 12 m) 3906 cs) → post none (yH Λ f0 S')) : xSp xT0 (d + 2) j_Mo_nameSpare [.ref m, .int x, .ref r, .int (nI p), .int (nI bs.length), .ref r2, .int (nI p2), .int (nI cs.length)] (yH Λ f0 S) post := by
  have hW := hL.1
  have ho := hL.2.1
  have v217 : vp_in (217 : Int32) 220 := vp_in_nI (n := 217) (by omega) (by omega)
  have c217 : (217 : Int32).toNatClampNeg = 217 := nI_clamp (n := 217) (by omega)
  refine xSp_of (M := m_Mo_nameSpare) rfl (b_Mo_nameSpare_0 (ygr ho rfl (yas (mk11 hL) (yW_n hW (mk11 hL)) v217 (ygr ho rfl ?_))))
  rw [c217]
  generalize hA : ywA S 11 11 m (upd (yA S 11 11 m) 217 x) = SA
  have oA : ∀ k, k ≠ 11 → yA SA 11 k m = yA S 11 k m := fun k hk => by rw [← hA, yA_n _ _ (by omega)]
  have kA : zS m 2 (fun i => i = 217) S SA := by rw [← hA]; exact zS_u rfl rfl
  have f11 : yA SA 11 11 m 217 = x := by rw [← hA, yA_s, pk_us]
  have gA := rg_z kA hx hg
  refine Mo_move_sp (p2 := 3906) hW hr (mk14 hL) (rg_id gA) hb (by omega) hn (by omega) ?_ (xvvI (ygr ho rfl (yas (mk15 hL) (yW_n hW (mk15 hL)) v217 (ygr ho rfl ?_))))
  · rcases hd1 with h | h
    · exact Or.inl (fun w => h w.2.1)
    · exact Or.inr (Or.inl h)
  · rw [c217]
    generalize hB : ywA SA 11 14 m (va_cpy (yA SA 11 j m) (yA SA 11 14 m) p 3906 bs.length) = SB
    generalize hC : ywA SB 11 15 m (upd (yA SB 11 15 m) 217 (nI bs.length)) = SC
    have oB : ∀ k, k ≠ 14 → yA SB 11 k m = yA SA 11 k m := fun k hk => by rw [← hB, yA_n _ _ (by omega)]
    have oC : ∀ k, k ≠ 15 → yA SC 11 k m = yA SB 11 k m := fun k hk => by rw [← hC, yA_n _ _ (by omega)]
    have kB : zS m 2 (fun i => i = 217) SA SB := by rw [← hB]; exact zS_c (j := 14) (f := 217) rfl rfl (by decide) (by show _ ≤ 18; omega)
    have kC : zS m 2 (fun i => i = 217) SB SC := by rw [← hC]; exact zS_u rfl rfl
    have k0C := zS_tr (zS_tr kA kB) kC
    have f15 : yA SC 11 15 m 217 = nI bs.length := by rw [← hC, yA_s, pk_us]
    have f14 : rg (yA SC 11 14 m) 3906 bs := by rw [oC 14 (by decide), ← hB, yA_s]; exact rg_cpy gA (Nat.le_refl _)
    have gC := rg_z k0C hx2 hg2
    refine Mo_move_sp (p2 := 3906) hW hr2 (mk12 hL) (rg_id gC) hb2 (by omega) hn2 (by omega) ?_ (xvvI (ygr ho rfl (yas (mk13 hL) (yW_n hW (mk13 hL)) v217 ?_)))
    · rcases hd2 with h | h
      · exact Or.inl (fun w => h w.2.1)
      · exact Or.inr (Or.inl h)
    · rw [c217]
      generalize hD : ywA SC 11 12 m (va_cpy (yA SC 11 j2 m) (yA SC 11 12 m) p2 3906 cs.length) = SD
      generalize hE : ywA SD 11 13 m (upd (yA SD 11 13 m) 217 (nI cs.length)) = SE
      have oD : ∀ k, k ≠ 12 → yA SD 11 k m = yA SC 11 k m := fun k hk => by rw [← hD, yA_n _ _ (by omega)]
      have oE : ∀ k, k ≠ 13 → yA SE 11 k m = yA SD 11 k m := fun k hk => by rw [← hE, yA_n _ _ (by omega)]
      have kD : zS m 2 (fun i => i = 217) SC SD := by rw [← hD]; exact zS_c (j := 12) (f := 217) rfl rfl (by decide) (by show _ ≤ 18; omega)
      have kE : zS m 2 (fun i => i = 217) SD SE := by rw [← hE]; exact zS_u rfl rfl
      refine hp SE (zS_tr (zS_tr k0C kD) kE) (fun k hk => ?_) ?_ ⟨?_, ?_⟩ ⟨?_, ?_⟩
      · rw [oE k (by omega), oD k (by omega), oC k (by omega), oB k (by omega), oA k (by omega)]
      · rw [oE 11 (by decide), oD 11 (by decide), oC 11 (by decide), oB 11 (by decide)]; exact f11
      · rw [oE 15 (by decide), oD 15 (by decide)]; exact f15
      · rw [oE 14 (by decide), oD 14 (by decide)]; exact f14
      · rw [← hE, yA_s, pk_us]
      · rw [oE 12 (by decide), ← hD, yA_s]; exact rg_cpy gC (Nat.le_refl _)
/-- a FILE, or none -/
def cF (S : yS) (m : Nat) (x : Int32) (xs : List Nat) (a : Nat) : Prop := ((∃ f, f < 130 ∧ x = nI f ∧ a = 48 * f ∧ yA S 11 8 m f = nI xs.length) ∨ (x = -1 ∧ xs = [] ∧ a = 0)) ∧ xs.length ≤ 48 ∧ rg (yA S 11 7 m) a xs
theorem cF_a (h : cF S m x xs f) : f + xs.length ≤ 6240 := by
  have hl := h.2.1
  rcases h.1 with ⟨k, h1, _, h3, _⟩ | ⟨_, h2, h3⟩
  · omega
  · rw [h2, h3]; simp
theorem cF_s (h : cF S m x xs f) : (0 ≤ x ∧ ¬ x = -1) ∨ (¬ 0 ≤ x ∧ x = -1) := by
  rcases h.1 with ⟨k, h1, h2, _, _⟩ | ⟨h1, _, _⟩
  · rw [h2]
    exact Or.inl ⟨nI_pos' (by omega), fun w => nI_pos (n := k) (by omega) (by rw [w]; decide)⟩
  · rw [h1]
    exact Or.inr ⟨by decide, rfl⟩
theorem Mo_fillSpare_sp (hL : mLay Λ m) {p1 p2 : Nat} {wh : Bool} (hf : cF S m a xs p1) (hg : cF S m b ys p2) (hp : ∀ S', zX m (fun j => (16 ≤ j ∧ j ≤ 21) ∨ j = 24 ∨ j = 25) S S' → (∀ j i, 16 ≤ j → j ≤ 21 → i / wid j ≠ 217 → yA S' 11 j m i = yA S 11 j m i) → yA S' 11 16 m 217 = (if a = -1 then -2 else nI xs.length) → yA S' 11 17 m 217 = (if a = -1 then -2 else nI (sumB xs)) → yA S' 11 18 m 217 = (if b = -1 then -2 else nI ys.length) → yA S' 11 19 m 217 = (if b = -1 then -2 else nI (sumB ys)) → rz (yA S' 11 20 m) 10416 (if wh = true then whoD ys.length else wv xs ys) → rz (yA S' 11 21 m) 10416 (if wh = true then whoD xs.length else wv ys xs) → post none (yH Λ f0 S')) : xSp xT0 (d + 4) j_Mo_fillSpare [.ref m, .int a, .int b, .int (bI wh)] (yH Λ f0 S) post := by
  have hW := hL.1
  have ho := hL.2.1
  have v217 : vp_in (217 : Int32) 220 := vp_in_nI (n := 217) (by omega) (by omega)
  have c217 : (217 : Int32).toNatClampNeg = 217 := nI_clamp (n := 217) (by omega)
  have hxl := hf.2.1
  have hyl := hg.2.1
  have ha := cF_a hf
  have hb := cF_a hg
  have h58 : ∀ (u7 : Option Value), xWp (xT0, xSp xT0 (d + 3), none, m_Mo_fillSpare, post) 58 [some (.ref m), some (.int a), some (.int b), some (.int (bI wh)), some (.int (nI xs.length)), some (.int (nI ys.length)), some (.int (nI p1)), u7] [.int (nI p2)] (yH Λ f0 S) 0 0 := by
    intro u7
    have h78 : ∀ w, w = (if a = -1 then -2 else nI xs.length) → xWp (xT0, xSp xT0 (d + 3), none, m_Mo_fillSpare, post) 78 [some (.ref m), some (.int a), some (.int b), some (.int (bI wh)), some (.int (nI xs.length)), some (.int (nI ys.length)), some (.int (nI p1)), some (.int (nI p2))] [.int w, .int 217, .ref (Λ.2.1 11 16 m)] (yH Λ f0 S) 0 0 := by
      intro w16 e16
      refine b_Mo_fillSpare_78 (yas (mk16 hL) (yW_n hW (mk16 hL)) v217 (ygr ho rfl ?_))
      rw [c217]
      generalize hA : ywA S 11 16 m (upd (yA S 11 16 m) 217 w16) = SA
      have oA : ∀ k, k ≠ 16 → yA SA 11 k m = yA S 11 k m := fun k hk => by rw [← hA, yA_n _ _ (by omega)]
      have sA : ∀ i, i ≠ 217 → yA SA 11 16 m i = yA S 11 16 m i := fun i hi => by rw [← hA, yA_s, pk_un hi]
      have xA : zX m (fun j => j = 16) S SA := by rw [← hA]; exact zX_wA rfl
      have f16 : yA SA 11 16 m 217 = w16 := by rw [← hA, yA_s, pk_us]
      have h106 : ∀ w, w = (if a = -1 then -2 else nI (sumB xs)) → xWp (xT0, xSp xT0 (d + 3), none, m_Mo_fillSpare, post) 106 [some (.ref m), some (.int a), some (.int b), some (.int (bI wh)), some (.int (nI xs.length)), some (.int (nI ys.length)), some (.int (nI p1)), some (.int (nI p2))] [.int w, .int 217, .ref (Λ.2.1 11 17 m)] (yH Λ f0 SA) 0 0 := by
        intro w17 e17
        refine b_Mo_fillSpare_106 (yas (mk17 hL) (yW_n hW (mk17 hL)) v217 (ygr ho rfl ?_))
        rw [c217]
        generalize hB : ywA SA 11 17 m (upd (yA SA 11 17 m) 217 w17) = SB
        have oB : ∀ k, k ≠ 17 → yA SB 11 k m = yA SA 11 k m := fun k hk => by rw [← hB, yA_n _ _ (by omega)]
        have sB : ∀ i, i ≠ 217 → yA SB 11 17 m i = yA SA 11 17 m i := fun i hi => by rw [← hB, yA_s, pk_un hi]
        have xB : zX m (fun j => j = 17) SA SB := by rw [← hB]; exact zX_wA rfl
        have f17 : yA SB 11 17 m 217 = w17 := by rw [← hB, yA_s, pk_us]
        have h125 : ∀ w, w = (if b = -1 then -2 else nI ys.length) → xWp (xT0, xSp xT0 (d + 3), none, m_Mo_fillSpare, post) 125 [some (.ref m), some (.int a), some (.int b), some (.int (bI wh)), some (.int (nI xs.length)), some (.int (nI ys.length)), some (.int (nI p1)), some (.int (nI p2))] [.int w, .int 217, .ref (Λ.2.1 11 18 m)] (yH Λ f0 SB) 0 0 := by
          intro w18 e18
          refine b_Mo_fillSpare_125 (yas (mk18 hL) (yW_n hW (mk18 hL)) v217 (ygr ho rfl ?_))
          rw [c217]
          generalize hC : ywA SB 11 18 m (upd (yA SB 11 18 m) 217 w18) = SC
          have oC : ∀ k, k ≠ 18 → yA SC 11 k m = yA SB 11 k m := fun k hk => by rw [← hC, yA_n _ _ (by omega)]
          have sC : ∀ i, i ≠ 217 → yA SC 11 18 m i = yA SB 11 18 m i := fun i hi => by rw [← hC, yA_s, pk_un hi]
          have xC : zX m (fun j => j = 18) SB SC := by rw [← hC]; exact zX_wA rfl
          have f18 : yA SC 11 18 m 217 = w18 := by rw [← hC, yA_s, pk_us]
          have h153 : ∀ w, w = (if b = -1 then -2 else nI (sumB ys)) → xWp (xT0, xSp xT0 (d + 3), none, m_Mo_fillSpare, post) 153 [some (.ref m), some (.int a), some (.int b), some (.int (bI wh)), some (.int (nI xs.length)), some (.int (nI ys.length)), some (.int (nI p1)), some (.int (nI p2))] [.int w, .int 217, .ref (Λ.2.1 11 19 m)] (yH Λ f0 SC) 0 0 := by
            intro w19 e19
            refine b_Mo_fillSpare_153 (yas (mk19 hL) (yW_n hW (mk19 hL)) v217 ?_)
            rw [c217]
            generalize hD : ywA SC 11 19 m (upd (yA SC 11 19 m) 217 w19) = SD
            have oD : ∀ k, k ≠ 19 → yA SD 11 k m = yA SC 11 k m := fun k hk => by rw [← hD, yA_n _ _ (by omega)]
            have sD : ∀ i, i ≠ 217 → yA SD 11 19 m i = yA SC 11 19 m i := fun i hi => by rw [← hD, yA_s, pk_un hi]
            have xD : zX m (fun j => j = 19) SC SD := by rw [← hD]; exact zX_wA rfl
            have f19 : yA SD 11 19 m 217 = w19 := by rw [← hD, yA_s, pk_us]
            have x0D : zX m (fun j => 16 ≤ j ∧ j ≤ 19) S SD := zX_tr (zX_tr (zX_tr (zX_mo xA (fun j w => by omega)) (zX_mo xB (fun j w => by omega))) (zX_mo xC (fun j w => by omega))) (zX_mo xD (fun j w => by omega))
            have e7 : yA SD 11 7 m = yA S 11 7 m := (mX x0D (j := 7) (by omega)).2
            have hfin : ∀ SE, zX m (fun j => j = 20 ∨ j = 21 ∨ j = 24 ∨ j = 25) SD SE → (∀ j i, j = 20 ∨ j = 21 → i / 48 ≠ 217 → yA SE 11 j m i = yA SD 11 j m i) → rz (yA SE 11 20 m) 10416 (if wh = true then whoD ys.length else wv xs ys) → rz (yA SE 11 21 m) 10416 (if wh = true then whoD xs.length else wv ys xs) → post none (yH Λ f0 SE) := by
              intro SE xE sE f20 f21
              refine hp SE (zX_tr (zX_mo x0D (fun j w => by omega)) (zX_mo xE (fun j w => by omega))) (fun j i h1 h2 hi => ?_) ?_ ?_ ?_ ?_ f20 f21
              · have hj : j = 16 ∨ j = 17 ∨ j = 18 ∨ j = 19 ∨ j = 20 ∨ j = 21 := by omega
                rcases hj with h | h | h | h | h | h
                · subst h
                  rw [show wid 16 = 1 from rfl, Nat.div_one] at hi
                  rw [(mX xE (j := 16) (by omega)).2, oD 16 (by decide), oC 16 (by decide), oB 16 (by decide), sA i hi]
                · subst h
                  rw [show wid 17 = 1 from rfl, Nat.div_one] at hi
                  rw [(mX xE (j := 17) (by omega)).2, oD 17 (by decide), oC 17 (by decide), sB i hi, oA 17 (by decide)]
                · subst h
                  rw [show wid 18 = 1 from rfl, Nat.div_one] at hi
                  rw [(mX xE (j := 18) (by omega)).2, oD 18 (by decide), sC i hi, oB 18 (by decide), oA 18 (by decide)]
                · subst h
                  rw [show wid 19 = 1 from rfl, Nat.div_one] at hi
                  rw [(mX xE (j := 19) (by omega)).2, sD i hi, oC 19 (by decide), oB 19 (by decide), oA 19 (by decide)]
                · subst h
                  rw [sE 20 i (Or.inl rfl) hi, (mX x0D (j := 20) (by omega)).2]
                · subst h
                  rw [sE 21 i (Or.inr rfl) hi, (mX x0D (j := 21) (by omega)).2]
              · rw [(mX xE (j := 16) (by omega)).2, oD 16 (by decide), oC 16 (by decide), oB 16 (by decide), f16]; exact e16
              · rw [(mX xE (j := 17) (by omega)).2, oD 17 (by decide), oC 17 (by decide), f17]; exact e17
              · rw [(mX xE (j := 18) (by omega)).2, oD 18 (by decide), f18]; exact e18
              · rw [(mX xE (j := 19) (by omega)).2, f19]; exact e19
            refine brB (fun ew => ygr ho rfl (ygr ho rfl (ygr ho rfl ⟨yex ho, Mo_findDelta_sp hL (Or.inl rfl) (mk20 hL) (by rw [e7]; exact hf.2.2) (by rw [e7]; exact hg.2.2) ha hb hxl hyl (fun SE xE sE f20 => xvvI (ygr ho rfl (ygr ho rfl (ygr ho rfl ⟨yex ho, ?_⟩))))⟩))) (fun ew => ygr ho rfl (Mo_whole_sp hL (mk20 hL) hyl (fun SE xE sE f20 => xvvI (ygr ho rfl (Mo_whole_sp hL (mk21 hL) hxl (fun SF xF sF f21 => xvvI ?_))))))
            · have e7E : yA SE 11 7 m = yA S 11 7 m := by rw [(mX xE (j := 7) (by unfold Jf; omega)).2]; exact e7
              refine Mo_findDelta_sp hL (Or.inr rfl) (mk21 hL) (by rw [e7E]; exact hg.2.2) (by rw [e7E]; exact hf.2.2) hb ha hyl hxl (fun SF xF sF f21 => xvvI ?_)
              rw [ew] at hfin
              refine hfin SF (zX_tr (zX_mo xE (fun j w => by unfold Jf at w; omega)) (zX_mo xF (fun j w => by unfold Jf at w; omega))) (fun j i hj hi => ?_) ?_ f21
              · rcases hj with h | h
                · subst h
                  rw [(mX xF (j := 20) (by unfold Jf; omega)).2]; exact sE i hi
                · subst h
                  rw [sF i hi, (mX xE (j := 21) (by unfold Jf; omega)).2]
              · rw [(mX xF (j := 20) (by unfold Jf; omega)).2]; exact f20
            · rw [ew] at hfin
              refine hfin SF (zX_tr (zX_mo xE (fun j w => by omega)) (zX_mo xF (fun j w => by omega))) (fun j i hj hi => ?_) ?_ f21
              · rcases hj with h | h
                · subst h
                  rw [(mX xF (j := 20) (by omega)).2]; exact sE i hi
                · subst h
                  rw [sF i hi, (mX xE (j := 21) (by omega)).2]
              · rw [(mX xF (j := 20) (by omega)).2]; exact f20
          have e7C : yA SC 11 7 m = yA S 11 7 m := by rw [oC 7 (by decide), oB 7 (by decide), oA 7 (by decide)]
          rcases cF_s hg with ⟨c1, c2⟩ | ⟨c1, c2⟩
          · refine ⟨fun _ => ygr ho rfl (Mo_sum_sp (mk7 hL) (by rw [e7C]; exact hg.2.2) hb (by omega) (xviI (h153 _ ?_))), fun w => absurd c1 w⟩
            rw [if_neg c2]
          · refine ⟨fun w => absurd w c1, fun _ => h153 _ ?_⟩
            rw [if_pos c2]
        rcases cF_s hg with ⟨c1, c2⟩ | ⟨c1, c2⟩
        · exact ⟨fun _ => h125 _ (by rw [if_neg c2]), fun w => absurd c1 w⟩
        · exact ⟨fun w => absurd w c1, fun _ => h125 _ (by rw [if_pos c2])⟩
      have e7A : yA SA 11 7 m = yA S 11 7 m := oA 7 (by decide)
      rcases cF_s hf with ⟨c1, c2⟩ | ⟨c1, c2⟩
      · refine ⟨fun _ => ygr ho rfl (Mo_sum_sp (mk7 hL) (by rw [e7A]; exact hf.2.2) ha (by omega) (xviI (h106 _ ?_))), fun w => absurd c1 w⟩
        rw [if_neg c2]
      · refine ⟨fun w => absurd w c1, fun _ => h106 _ ?_⟩
        rw [if_pos c2]
    refine b_Mo_fillSpare_58 (ygr ho rfl ?_)
    rcases cF_s hf with ⟨c1, c2⟩ | ⟨c1, c2⟩
    · exact ⟨fun _ => h78 _ (by rw [if_neg c2]), fun w => absurd c1 w⟩
    · exact ⟨fun w => absurd w c1, fun _ => h78 _ (by rw [if_pos c2])⟩
  have h30 : ∀ (u5 u6 u7 : Option Value), xWp (xT0, xSp xT0 (d + 3), none, m_Mo_fillSpare, post) 30 [some (.ref m), some (.int a), some (.int b), some (.int (bI wh)), some (.int (nI xs.length)), u5, u6, u7] [.int (nI ys.length)] (yH Λ f0 S) 0 0 := by
    intro u5 u6 u7
    refine b_Mo_fillSpare_30 ?_
    unfold B_Mo_fillSpare_30
    rcases hf.1 with ⟨f, f1, f2, f3, f4⟩ | ⟨f1, f2, f3⟩
    · rw [f2, n48, ← f3]
      refine ⟨fun _ => ?_, fun w => absurd (nI_pos' (by omega)) w⟩
      rw [f2] at h58
      rcases hg.1 with ⟨g, g1, g2, g3, g4⟩ | ⟨g1, g2, g3⟩
      · rw [g2, n48, ← g3]
        rw [g2] at h58
        exact ⟨fun _ => h58 _, fun w => absurd (nI_pos' (by omega)) w⟩
      · rw [g3, g1] at h58
        rw [g1]
        exact ⟨fun w => absurd w (by decide), fun _ => h58 _⟩
    · rw [f1]
      rw [f1, f3] at h58
      refine ⟨fun w => absurd w (by decide), fun _ => ?_⟩
      rcases hg.1 with ⟨g, g1, g2, g3, g4⟩ | ⟨g1, g2, g3⟩
      · rw [g2, n48, ← g3]
        rw [g2] at h58
        exact ⟨fun _ => h58 _, fun w => absurd (nI_pos' (by omega)) w⟩
      · rw [g3, g1] at h58
        rw [g1]
        exact ⟨fun w => absurd w (by decide), fun _ => h58 _⟩
  have h14 : ∀ (u4 u5 u6 u7 : Option Value), xWp (xT0, xSp xT0 (d + 3), none, m_Mo_fillSpare, post) 14 [some (.ref m), some (.int a), some (.int b), some (.int (bI wh)), u4, u5, u6, u7] [.int (nI xs.length)] (yH Λ f0 S) 0 0 := by
    intro u4 u5 u6 u7
    refine b_Mo_fillSpare_14 ?_
    unfold B_Mo_fillSpare_14
    rcases hg.1 with ⟨g, g1, g2, g3, g4⟩ | ⟨g1, g2, g3⟩
    · rw [g2]
      rw [g2] at h30
      refine ⟨fun _ => ygr ho rfl (yal (mk8 hL) (vp_in_nI g1 (by omega)) ?_), fun w => absurd (nI_pos' (by omega)) w⟩
      rw [nI_clamp (by omega), g4]
      exact h30 _ _ _
    · rw [g1]
      rw [g1, g2] at h30
      exact ⟨fun w => absurd w (by decide), fun _ => h30 _ _ _⟩
  refine xSp_of (M := m_Mo_fillSpare) rfl (b_Mo_fillSpare_0 ?_)
  unfold B_Mo_fillSpare_0
  rcases hf.1 with ⟨f, f1, f2, f3, f4⟩ | ⟨f1, f2, f3⟩
  · rw [f2]
    rw [f2] at h14
    refine ⟨fun _ => ygr ho rfl (yal (mk8 hL) (vp_in_nI f1 (by omega)) ?_), fun w => absurd (nI_pos' (by omega)) w⟩
    rw [nI_clamp (by omega), f4]
    exact h14 _ _ _ _
  · rw [f1]
    rw [f1, f2] at h14
    exact ⟨fun w => absurd w (by decide), fun _ => h14 _ _ _ _⟩
end
