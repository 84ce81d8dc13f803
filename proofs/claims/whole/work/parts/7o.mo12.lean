/-! 7o the other object: STEPS are moved, and put in ORDER -/
theorem ordV_neg : ∀ (xs ys : List Nat), ordV ys xs = - ordV xs ys
  | [], [] => rfl
  | [], y :: ys => by show ((y :: ys).length : Int) = - (-((y :: ys).length : Int)); omega
  | x :: xs, [] => by show -((x :: xs).length : Int) = - ((x :: xs).length : Int); rfl
  | x :: xs, y :: ys => by
    rw [ordV_cons, ordV_cons]
    by_cases c : x = y
    · rw [if_pos c, if_pos c.symm, ordV_neg xs ys]
    · rw [if_neg c, if_neg (fun z => c z.symm)]; omega
abbrev Fp (p : Nat) : Nat → Prop := fun i => 24 * p ≤ i ∧ i < 24 * p + 24
section
variable {Λ : yL} {f0 : xH} {S S' S1 : yS} {m d s t u f g : Nat} {J F : Nat → Prop} {v w : Sv} {vs : List Sv} {bs cs : List Nat} {B : Ab} {x y a b c e z : Int32} {post : Option Value → xH → Prop}
theorem mS_z (k : zS m g F S S') (hF : g = 2 → ¬ F s) (h : mS S m s v) : mS S' m s v := by
  have hI : ∀ j, grp j = 2 → wid j = 1 → yA S' 11 j m s = yA S 11 j m s := fun j h1 h2 => by
    by_cases e : g = 2
    · subst e; exact k.2.2 j s h1 (by rw [h2, Nat.div_one]; exact hF rfl)
    · rw [k.2.1 11 j m (fun z => e (by rw [← z.2.2]; exact h1))]
  have hB : ∀ j n i, grp j = 2 → wid j = n → 0 < n → i < n → yA S' 11 j m (n * s + i) = yA S 11 j m (n * s + i) := fun j n i h1 h2 h3 h4 => by
    by_cases e : g = 2
    · subst e
      refine k.2.2 j _ h1 ?_
      rw [h2, show (n * s + i) / n = s by rw [Nat.mul_add_div h3, Nat.div_eq_of_lt h4, Nat.add_zero]]
      exact hF rfl
    · rw [k.2.1 11 j m (fun z => e (by rw [← z.2.2]; exact h1))]
  obtain ⟨h1, ⟨h2, h3, h4⟩, ⟨h5, h6, h7⟩, ⟨h8, h9, h10, h11⟩, ⟨h12, h13⟩, h14, h15⟩ := h
  refine ⟨by rw [hI 11 rfl rfl]; exact h1, ⟨by rw [hI 13 rfl rfl]; exact h2, h3, rg_e h4 (fun i hi => hB 12 18 i rfl rfl (by omega) (by omega))⟩, ⟨by rw [hI 15 rfl rfl]; exact h5, h6, rg_e h7 (fun i hi => hB 14 18 i rfl rfl (by omega) (by omega))⟩, ⟨by rw [hI 16 rfl rfl]; exact h8, by rw [hI 17 rfl rfl]; exact h9, by rw [hI 18 rfl rfl]; exact h10, by rw [hI 19 rfl rfl]; exact h11⟩, ⟨h12, fun i hi => ?_⟩, h14, fun i hi => ?_⟩
  · rw [hB 20 48 i rfl rfl (by omega) (by omega)]; exact h13 i hi
  · rw [hB 21 48 i rfl rfl (by omega) (by omega)]; exact h15 i hi
/-- one number of a STEP goes over -/
theorem cpI (hL : mLay Λ m) {j n : Nat} (hj : yn Λ (Λ.2.1 11 j m) 11 j m 0 n) (hf : (ftg 11)[j]? = some true) (ha : s < n) (hb : t < n) (hn : n < 2 ^ 31) {K : xH → Prop} (q : K (yH Λ f0 (ywA S 11 j m (upd (yA S 11 j m) t (yA S 11 j m s))))) : xgr (yH Λ f0 S) m 11 j (fun r1 => xgr (yH Λ f0 S) m 11 j (fun r2 => xal (yH Λ f0 S) r2 0 (nI s) (fun v3 => xas (yH Λ f0 S) r1 0 (nI t) v3 K))) := by
  refine ygr hL.2.1 hf (ygr hL.2.1 hf (yal hj (vp_in_nI ha hn) (yas hj (yW_n hL.1 hj) (vp_in_nI hb hn) ?_)))
  rw [nI_clamp (by omega), nI_clamp (by omega)]
  exact q
/-- a PATH of a STEP goes over -/
theorem cpB (hL : mLay Λ m) {j js : Nat} (hj : yn Λ (Λ.2.1 11 j m) 11 j m 2 3960) (hjs : yn Λ (Λ.2.1 11 js m) 11 js m 0 220) (hf : (ftg 11)[j]? = some true) (hfs : (ftg 11)[js]? = some true) (hne : j ≠ js) (hg : grp j = 2) (hw : wid j = 18) (hgs : grp js = 2) (hws : wid js = 1) (ha : s < 220) (hb : t < 220) (hst : s ≠ t) (h1 : yA S 11 js m s = nI bs.length) (h2 : bs.length ≤ 17) (h3 : rg (yA S 11 j m) (18 * s) bs) {K : xH → Prop} (q : ∀ S', zS m 2 (fun i => i = t) S S' → (∀ k, k ≠ j → k ≠ js → yA S' 11 k m = yA S 11 k m) → yA S' 11 js m t = nI bs.length → rg (yA S' 11 j m) (18 * t) bs → K (yH Λ f0 S')) : xgr (yH Λ f0 S) m 11 j (fun r5 => xgr (yH Λ f0 S) m 11 j (fun r6 => xgr (yH Λ f0 S) m 11 js (fun r7 => xal (yH Λ f0 S) r7 0 (nI s) (fun v8 => xSp xT0 (d + 1) j_Mo_move [.ref r5, .int (18 * nI s), .ref r6, .int (18 * nI t), .int v8] (yH Λ f0 S) (fun w9 f10 => xvv w9 (xgr f10 m 11 js (fun r11 => xgr f10 m 11 js (fun r12 => xal f10 r12 0 (nI s) (fun v13 => xas f10 r11 0 (nI t) v13 K))))))))) := by
  have ho := hL.2.1
  refine ygr ho hf (ygr ho hf (ygr ho hfs (yal hjs (vp_in_nI ha (by omega)) ?_)))
  rw [nI_clamp (by omega), h1, n18, n18]
  refine Mo_move_sp hL.1 hj hj (rg_id h3) (by omega) (by omega) (by omega) (by omega) (Or.inr (by omega)) (xvvI (cpI hL hjs hfs ha hb (by omega) ?_))
  have k1 : zS m 2 (fun i => i = t) S (ywA S 11 j m (va_cpy (yA S 11 j m) (yA S 11 j m) (18 * s) (18 * t) bs.length)) := by
    have := zS_c (m := m) (S := S) (A := yA S 11 j m) (j := j) (f := t) (p := 18 * s) (n := bs.length) (F := fun i => i = t) hg rfl (by omega) (by omega)
    rw [hw] at this
    exact this
  have e1 : yA (ywA S 11 j m (va_cpy (yA S 11 j m) (yA S 11 j m) (18 * s) (18 * t) bs.length)) 11 js m s = nI bs.length := by rw [yA_n _ _ (by omega)]; exact h1
  rw [e1]
  refine q _ (zS_tr k1 (zS_u hgs (by show t / wid js = t; rw [hws, Nat.div_one]))) (fun k h h' => ?_) (by rw [yA_s, pk_us]) ?_
  · rw [yA_n _ _ (by omega), yA_n _ _ (by omega)]
  · rw [yA_n _ _ (by omega), yA_s]
    exact rg_cpy h3 (Nat.le_refl _)
theorem Mo_moveStep_sp (hL : mLay Λ m) (hs : s < 220) (ht : t < 220) (hst : s ≠ t) (h : mS S m s v) (hp : ∀ S', zS m 2 (fun i => i = t) S S' → mS S' m t v → post none (yH Λ f0 S')) : xSp xT0 (d + 2) j_Mo_moveStep [.ref m, .int (nI s), .int (nI t)] (yH Λ f0 S) post := by
  have ho := hL.2.1
  have hw1 : ∀ {Z : yS} {j : Nat} {x : Int32}, grp j = 2 → wid j = 1 → zS m 2 (fun i => i = t) Z (ywA Z 11 j m (upd (yA Z 11 j m) t x)) := fun h1 h2 => zS_u h1 (by rw [h2, Nat.div_one])
  refine xSp_of (M := m_Mo_moveStep) rfl (b_Mo_moveStep_0 (cpI hL (mk11 hL) rfl hs ht (by omega) ?_))
  have k1 : zS m 2 (fun i => i = t) S (ywA S 11 11 m (upd (yA S 11 11 m) t (yA S 11 11 m s))) := hw1 rfl rfl
  have f11 : yA (ywA S 11 11 m (upd (yA S 11 11 m) t (yA S 11 11 m s))) 11 11 m t = v.1 := by rw [yA_s, pk_us]; exact h.1
  generalize ywA S 11 11 m (upd (yA S 11 11 m) t (yA S 11 11 m s)) = S1 at *
  have m1 := mS_z k1 (fun _ => hst) h
  refine cpB hL (mk12 hL) (mk13 hL) rfl rfl (by decide) rfl rfl rfl rfl hs ht hst m1.2.1.1 m1.2.1.2.1 m1.2.1.2.2 (fun S2 k2 o2 g13 g12 => ?_)
  have m2 := mS_z k2 (fun _ => hst) m1
  rw [← o2 11 (by decide) (by decide)] at f11
  refine cpB hL (mk14 hL) (mk15 hL) rfl rfl (by decide) rfl rfl rfl rfl hs ht hst m2.2.2.1.1 m2.2.2.1.2.1 m2.2.2.1.2.2 (fun S3 k3 o3 g15 g14 => ?_)
  have m3 := mS_z k3 (fun _ => hst) m2
  rw [← o3 11 (by decide) (by decide)] at f11
  rw [← o3 13 (by decide) (by decide)] at g13
  rw [← o3 12 (by decide) (by decide)] at g12
  have k03 := zS_tr (zS_tr k1 k2) k3
  refine cpI hL (mk16 hL) rfl hs ht (by omega) (cpI hL (mk17 hL) rfl hs ht (by omega) (cpI hL (mk18 hL) rfl hs ht (by omega) (cpI hL (mk19 hL) rfl hs ht (by omega) ?_)))
  generalize hS4 : ywA S3 11 16 m (upd (yA S3 11 16 m) t (yA S3 11 16 m s)) = S4
  generalize hS5 : ywA S4 11 17 m (upd (yA S4 11 17 m) t (yA S4 11 17 m s)) = S5
  generalize hS6 : ywA S5 11 18 m (upd (yA S5 11 18 m) t (yA S5 11 18 m s)) = S6
  generalize hS7 : ywA S6 11 19 m (upd (yA S6 11 19 m) t (yA S6 11 19 m s)) = S7
  have k4 : zS m 2 (fun i => i = t) S3 S4 := by rw [← hS4]; exact hw1 rfl rfl
  have k5 : zS m 2 (fun i => i = t) S4 S5 := by rw [← hS5]; exact hw1 rfl rfl
  have k6 : zS m 2 (fun i => i = t) S5 S6 := by rw [← hS6]; exact hw1 rfl rfl
  have k7 : zS m 2 (fun i => i = t) S6 S7 := by rw [← hS7]; exact hw1 rfl rfl
  have o4 : ∀ k, k ≠ 16 → yA S4 11 k m = yA S3 11 k m := fun k hk => by rw [← hS4, yA_n _ _ (by omega)]
  have o5 : ∀ k, k ≠ 17 → yA S5 11 k m = yA S4 11 k m := fun k hk => by rw [← hS5, yA_n _ _ (by omega)]
  have o6 : ∀ k, k ≠ 18 → yA S6 11 k m = yA S5 11 k m := fun k hk => by rw [← hS6, yA_n _ _ (by omega)]
  have o7 : ∀ k, k ≠ 19 → yA S7 11 k m = yA S6 11 k m := fun k hk => by rw [← hS7, yA_n _ _ (by omega)]
  have oA : ∀ k, (k < 16 ∨ 19 < k) → yA S7 11 k m = yA S3 11 k m := fun k hk => by rw [o7 k (by omega), o6 k (by omega), o5 k (by omega), o4 k (by omega)]
  have m4 := mS_z k4 (fun _ => hst) m3
  have m5 := mS_z k5 (fun _ => hst) m4
  have m6 := mS_z k6 (fun _ => hst) m5
  have m7 := mS_z k7 (fun _ => hst) m6
  have f16 : yA S7 11 16 m t = v.2.2.2.1 := by rw [o7 16 (by decide), o6 16 (by decide), o5 16 (by decide), ← hS4, yA_s, pk_us]; exact m3.2.2.2.1.1
  have f17 : yA S7 11 17 m t = v.2.2.2.2.1 := by rw [o7 17 (by decide), o6 17 (by decide), ← hS5, yA_s, pk_us]; exact m4.2.2.2.1.2.1
  have f18 : yA S7 11 18 m t = v.2.2.2.2.2.1 := by rw [o7 18 (by decide), ← hS6, yA_s, pk_us]; exact m5.2.2.2.1.2.2.1
  have f19 : yA S7 11 19 m t = v.2.2.2.2.2.2.1 := by rw [← hS7, yA_s, pk_us]; exact m6.2.2.2.1.2.2.2
  rw [← oA 11 (by omega)] at f11
  rw [← oA 13 (by omega)] at g13
  rw [← oA 12 (by omega)] at g12
  rw [← oA 15 (by omega)] at g15
  rw [← oA 14 (by omega)] at g14
  have k07 := zS_tr (zS_tr (zS_tr (zS_tr k03 k4) k5) k6) k7
  clear hS4 hS5 hS6 hS7
  have hlo : ∀ k, k ≤ 48 → (∀ S8, zS m 2 (fun i => i = t) S7 S8 → (∀ j, j ≠ 20 → j ≠ 21 → yA S8 11 j m = yA S7 11 j m) → (∀ i, i < k → yA S8 11 20 m (48 * t + i) = yA S7 11 20 m (48 * s + i) ∧ yA S8 11 21 m (48 * t + i) = yA S7 11 21 m (48 * s + i)) → xWp (xT0, xSp xT0 (d + 1), none, m_Mo_moveStep, post) 136 [some (.ref m), some (.int (nI s)), some (.int (nI t)), some (.int (nI k))] [] (yH Λ f0 S8) 0 0) := by
    refine loopUp ?_ ?_
    · intro S8 k8 o8 hc
      refine b_Mo_moveStep_136 (brle (a := 48) (by omega) (by omega) (fun _ => hp S8 (zS_tr k07 k8) ?_) (fun z => by omega))
      obtain ⟨h1, ⟨h2, h3, h4⟩, ⟨h5, h6, h7⟩, ⟨h8, h9, h10, h11⟩, ⟨h12, h13⟩, h14, h15⟩ := m7
      refine ⟨?_, ⟨?_, h3, ?_⟩, ⟨?_, h6, ?_⟩, ⟨?_, ?_, ?_, ?_⟩, ⟨h12, fun i hi => ?_⟩, h14, fun i hi => ?_⟩
      · rw [o8 11 (by decide) (by decide)]; exact f11
      · rw [o8 13 (by decide) (by decide)]; exact g13
      · rw [o8 12 (by decide) (by decide)]; exact g12
      · rw [o8 15 (by decide) (by decide)]; exact g15
      · rw [o8 14 (by decide) (by decide)]; exact g14
      · rw [o8 16 (by decide) (by decide)]; exact f16
      · rw [o8 17 (by decide) (by decide)]; exact f17
      · rw [o8 18 (by decide) (by decide)]; exact f18
      · rw [o8 19 (by decide) (by decide)]; exact f19
      · rw [(hc i (by omega)).1]; exact h13 i hi
      · rw [(hc i (by omega)).2]; exact h15 i hi
    · intro k hk ih S8 k8 o8 hc
      refine b_Mo_moveStep_136 (brle (a := 48) (by omega) (by omega) (fun z => by omega) (fun _ => ?_))
      rw [n48, n48, nI_add, nI_add, nI_1]
      refine cpI hL (mk20 hL) rfl (by omega) (by omega) (by omega) (cpI hL (mk21 hL) rfl (by omega) (by omega) (by omega) ?_)
      have e21 : ∀ g0 : Nat → Int32, yA (ywA S8 11 20 m g0) 11 21 m = yA S8 11 21 m := fun _ => by rw [yA_n _ _ (by omega)]
      rw [e21]
      have d48 : (48 * t + k) / 48 = t := div48 hk
      refine ih _ (zS_tr (zS_tr k8 (zS_u (j := 20) (v := yA S8 11 20 m (48 * s + k)) rfl (by show (48 * t + k) / 48 = t; exact d48))) ?_) (fun j h1 h2 => ?_) (fun i hi => ?_)
      · have := zS_u (m := m) (S := ywA S8 11 20 m (upd (yA S8 11 20 m) (48 * t + k) (yA S8 11 20 m (48 * s + k)))) (j := 21) (i := 48 * t + k) (v := yA S8 11 21 m (48 * s + k)) (F := fun i => i = t) (g := 2) rfl (by show (48 * t + k) / 48 = t; exact d48)
        rw [e21] at this
        exact this
      · rw [yA_n _ _ (by omega), yA_n _ _ (by omega)]; exact o8 j h1 h2
      · rw [yA_n _ _ (by omega), yA_s, yA_s]
        by_cases w : i = k
        · rw [w, pk_us, pk_us]
          have q1 := k8.2.2 20 (48 * s + k) rfl (by rw [show wid 20 = 48 from rfl, div48 hk]; exact hst)
          have q2 := k8.2.2 21 (48 * s + k) rfl (by rw [show wid 21 = 48 from rfl, div48 hk]; exact hst)
          exact ⟨q1, q2⟩
        · rw [pk_un (by omega), pk_un (by omega)]; exact hc i (by omega)
  exact hlo 0 (Nat.zero_le _) S7 zS_rf (fun _ _ _ => rfl) (fun i hi => absurd hi (Nat.not_lt_zero _))
theorem Mo_orderOf_sp (hL : mLay Λ m) (hs : s < 220) (ht : t < 220) (h1 : mS S m s v) (h2 : mS S m t w) (o1 : okP v.2.1) (o2 : okP w.2.1) (hp : ∀ r : Int32, (0 < r ↔ behV v w = true) → post (some (.int r)) (yH Λ f0 S)) : xSp xT0 (d + 2) j_Mo_orderOf [.ref m, .int (nI s), .int (nI t)] (yH Λ f0 S) post := by
  have ho := hL.2.1
  obtain ⟨a1, ⟨a2, a3, a4⟩, -⟩ := h1
  obtain ⟨b1, ⟨b2, b3, b4⟩, -⟩ := h2
  refine xSp_of (M := m_Mo_orderOf) rfl (b_Mo_orderOf_0 (ygr ho rfl (ygr ho rfl (yal (mk13 hL) (vp_in_nI hs (by omega)) (ygr ho rfl (ygr ho rfl (yal (mk13 hL) (vp_in_nI ht (by omega)) ?_)))))))
  rw [nI_clamp (by omega), nI_clamp (by omega), a2, b2, n18, n18]
  have hb : behV v w = true ↔ (0 < ordV v.2.1 w.2.1 ∨ (v.2.1 = w.2.1 ∧ ¬ v.1 = 1 ∧ w.1 = 1)) := ⟨fun z => of_decide_eq_true z, fun z => decide_eq_true z⟩
  have hop := ordM_p o1 o2
  have hneg := ordV_neg v.2.1 w.2.1
  refine Mo_order_sp (mk12 hL) (mk12 hL) a4 b4 (by omega) (by omega) (by omega) (by omega) (xviI ⟨fun z => ygr ho rfl (yal (mk11 hL) (vp_in_nI hs (by omega)) ?_), fun z => hp _ ?_⟩)
  · have ee := ordM_0.mp z
    have e0 : ordV v.2.1 w.2.1 = 0 := ordV_0.mpr ee
    rw [nI_clamp (by omega), a1]
    refine ⟨fun c1 => ygr ho rfl (yal (mk11 hL) (vp_in_nI ht (by omega)) ?_), fun c1 => hp _ ?_⟩
    · rw [nI_clamp (by omega), b1]
      refine ⟨fun c2 => hp _ ?_, fun c2 => hp _ ?_⟩
      · rw [hb]; exact ⟨fun z => absurd z (by decide), fun z => z.elim (fun z => by omega) (fun z => absurd z.2.2 c2)⟩
      · rw [hb]; exact ⟨fun _ => Or.inr ⟨ee, c1, Classical.not_not.mp c2⟩, fun _ => by decide⟩
    · rw [hb]; exact ⟨fun z => absurd z (by decide), fun z => z.elim (fun z => by omega) (fun z => absurd (Classical.not_not.mp c1) z.2.1)⟩
  · rw [hb, hop]
    refine ⟨fun z => Or.inl (by omega), fun y => y.elim (fun y => by omega) (fun y => absurd (ordM_0.mpr y.1) z)⟩
theorem n24 (p i : Nat) : (24 : Int32) * nI p + nI i = nI (24 * p + i) := by
  have : (24 : Int32) * nI p = nI (24 * p) := pk_mul 24 p
  rw [this, nI_add]
theorem Mo_addSpare_sp (hL : mLay Λ m) {p : Nat} (hp8 : p < 9) (hP : mP S m p vs) (hlt : vs.length < 24) (hv : mS S m 217 v) (hok : ∀ i, i < vs.length → okP (vs.getD i sv0).2.1) (hov : okP v.2.1) (hp : ∀ S', zX m (fun j => grp j = 2 ∨ j = 22) S S' → (∀ s q, ¬ Fp p s → mS S m s q → mS S' m s q) → (∀ p', p' ≠ p → yA S' 11 22 m p' = yA S 11 22 m p') → mP S' m p (addV vs v) → post none (yH Λ f0 S')) : xSp xT0 (d + 3) j_Mo_addSpare [.ref m, .int (nI p)] (yH Λ f0 S) post := by
  have hW := hL.1
  have ho := hL.2.1
  have h53 : ∀ i, i ≤ vs.length → insV v vs vs.length = i → ∀ S1, zS m 2 (Fp p) S S1 → (∀ k, k < i → mS S1 m (24 * p + k) (vs.getD k sv0)) → (∀ k, i < k → k ≤ vs.length → mS S1 m (24 * p + k) (vs.getD (k - 1) sv0)) → xWp (xT0, xSp xT0 (d + 2), none, m_Mo_addSpare, post) 53 [some (.ref m), some (.int (nI p)), some (.int (nI i))] [] (yH Λ f0 S1) 0 0 := by
    intro i hi ei S1 k1 hlo hup
    have hv1 := mS_z k1 (fun _ z => by have := z.1; have := z.2; omega) hv
    refine b_Mo_addSpare_53 ?_
    unfold B_Mo_addSpare_53
    rw [n24]
    refine ⟨yex ho, Mo_moveStep_sp (s := 217) hL (by omega) (by omega) (by omega) hv1 (fun S2 k2 hq2 => xvvI (ygr ho rfl (yal (mk22 hL) (vp_in_nI hp8 (by omega)) (yas (mk22 hL) (yW_n hW (mk22 hL)) (vp_in_nI hp8 (by omega)) ?_))))⟩
    have k02 : zS m 2 (Fp p) S S2 := zS_tr k1 (zS_mo k2 (fun z e => by rw [show z = 24 * p + i from e]; exact ⟨by omega, by omega⟩))
    have e22 : yA S2 11 22 m = yA S 11 22 m := k02.2.1 11 22 m (fun z => absurd z.2.2 (by decide))
    rw [nI_clamp (by omega), e22, hP.2.1, nI_1]
    have hx : zX m (fun j => j = 22) S2 (ywA S2 11 22 m (upd (yA S 11 22 m) p (nI (vs.length + 1)))) := zX_wA rfl
    have hFf : ∀ {s q}, mS S2 m s q → mS (ywA S2 11 22 m (upd (yA S 11 22 m) p (nI (vs.length + 1)))) m s q := fun h => mS_x hx (fun j _ _ => by omega) h
    have hlen : (addV vs v).length = vs.length + 1 := addV_len vs v
    refine hp _ (zX_tr (zX_S k02 (fun _ h => Or.inl h)) (zX_mo hx (fun _ h => Or.inr h))) (fun s q hs hq => hFf (mS_z k02 (fun _ => hs) hq)) (fun p' h' => by rw [yA_s, pk_un h']) ⟨by rw [hlen]; omega, by rw [yA_s, pk_us, hlen], fun k hk => ?_⟩
    rw [hlen] at hk
    unfold addV
    rw [ei, insA_at hi]
    refine hFf ?_
    by_cases c1 : k < i
    · rw [if_pos c1]; exact mS_z k2 (fun _ e => by omega) (hlo k c1)
    · rw [if_neg c1]
      by_cases c2 : k = i
      · rw [if_pos c2, c2]; exact hq2
      · rw [if_neg c2]; exact mS_z k2 (fun _ e => by omega) (hup k (by omega) (by omega))
  have h7 : ∀ i, i ≤ vs.length → insV v vs vs.length = insV v vs i → ∀ S1, zS m 2 (Fp p) S S1 → (∀ k, k < i → mS S1 m (24 * p + k) (vs.getD k sv0)) → (∀ k, i < k → k ≤ vs.length → mS S1 m (24 * p + k) (vs.getD (k - 1) sv0)) → xWp (xT0, xSp xT0 (d + 2), none, m_Mo_addSpare, post) 7 [some (.ref m), some (.int (nI p)), some (.int (nI i))] [] (yH Λ f0 S1) 0 0 := by
    intro i
    induction i with
    | zero =>
      intro hi ei S1 k1 hlo hup
      exact b_Mo_addSpare_7 (brle (b := 0) (by omega) (by omega) (fun _ => h53 0 hi ei S1 k1 hlo hup) (fun c => by omega))
    | succ i ih =>
      intro hi ei S1 k1 hlo hup
      rw [insV_s] at ei
      have hv1 := mS_z k1 (fun _ z => by have := z.1; have := z.2; omega) hv
      have e1 : nI (24 * p + (i + 1)) - 1 = nI (24 * p + i) := nI_pred (24 * p + i)
      refine b_Mo_addSpare_7 ?_
      unfold B_Mo_addSpare_7
      rw [n24, e1]
      refine brle (b := 0) (by omega) (by omega) (fun c => by omega) (fun _ => ⟨yex ho, Mo_orderOf_sp (t := 217) hL (by omega) (by omega) (hlo i (by omega)) hv1 (hok i (by omega)) hov (fun r hr => xviI ?_)⟩)
      by_cases c : behV (vs.getD i sv0) v = true
      · rw [if_pos c] at ei
        have c1 := hr.mpr c
        refine ⟨fun z => absurd (Int32.lt_of_lt_of_le c1 z) Int32.lt_irrefl, fun _ => ⟨yex ho, Mo_moveStep_sp hL (by omega) (by omega) (by omega) (hlo i (by omega)) (fun S2 k2 hq2 => xvvI ?_)⟩⟩
        rw [pk_m1]
        refine ih (by omega) ei S2 (zS_tr k1 (zS_mo k2 (fun z e => by rw [show z = 24 * p + (i + 1) from e]; exact ⟨by omega, by omega⟩))) (fun k hk => mS_z k2 (fun _ e => by omega) (hlo k (by omega))) (fun k h1 h2 => ?_)
        by_cases e : k = i + 1
        · rw [e]; exact hq2
        · exact mS_z k2 (fun _ e => by omega) (hup k (by omega) h2)
      · rw [if_neg c] at ei
        refine ⟨fun _ => h53 (i + 1) hi ei S1 k1 hlo hup, fun z => absurd ?_ z⟩
        have c1 : ¬ 0 < r := fun z => c (hr.mp z)
        exact Int32.not_lt.mp c1
  refine xSp_of (M := m_Mo_addSpare) rfl (b_Mo_addSpare_0 (ygr ho rfl (yal (mk22 hL) (vp_in_nI hp8 (by omega)) ?_)))
  rw [nI_clamp (by omega), hP.2.1]
  exact h7 vs.length (Nat.le_refl _) rfl S zS_rf hP.2.2 (fun k h1 h2 => by omega)
end
