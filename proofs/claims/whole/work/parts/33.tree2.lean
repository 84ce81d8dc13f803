/-! 33 Tree: copyOf, empty; what does not belong to a component stays -/
def yAg (Λ : yL) (S S' : yS) (t : Nat) : Prop := ∀ c j a, a ≠ t → own Λ a ≠ t → yI S' c j a = yI S c j a ∧ yA S' c j a = yA S c j a ∧ yR S' c j a = yR S c j a
theorem yAg_rf {Λ : yL} {S : yS} {t : Nat} : yAg Λ S S t := fun _ _ _ _ _ => ⟨rfl, rfl, rfl⟩
theorem yAg_tr {Λ : yL} {S S1 S2 : yS} {t : Nat} (h1 : yAg Λ S S1 t) (h2 : yAg Λ S1 S2 t) : yAg Λ S S2 t := fun c j a q1 q2 => by
  obtain ⟨a1, a2, a3⟩ := h1 c j a q1 q2
  obtain ⟨b1, b2, b3⟩ := h2 c j a q1 q2
  exact ⟨b1.trans a1, b2.trans a2, b3.trans a3⟩
theorem yAg_Bw {Λ : yL} {S : yS} {t a : Nat} {g : Nat → Int32} {v : Int32} (h : own Λ a = t) : yAg Λ S (yBw S a g v) t := fun c j b q1 q2 => by
  have hb : b ≠ a := fun e => q2 (by rw [e]; exact h)
  exact ⟨by rw [yBw_I, if_neg (fun z => hb z.2.2)], by rw [yBw_A, if_neg (fun z => hb z.2.2)], rfl⟩
theorem yAg_I {Λ : yL} {S : yS} {t c j : Nat} {v : Int32} : yAg Λ S (ywI S c j t v) t := fun c' j' b q1 q2 => ⟨if_neg (fun z => q1 z.2.2), rfl, rfl⟩
theorem yAg_R {Λ : yL} {S : yS} {t c j : Nat} {g : Nat → Option Nat} : yAg Λ S (ywR S c j t g) t := fun c' j' b q1 q2 => ⟨rfl, rfl, if_neg (fun z => q1 z.2.2)⟩
theorem yAg_A {Λ : yL} {S : yS} {t c j : Nat} {g : Nat → Int32} : yAg Λ S (ywA S c j t g) t := fun c' j' b q1 q2 => ⟨rfl, if_neg (fun z => q1 z.2.2), rfl⟩
theorem yAg_Bv {Λ : yL} {S S' : yS} {t b cap : Nat} {bs : List Nat} (h : yAg Λ S S' t) (h1 : b ≠ t) (h2 : own Λ b ≠ t) (hv : yBv S b cap bs) : yBv S' b cap bs :=
  ⟨hv.1, by rw [(h 1 1 b h1 h2).1]; exact hv.2.1, fun k hk => by rw [(h 1 0 b h1 h2).2.1]; exact hv.2.2 k hk⟩
theorem yAg_Tv {Λ : yL} {S S' : yS} {t u : Nat} {fs : List Fl} (h : yAg Λ S S' t) (h1 : u ≠ t) (h2 : own Λ u ≠ t) (h3 : own Λ t ≠ u) (hv : yTv Λ S u fs) : yTv Λ S' u fs := by
  obtain ⟨hs, P, C, hp, hl, hn, h0, hb⟩ := hv
  have hk : ∀ b, own Λ b = u → b ≠ t ∧ own Λ b ≠ t := fun b q => ⟨fun e => h3 (by rw [← e]; exact q), by rw [q]; exact h1⟩
  have hbv : ∀ b cap bs, own Λ b = u → yBv S b cap bs → yBv S' b cap bs := fun b cap bs q hv => yAg_Bv h (hk b q).1 (hk b q).2 hv
  refine ⟨hs, P, C, ⟨fun i hi => ?_, hp.2⟩, hl, ?_, hbv _ _ _ hs.2.2.2.2 h0, fun i hi => ⟨hbv _ _ _ (hp.1 i (by omega)).2.2.1 (hb i hi).1, hbv _ _ _ (hp.1 i (by omega)).2.2.2 (hb i hi).2⟩⟩
  · refine ⟨?_, (hp.1 i hi).2⟩
    rw [(h 2 0 u h1 h2).2.2, (h 2 1 u h1 h2).2.2]
    exact (hp.1 i hi).1
  · rw [(h 2 3 u h1 h2).1]; exact hn
section
variable {Λ : yL} {f0 : xH} {S : yS} {t u o capo d : Nat} {fs gs : List Fl} {bs : List Nat} {x : Int32} {post : Option Value → xH → Prop}
theorem Tr_empty_sp (hs : yT Λ t) (h : post none (yH Λ f0 (ywI S 2 3 t 0))) : xSp xT0 (d + 1) j_Tr_empty [.ref t] (yH Λ f0 S) post :=
  xSp_of (M := m_Tr_empty) rfl (b_Tr_empty_0 (ypf hs.1 rfl h))
theorem own_ne (hs : yT Λ t) (ht : own Λ t ≠ t) {b : Nat} (hb : own Λ b = t) : b ≠ t := fun e => ht (by rw [← e]; rw [e]; rw [e] at hb; exact hb)
theorem yBv_I2 {c j a v b cap : Nat} {w : Int32} (h : c ≠ 1) (hv : yBv S b cap bs) : yBv (ywI S c j a w) b cap bs :=
  ⟨hv.1, by rw [show yI (ywI S c j a w) 1 1 b = yI S 1 1 b from if_neg (fun z => h z.1.symm)]; exact hv.2.1, hv.2.2⟩
theorem yBv_R2 {c j a b cap : Nat} {g : Nat → Option Nat} (hv : yBv S b cap bs) : yBv (ywR S c j a g) b cap bs := hv
theorem yTv_e (hT : yTv Λ S t fs) : yTv Λ (ywI S 2 3 t 0) t [] := by
  obtain ⟨hs, P, C, hp, hl, hn, h0, hb⟩ := hT
  refine ⟨hs, P, C, hp, by simp, ?_, yBv_I2 (v := 0) (by decide) h0, fun i hi => absurd hi (Nat.not_lt_zero _)⟩
  exact if_pos ⟨rfl, rfl, rfl⟩
theorem Tr_copyOf_loop (hW : yW Λ) (hU : yTv Λ S u gs) (hs : yT Λ t) {P C : Nat → Nat} (hut : u ≠ t) (h2 : own Λ u ≠ t) (h3 : own Λ t ≠ u) {E : Option Value → xH → Prop} (h : ∀ S', yAg Λ S S' t → yTv Λ S' t gs → E none (yH Λ f0 S')) : ∀ n k S1, gs.length - k = n → k ≤ gs.length → yAg Λ S S1 t → yTp Λ S1 t P C → yI S1 2 3 t = nI gs.length → yBv S1 (Λ.2.1 2 2 t) 0 [] → (∀ i, i < k → yBv S1 (P i) 17 (gs.getD i fl0).1 ∧ yBv S1 (C i) 48 (gs.getD i fl0).2) → xWp (xT0, xSp xT0 (d + 1), none, m_Tr_copyOf, E) 10 [some (.ref t), some (.ref u), some (.int (nI k))] [] (yH Λ f0 S1) 0 0 := by
  have hlg : gs.length ≤ 10 := by obtain ⟨_, _, _, _, q, _⟩ := hU; exact q
  intro n
  induction n with
  | zero =>
    intro k S1 hk1 hk2 hag hp hn h0 hg
    refine b_Tr_copyOf_10 (ygi hs.1 rfl ?_)
    rw [hn]
    exact ⟨fun c => h S1 hag ⟨hs, P, C, hp, hlg, hn, h0, fun i hi => hg i (by omega)⟩, fun c => absurd ((leI (by omega) (by omega)).mpr (by omega)) c⟩
  | succ n ih =>
    intro k S1 hk1 hk2 hag hp hn h0 hg
    have hk : k < gs.length := by omega
    have hk10 : k < 10 := by omega
    obtain ⟨hs', P', C', hp', hl', hn', h0', hb'⟩ := yAg_Tv hag hut h2 h3 hU
    have own' : ∀ b, own Λ b = u → b ≠ t ∧ own Λ b ≠ t := fun b q => ⟨fun e => h3 (by rw [← e]; exact q), by rw [q]; exact hut⟩
    refine b_Tr_copyOf_10 (ygi hs.1 rfl ?_)
    rw [hn]
    refine ⟨fun c => absurd ((leI (by omega) (by omega)).mp c) (by omega), fun c => ygr hs.1 rfl (yrl (P k) hs.2.1 (vp_in_nI (by omega) (by omega)) (by rw [nI_clamp (by omega)]; exact (hp.1 k hk10).1.1) (ygr hs'.1 rfl (yrl (P' k) hs'.2.1 (vp_in_nI (by omega) (by omega)) (by rw [nI_clamp (by omega)]; exact (hp'.1 k hk10).1.1) ⟨yex (hp.1 k hk10).2.1.1.1, By_copyOf_sp hW (hp.1 k hk10).2.1.1 (hp'.1 k hk10).2.1.1 (fun e => (own' _ (hp'.1 k hk10).2.2.1).2 (by rw [e]; exact (hp.1 k hk10).2.2.1)) (hb' k hk).1 (hb' k hk).1.1 (fun g hg1 => ?_)⟩)))⟩
    have hag2 := yAg_tr hag (yAg_Bw (S := S1) (g := g) (v := nI (gs.getD k fl0).1.length) (hp.1 k hk10).2.2.1)
    obtain ⟨-, P2, C2, hp2, -, -, -, hb2⟩ := yAg_Tv hag2 hut h2 h3 hU
    refine ygr hs.1 rfl (yrl (C k) hs.2.2.1 (vp_in_nI (by omega) (by omega)) (by rw [nI_clamp (by omega)]; exact (hp.1 k hk10).1.2) (ygr hs'.1 rfl (yrl (C2 k) hs'.2.2.1 (vp_in_nI (by omega) (by omega)) (by rw [nI_clamp (by omega)]; exact (hp2.1 k hk10).1.2) ⟨yex (hp.1 k hk10).2.1.2.1, By_copyOf_sp hW (hp.1 k hk10).2.1.2 (hp2.1 k hk10).2.1.2 (fun e => (own' _ (hp2.1 k hk10).2.2.2).2 (by rw [e]; exact (hp.1 k hk10).2.2.2)) (hb2 k hk).2 (hb2 k hk).2.1 (fun g' hg2 => ?_)⟩)))
    have hpc : P k ≠ C k := hp.2.2.2.1 k k hk10 hk10
    have hthis := ih (k + 1) (yBw (yBw S1 (P k) g (nI (gs.getD k fl0).1.length)) (C k) g' (nI (gs.getD k fl0).2.length)) (by omega) (by omega) (yAg_tr hag2 (yAg_Bw (hp.1 k hk10).2.2.2)) hp ?_ ?_ ?_
    · rw [← nI_1] at hthis
      exact hthis
    · exact hn
    · exact yBv_w (fun e => (hp.2.2.2.2 k hk10).2 e.symm) (yBv_w (fun e => (hp.2.2.2.2 k hk10).1 e.symm) h0)
    · intro i hi
      by_cases q : i = k
      · subst q
        exact ⟨yBv_w hpc hg1, hg2⟩
      · have hi10 : i < 10 := by omega
        have hi2 := hg i (by omega)
        exact ⟨yBv_w (hp.2.2.2.1 i k hi10 hk10) (yBv_w (fun e => q (hp.2.1 i k hi10 hk10 e)) hi2.1), yBv_w (fun e => q (hp.2.2.1 i k hi10 hk10 e)) (yBv_w (fun e => hp.2.2.2.1 k i hk10 hi10 e.symm) hi2.2)⟩
theorem Tr_copyOf_sp (hW : yW Λ) (hT : yTv Λ S t fs) (hU : yTv Λ S u gs) (hut : u ≠ t) (h2 : own Λ u ≠ t) (h3 : own Λ t ≠ u) (h : ∀ S', yAg Λ S S' t → yTv Λ S' t gs → post none (yH Λ f0 S')) : xSp xT0 (d + 2) j_Tr_copyOf [.ref t, .ref u] (yH Λ f0 S) post := by
  obtain ⟨hs, P, C, hp, hl, hn, h0, hb⟩ := hT
  obtain ⟨hs', P', C', hp', hl', hn', h0', hb'⟩ := id hU
  refine xSp_of (M := m_Tr_copyOf) rfl (b_Tr_copyOf_0 (ygi hs'.1 rfl (ypf hs.1 rfl ?_)))
  rw [hn']
  exact Tr_copyOf_loop hW hU hs hut h2 h3 h _ 0 _ rfl (Nat.zero_le _) yAg_I hp (if_pos ⟨rfl, rfl, rfl⟩) (yBv_I2 (v := 0) (by decide) h0) (fun i hi => absurd hi (Nat.not_lt_zero _))
end
