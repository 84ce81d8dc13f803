/-! 7p the other object: what it tells of STEPS -/
/-- a byte that is told -/
def told (z : Int32) : Prop := ∃ b, b < 256 ∧ z = nI b ^^^ (-1)
def okV (v : Sv) : Prop := (v.1 = 0 ∨ v.1 = 1 ∨ v.1 = 2 ∨ v.1 = 3 ∨ v.1 = 4) ∧ (okP v.2.1 ∧ okP v.2.2.1 ∧ v.2.1.length ≤ 17 ∧ v.2.2.1.length ≤ 17) ∧ ((v.1 = 1 → v.2.2.2.2.2.1 = -2 ∧ v.2.2.2.2.2.2.1 = -2 ∧ v.2.2.2.2.2.2.2.1 = []) ∧ (¬ v.1 = 1 → v.2.2.2.2.2.1 = nI v.2.2.2.2.2.2.2.1.length)) ∧ ((v.1 = 0 → v.2.2.2.1 = -2 ∧ v.2.2.2.2.1 = -2 ∧ v.2.2.2.2.2.2.2.2 = []) ∧ (¬ v.1 = 0 → v.2.2.2.1 = nI v.2.2.2.2.2.2.2.2.length)) ∧ (v.2.2.2.2.2.2.2.1.length ≤ 48 ∧ v.2.2.2.2.2.2.2.2.length ≤ 48) ∧ (∀ k, k < v.2.2.2.2.2.2.2.1.length → told (v.2.2.2.2.2.2.2.1.getD k 0) ∨ ∃ i, i < v.2.2.2.2.2.2.2.2.length ∧ v.2.2.2.2.2.2.2.1.getD k 0 = nI i) ∧ (∀ k, k < v.2.2.2.2.2.2.2.2.length → told (v.2.2.2.2.2.2.2.2.getD k 0) ∨ ∃ i, i < v.2.2.2.2.2.2.2.1.length ∧ v.2.2.2.2.2.2.2.2.getD k 0 = nI i) ∧ (v.1 = 0 ∨ v.1 = 1 ∨ v.1 = 2 → v.2.1 = v.2.2.1)
def byO (x : Int32) : Int32 := if 0 ≤ x then x else 0
theorem okV_d {v : Sv} (h : okV v) : byO v.2.2.2.2.2.1 = nI v.2.2.2.2.2.2.2.1.length := by
  have hl := h.2.2.2.2.1.1
  unfold byO
  by_cases c : v.1 = 1
  · obtain ⟨h1, _, h2⟩ := h.2.2.1.1 c
    rw [h1, h2]
    decide
  · rw [h.2.2.1.2 c, if_pos (nI_pos' (by omega))]
theorem okV_b {v : Sv} (h : okV v) : byO v.2.2.2.1 = nI v.2.2.2.2.2.2.2.2.length := by
  have hl := h.2.2.2.2.1.2
  unfold byO
  by_cases c : v.1 = 0
  · obtain ⟨h1, _, h2⟩ := h.2.2.2.1.1 c
    rw [h1, h2]
    decide
  · rw [h.2.2.2.1.2 c, if_pos (nI_pos' (by omega))]
theorem notI (z : Int32) : (-1 : Int32) - z = z ^^^ (-1) := by
  apply Int32.toBitVec_inj.mp
  rw [Int32.toBitVec_sub, Int32.toBitVec_xor, show (-1 : Int32).toBitVec = BitVec.allOnes 32 by decide, BitVec.xor_allOnes, BitVec.allOnes_sub_eq_not]
theorem cntP_run {zs : List Int32} {s : Nat} (h : stP zs s = true) : ∀ n, (∀ j, s < j → j < s + 1 + n → stP zs j = false) → cntP zs (s + 1 + n) = cntP zs s + 1
  | 0, _ => by rw [Nat.add_zero, cntP_s, if_pos h]
  | n + 1, hg => by
    rw [← Nat.add_assoc, cntP_s, cntP_run h n (fun j h1 h2 => hg j h1 (by omega)), hg (s + 1 + n) (by omega) (by omega), if_neg (by decide)]
theorem cntP_ex {zs : List Int32} : ∀ n i, i < cntP zs n → ∃ s, s < n ∧ stP zs s = true ∧ cntP zs s = i
  | 0, i, h => absurd h (Nat.not_lt_zero _)
  | n + 1, i, h => by
    rw [cntP_s] at h
    by_cases c : i < cntP zs n
    · obtain ⟨s, h1, h2⟩ := cntP_ex n i c
      exact ⟨s, by omega, h2⟩
    · by_cases c2 : stP zs n = true
      · rw [if_pos c2] at h
        exact ⟨n, Nat.lt_succ_self _, c2, by omega⟩
      · rw [if_neg c2] at h; omega
def pcE (zs : List Int32) (s e n : Nat) : Prop := s < e ∧ e ≤ n ∧ (∀ j, s < j → j < e → stP zs j = false) ∧ (e = n ∨ stP zs e = true)
section
variable {Λ : yL} {f0 : xH} {S S' S1 : yS} {m d s t u f g : Nat} {J F : Nat → Prop} {v w : Sv} {vs : List Sv} {zs : List Int32} {bs cs : List Nat} {B : Ab} {x y a b c e z : Int32} {post : Option Value → xH → Prop}
theorem Mo_bytesOf_sp (hp : post (some (.int (byO x))) (yH Λ f0 S)) : xSp xT0 (d + 1) j_Mo_bytesOf [.int x] (yH Λ f0 S) post := by
  unfold byO at hp
  refine xSp_of (M := m_Mo_bytesOf) rfl (b_Mo_bytesOf_0 ⟨fun q => ?_, fun q => ?_⟩)
  · rw [if_pos q] at hp; exact hp
  · rw [if_neg q] at hp; exact hp
theorem Mo_pieces_sp (hL : mLay Λ m) {r j n p : Nat} (hr : yn Λ r 11 j m 0 n) (hj : j ≠ 29 ∧ j ≠ 30) (hz : rz (yA S 11 j m) p zs) (hzl : zs.length ≤ 48) (hb : p + zs.length ≤ n) (hn : n < 2 ^ 30) (hp : ∀ S', zX m (fun j => j = 29 ∨ j = 30) S S' → (∀ s, s < zs.length → stP zs s = true → x = nI (cntP zs s) → yI S' 11 29 m = nI s ∧ ∃ e, yI S' 11 30 m = nI e ∧ pcE zs s e zs.length) → post (some (.int (nI (cntP zs zs.length)))) (yH Λ f0 S')) : xSp xT0 (d + 1) j_Mo_pieces [.ref m, .ref r, .int (nI p), .int (nI zs.length), .int x] (yH Λ f0 S) post := by
  have ho := hL.2.1
  have hlo : ∀ k, k ≤ zs.length → (∀ S1 (u7 u8 u9 : Option Value), zX m (fun j => j = 29 ∨ j = 30) S S1 → (∀ s, s < k → stP zs s = true → x = nI (cntP zs s) → yI S1 11 29 m = nI s ∧ ∃ e, yI S1 11 30 m = nI e ∧ pcE zs s e k) → xWp (xT0, xSp xT0 d, none, m_Mo_pieces, post) 16 [some (.ref m), some (.ref r), some (.int (nI p)), some (.int (nI zs.length)), some (.int x), some (.int (nI (cntP zs k))), some (.int (nI k)), u7, u8, u9] [] (yH Λ f0 S1) 0 0) := by
    refine loopUp ?_ ?_
    · intro S1 u7 u8 u9 k1 hs
      exact b_Mo_pieces_16 (brle (by omega) (by omega) (fun _ => hp S1 k1 hs) (fun z => by omega))
    · intro k hk ih S1 u7 u8 u9 k1 hs
      have hck := cntP_le zs k
      have hz1 : ∀ i, i < zs.length → yA S1 11 j m (p + i) = zs.getD i 0 := fun i hi => by rw [(mX k1 (fun z => z.elim hj.1 hj.2)).2]; exact hz i hi
      have h118 : ∀ S2 (x9 : Int32) (x8 : Int32), zX m (fun j => j = 29 ∨ j = 30) S S2 → yI S2 11 30 m = yI S1 11 30 m → (stP zs k = true → x = nI (cntP zs k) → yI S2 11 29 m = nI k) → (¬ (stP zs k = true ∧ x = nI (cntP zs k)) → yI S2 11 29 m = yI S1 11 29 m) → xWp (xT0, xSp xT0 d, none, m_Mo_pieces, post) 118 [some (.ref m), some (.ref r), some (.int (nI p)), some (.int (nI zs.length)), some (.int x), some (.int (nI (cntP zs (k + 1)))), some (.int (nI k)), some (.int (zs.getD k 0)), some (.int x8), some (.int x9)] [] (yH Λ f0 S2) 0 0 := by
        intro S2 x9 x8 k2 e30 h29 h29'
        have hck1 := cntP_le zs (k + 1)
        have key : ∀ S3, zX m (fun j => j = 29 ∨ j = 30) S S3 → yI S3 11 29 m = yI S2 11 29 m → (nI (cntP zs (k + 1)) = x + 1 → yI S3 11 30 m = nI (k + 1)) → (¬ nI (cntP zs (k + 1)) = x + 1 → yI S3 11 30 m = yI S1 11 30 m) → ∀ s, s < k + 1 → stP zs s = true → x = nI (cntP zs s) → yI S3 11 29 m = nI s ∧ ∃ e, yI S3 11 30 m = nI e ∧ pcE zs s e (k + 1) := by
          intro S3 k3 e29 hy hn' s hsk hst hx
          have hcs := cntP_le zs s
          have hxi : nI (cntP zs (k + 1)) = x + 1 ↔ cntP zs (k + 1) = cntP zs s + 1 := by
            rw [hx, nI_1]
            exact nI_eq (by omega) (by omega)
          by_cases c1 : s = k
          · subst c1
            have e1 : cntP zs (s + 1) = cntP zs s + 1 := by rw [cntP_s, if_pos hst]
            exact ⟨e29.trans (h29 hst hx), s + 1, hy (hxi.mpr e1), by omega, Nat.le_refl _, fun j h1 h2 => by omega, Or.inl rfl⟩
          · obtain ⟨f29, e, f30, p1, p2, p3, p4⟩ := hs s (by omega) hst hx
            have hno : ¬ (stP zs k = true ∧ x = nI (cntP zs k)) := fun z => by
              have h1 := cntP_lt hst (show s < k by omega)
              have := (nI_eq (by omega) (by omega)).mp (hx.symm.trans z.2)
              omega
            refine ⟨e29.trans ((h29' hno).trans f29), ?_⟩
            have hrun : cntP zs e = cntP zs s + 1 := by
              have := cntP_run hst (e - (s + 1)) (fun j h1 h2 => p3 j h1 (by omega))
              rw [show s + 1 + (e - (s + 1)) = e by omega] at this
              exact this
            by_cases c2 : stP zs e = true
            · have h1 : cntP zs (e + 1) = cntP zs s + 2 := by rw [cntP_s, if_pos c2, hrun]
              have h2 := cntP_mono zs (show e + 1 ≤ k + 1 by omega)
              exact ⟨e, (hn' (fun z => by have := hxi.mp z; omega)).trans f30, p1, by omega, p3, Or.inr c2⟩
            · have ek : e = k := p4.resolve_right c2
              have h1 : cntP zs (k + 1) = cntP zs s + 1 := by rw [cntP_s, ← ek, if_neg c2, hrun]
              refine ⟨k + 1, hy (hxi.mpr h1), by omega, Nat.le_refl _, fun j q1 q2 => ?_, Or.inl rfl⟩
              by_cases c3 : j = k
              · rw [c3, ← ek]; exact Bool.eq_false_iff.mpr c2
              · exact p3 j q1 (by omega)
        refine b_Mo_pieces_118 ⟨fun c1 => ygi ho rfl (ypf ho rfl ?_), fun c1 => ypf ho rfl ?_⟩
        · rw [nI_1]
          have k3 : zX m (fun j => j = 29 ∨ j = 30) S (ywI S2 11 30 m (yI S2 11 30 m)) := zX_tr k2 (zX_wI (Or.inr rfl))
          exact ih _ _ _ _ k3 (key _ k3 (ywI_ne _ _ (by omega)) (fun z => absurd z c1) (fun _ => by rw [ywI_s]; exact e30))
        · rw [nI_1]
          have k3 : zX m (fun j => j = 29 ∨ j = 30) S (ywI S2 11 30 m (nI (k + 1))) := zX_tr k2 (zX_wI (Or.inr rfl))
          exact ih _ _ _ _ k3 (key _ k3 (ywI_ne _ _ (by omega)) (fun _ => ywI_s _ _ _ _ _) (fun z => absurd (Classical.not_not.mp c1) z))
      have h86 : ∀ (b : Bool) (x8 : Int32) (u9 : Option Value), stP zs k = !b → xWp (xT0, xSp xT0 d, none, m_Mo_pieces, post) 86 [some (.ref m), some (.ref r), some (.int (nI p)), some (.int (nI zs.length)), some (.int x), some (.int (nI (cntP zs k))), some (.int (nI k)), some (.int (zs.getD k 0)), some (.int x8), u9] [.int (bI b)] (yH Λ f0 S1) 0 0 := by
        intro b x8 u9 hb
        refine b_Mo_pieces_86 (brBn (fun e1 => ?_) (fun e1 => ⟨fun c1 => ygi ho rfl (ypf ho rfl ?_), fun c1 => ypf ho rfl ?_⟩))
        · rw [e1] at hb
          have hb : stP zs k = false := hb
          have ec : cntP zs (k + 1) = cntP zs k := by rw [cntP_s, hb, if_neg (by decide)]; rfl
          have := h118 S1 (bI b) x8 k1 rfl (fun z => by rw [hb] at z; cases z) (fun _ => rfl)
          rw [ec] at this
          exact this
        · rw [e1] at hb
          have hb : stP zs k = true := hb
          have ec : cntP zs (k + 1) = cntP zs k + 1 := by rw [cntP_s, if_pos hb]
          rw [nI_1] at c1 ⊢
          have c1' : ¬ x = nI (cntP zs k) := fun z => c1 (by rw [z, nI_1])
          have k2 : zX m (fun j => j = 29 ∨ j = 30) S (ywI S1 11 29 m (yI S1 11 29 m)) := zX_tr k1 (zX_wI (Or.inl rfl))
          have := h118 _ (bI b) x8 k2 (ywI_ne _ _ (by omega)) (fun _ z => absurd z c1') (fun _ => by rw [ywI_s])
          rw [ec] at this
          exact this
        · rw [e1] at hb
          have hb : stP zs k = true := hb
          have ec : cntP zs (k + 1) = cntP zs k + 1 := by rw [cntP_s, if_pos hb]
          rw [nI_1] at c1 ⊢
          have c1' : x = nI (cntP zs k) := by
            have h1 := Classical.not_not.mp c1
            rw [← nI_1] at h1
            exact ((Int32.add_left_inj 1).mp h1).symm
          have k2 : zX m (fun j => j = 29 ∨ j = 30) S (ywI S1 11 29 m (nI k)) := zX_tr k1 (zX_wI (Or.inl rfl))
          have := h118 _ (bI b) x8 k2 (ywI_ne _ _ (by omega)) (fun _ _ => ywI_s _ _ _ _ _) (fun z => absurd ⟨hb, c1'⟩ z)
          rw [ec] at this
          exact this
      refine b_Mo_pieces_16 (brle (by omega) (by omega) (fun z => by omega) (fun _ => ?_))
      rw [nI_add]
      refine yal hr (vp_in_nI (by omega) (by omega)) ?_
      rw [nI_clamp (by omega), hz1 k hk]
      refine brle (b := 0) (by omega) (by omega) (fun c0 => b_Mo_pieces_47 (brle (b := 0) (by omega) (by omega) (fun _ => h86 false _ _ ?_) (fun z => by omega))) (fun c0 => ?_)
      · unfold stP; rw [if_pos (show k = 0 by omega)]; rfl
      · have e1 : nI (p + k) - 1 = nI (p + (k - 1)) := by
          have := nI_pred (p + (k - 1))
          rw [show p + (k - 1) + 1 = p + k by omega] at this
          exact this
        rw [e1]
        refine yal hr (vp_in_nI (by omega) (by omega)) ?_
        rw [nI_clamp (by omega), hz1 (k - 1) (by omega)]
        have hst : stP zs k = if zs.getD k 0 < 0 ∨ zs.getD (k - 1) 0 < 0 then decide (0 ≤ zs.getD k 0 ∨ 0 ≤ zs.getD (k - 1) 0) else decide (¬ zs.getD k 0 = zs.getD (k - 1) 0 + 1) := by
          unfold stP
          rw [if_neg (show ¬ k = 0 by omega)]
        refine b_Mo_pieces_47 (brle (b := 0) (by omega) (by omega) (fun z => by omega) (fun _ => ⟨fun c1 => ⟨fun c2 => h86 false _ _ ?_, fun c2 => ⟨fun c3 => h86 false _ _ ?_, fun c3 => h86 true _ _ ?_⟩⟩, fun c1 => ⟨fun c2 => h86 false _ _ ?_, fun c2 => h86 true _ _ ?_⟩⟩))
        · rw [hst, if_pos (Or.inr c2), decide_eq_true (Or.inl c1)]; rfl
        · rw [hst, if_neg (fun z => z.elim (fun z => nle0.mpr c1 z) c2), decide_eq_true c3]; rfl
        · rw [hst, if_neg (fun z => z.elim (fun z => nle0.mpr c1 z) c2), decide_eq_false c3]; rfl
        · have c1' : zs.getD k 0 < 0 := Classical.byContradiction (fun z => c1 (nle0.mp z))
          rw [hst, if_pos (Or.inl c1'), decide_eq_true (Or.inr c2)]; rfl
        · have c1' : zs.getD k 0 < 0 := Classical.byContradiction (fun z => c1 (nle0.mp z))
          rw [hst, if_pos (Or.inl c1'), decide_eq_false (fun z => z.elim c1 c2)]; rfl
  refine xSp_of (M := m_Mo_pieces) rfl (b_Mo_pieces_0 (ypf ho rfl (ypf ho rfl ?_)))
  exact hlo 0 (Nat.zero_le _) _ none none none (zX_tr (zX_wI (Or.inl rfl)) (zX_wI (Or.inr rfl))) (fun s hs => absurd hs (Nat.not_lt_zero _))
end
