/-! 79 Disk: a TREE written, read -/
def updN (ch : Nat → Nat) (i s : Nat) : Nat → Nat := fun k => if k = i then s else ch k
abbrev Wr : Type := Dv × (Nat → Nat) × Bool
def wrI (D : Dv) (ch : Nat → Nat) (i : Nat) (f : Fl) : Wr := match hdS D f.1 f.2 with
  | some s => (D, updN ch i s, true)
  | none => match spD D with
    | none => (dnD D, ch, false)
    | some D1 => (slD D1 (fre (dL D) ch i) f.2, updN ch i (fre (dL D) ch i), true)
def wrL (fs : List Fl) (D : Dv) : Nat → Wr
  | 0 => (D, fun _ => 0, true)
  | n + 1 => if (wrL fs D n).2.2 = true then wrI (wrL fs D n).1 (wrL fs D n).2.1 n (fs.getD n fl0) else wrL fs D n
theorem wrL_s (fs : List Fl) (D : Dv) (n : Nat) : wrL fs D (n + 1) = if (wrL fs D n).2.2 = true then wrI (wrL fs D n).1 (wrL fs D n).2.1 n (fs.getD n fl0) else wrL fs D n := rfl
def liD (D : Dv) (i : Nat) (L : List Le) : Dv := (D.1, fun z => if z = i then L else D.2.1 z, D.2.2)
def ctD (D : Dv) (c : Nat) : Dv := (D.1, D.2.1, c, D.2.2.2)
/-- install, once it is not down -/
def wrE (fs : List Fl) (W : Int32) (r : Wr) : Dv × Int32 := match spD r.1 with
  | none => (dnD r.1, -4)
  | some D1 => match spD (liD D1 (1 - D1.2.2.1) (mkL fs r.2.1)) with
    | none => (dnD (liD D1 (1 - D1.2.2.1) (mkL fs r.2.1)), -4)
    | some D3 => (ctD D3 (1 - D3.2.2.1), D3.2.2.2.2.1 - W)
def wrA (fs : List Fl) (D : Dv) : Dv × Int32 := if D.2.2.2.2.2 = true then (D, -4) else if (wrL fs D fs.length).2.2 = true then wrE fs D.2.2.2.2.1 (wrL fs D fs.length) else ((wrL fs D fs.length).1, -4)
def rdN (D : Dv) (n : Nat) : List Fl := (List.range n).foldl (fun gs i => (tkT gs (((dL D).getD i le0).1, (D.1 ((dL D).getD i le0).2).getD [])).getD gs) []
def rdT (D : Dv) : List Fl := rdN D (dL D).length
def rdD (D : Dv) : Dv := (D.1, D.2.1, D.2.2.1, -1, D.2.2.2.2.1, false)
/-- a SLOT is free -/
theorem cntB_or (G : Nat → Bool) (a : Nat) : ∀ n, cntB (fun s => G s || decide (s = a)) n ≤ cntB G n + (if a < n then 1 else 0)
  | 0 => by show 0 ≤ _; omega
  | n + 1 => by
    have ih := cntB_or G a n
    rw [cntB_s, cntB_s]
    by_cases e : n = a
    · subst e
      rw [if_neg (Nat.lt_irrefl _)] at ih
      rw [if_pos (Nat.lt_succ_self _)]
      split <;> split <;> omega
    · have e1 : (G n || decide (n = a)) = G n := by rw [decide_eq_false e, Bool.or_false]
      rw [e1]
      by_cases h : a < n
      · rw [if_pos h] at ih
        rw [if_pos (show a < n + 1 by omega)]
        omega
      · rw [if_neg h] at ih
        rw [if_neg (show ¬ a < n + 1 by omega)]
        omega
theorem cntB_mono {G H : Nat → Bool} (h : ∀ s, G s = true → H s = true) : ∀ n, cntB G n ≤ cntB H n
  | 0 => Nat.le_refl _
  | n + 1 => by
    have ih := cntB_mono h n
    rw [cntB_s, cntB_s]
    by_cases c : G n = true
    · rw [if_pos c, if_pos (h n c)]; omega
    · rw [if_neg c]; split <;> omega
theorem cntB_fst (f : Nat → Nat) (n : Nat) : ∀ m, cntB (fun s => decide (fstI (fun i => decide (f i = s)) m < m)) n ≤ m
  | 0 => by
    have : ∀ n, cntB (fun s => decide (fstI (fun i => decide (f i = s)) 0 < 0)) n = 0 := by
      intro n
      induction n with
      | zero => rfl
      | succ n ih => rw [cntB_s, ih]; rfl
    rw [this]
    exact Nat.le_refl _
  | m + 1 => by
    have ih := cntB_fst f n m
    refine Nat.le_trans (cntB_mono (H := fun s => decide (fstI (fun i => decide (f i = s)) m < m) || decide (s = f m)) (fun s hs => ?_) n) (Nat.le_trans (cntB_or _ (f m) n) (by split <;> omega))
    have hs := of_decide_eq_true hs
    rw [fstI_s] at hs
    by_cases c : fstI (fun i => decide (f i = s)) m < m
    · rw [decide_eq_true c]; rfl
    · rw [if_neg c] at hs
      by_cases c2 : decide (f m = s) = true
      · rw [decide_eq_true (of_decide_eq_true c2).symm, Bool.or_true]
      · rw [if_neg c2] at hs; omega
theorem cntB_all {G : Nat → Bool} : ∀ n, (∀ s, s < n → G s = true) → cntB G n = n
  | 0, _ => rfl
  | n + 1, h => by rw [cntB_s, cntB_all n (fun s hs => h s (by omega)), if_pos (h n (Nat.lt_succ_self _))]
theorem cntB_or2 (G H : Nat → Bool) : ∀ n, cntB (fun s => G s || H s) n ≤ cntB G n + cntB H n
  | 0 => Nat.le_refl _
  | n + 1 => by
    have ih := cntB_or2 G H n
    rw [cntB_s, cntB_s, cntB_s]
    cases G n <;> cases H n <;> simp <;> omega
theorem fre_lt {L : List Le} {ch : Nat → Nat} {n : Nat} (hL : L.length ≤ 10) (hn : n ≤ 10) : fre L ch n < 30 := by
  have hle : fre L ch n ≤ 30 := fstI_le _ _
  rcases Nat.lt_or_ge (fre L ch n) 30 with h | h
  · exact h
  · exfalso
    have e : fre L ch n = 30 := by omega
    have hall : ∀ s, s < 30 → (usL L s || chO ch n s) = true := fun s hs => by
      have := fstI_f (p := fun s => !(usL L s || chO ch n s)) (n := 30) (i := s) (by show s < fre L ch n; omega)
      cases hz : (usL L s || chO ch n s)
      · rw [hz] at this; exact absurd this (by decide)
      · rfl
    have h1 := cntB_all 30 hall
    have h2 := cntB_or2 (usL L) (chO ch n) 30
    have h3 : cntB (usL L) 30 ≤ L.length := cntB_fst (fun i => (L.getD i le0).2) 30 L.length
    have h4 : cntB (chO ch n) 30 ≤ n := cntB_fst ch 30 n
    omega
section
variable {Λ : yL} {f0 : xH} {S0 S S' : yS} {l t u k o q cap capq d r : Nat} {C Lx : Nat → Nat} {PL : Nat → Nat → Nat} {D D' : Dv} {L : List Le} {fs gs : List Fl} {bs cs : List Nat} {ch : Nat → Nat} {x y : Int32} {A : Nat → Nat → Prop} {post : Option Value → xH → Prop}
theorem A10_AK : ∀ c a, A10 k c a → AK Λ k c a := fun _ _ z => Or.inl z.2
theorem Dk_writeSlot_sp (hW : yW Λ) (h : yKv Λ S k C Lx PL D) {s : Nat} (hs : s < 30) (hQ : yB Λ q capq) (hw : yBv S q capq cs) (hcs : cs.length ≤ 48) (hq : own Λ q ≠ k) (h1 : ∀ S' D', spD D = some D' → yFr (AK Λ k) S S' → yA S' 10 3 k = yA S 10 3 k → yKv Λ S' k C Lx PL (slD D' s cs) → post (some (.int 1)) (yH Λ f0 S')) (h0 : spD D = none → ∀ S', yFr (AK Λ k) S S' → yKv Λ S' k C Lx PL (dnD D) → post (some (.int 0)) (yH Λ f0 S')) : xSp xT0 (d + 2) j_Dk_writeSlot [.ref k, .int (nI s), .ref q] (yH Λ f0 S) post := by
  have ho := h.1.1.1
  refine xSp_of (M := m_Dk_writeSlot) rfl (b_Dk_writeSlot_0 ⟨yex ho, Dk_spendWriting_sp h (fun S1 D1 e1 k1 e3 hv1 => xviI ⟨fun _ => ⟨yex ho, Dk_isSlot_sp (fun s' _ _ => xviI ⟨fun z => absurd z (by decide), fun _ => ?_⟩) (fun z => ?_)⟩, fun z => absurd (by decide) z⟩) (fun e S1 k1 hv1 => xviI ⟨fun z => absurd rfl z, fun _ => h0 e S1 (yFr_mo k1 A10_AK) hv1⟩)⟩)
  · have hc := hv1.1.2.1 s hs
    refine ygr ho rfl (yrl (C s) hv1.1.1.2.1 (vp_in_nI hs (by omega)) (by rw [nI_clamp (by omega)]; exact hc.1) ⟨yex hc.2.1.1, By_copyOf_sp hW hc.2.1 hQ (fun e => hq (by rw [e]; exact hc.2.2)) (yFr_Bv k1 (fun z => absurd z.1 (by decide)) hw) hcs (fun g hg => xvvI (ygr ho rfl (yas hv1.1.1.2.2.1 (yW_n hW hv1.1.1.2.2.1) (vp_in_nI hs (by omega)) ?_)))⟩)
    rw [nI_clamp (by omega)]
    have k2 : yFr (fun c a => (c = 1 ∧ a = C s) ∨ (c = 10 ∧ a = k)) S1 (ywA (yBw S1 (C s) g (nI cs.length)) 10 1 k (upd (yA (yBw S1 (C s) g (nI cs.length)) 10 1 k) s 1)) := yFr_tr (yFr_Bw (Or.inl ⟨rfl, rfl⟩)) (yFr_wA (Or.inr ⟨rfl, rfl⟩))
    refine h1 _ D1 e1 (yFr_tr (yFr_mo k1 A10_AK) (yFr_mo k2 (fun c a z => ?_))) ?_ ?_
    · rcases z with z | z
      · exact Or.inr (Or.inl (by rw [z.2]; exact hc.2.2))
      · exact Or.inl z.2
    · rw [yA_n _ _ (by omega), yBw_A, if_neg (by omega)]
      exact e3
    · obtain ⟨⟨a1, a2, a3, a4, a5⟩, b, c, f⟩ := hv1
      refine ⟨⟨a1, a2, a3, a4, a5⟩, fun z hz => ?_, fun i hi => ?_, f⟩
      · rw [yA_s, yBw_A, if_neg (by omega)]
        show yBv _ (C z) 48 ((if z = s then some cs else D1.1 z).getD []) ∧ _ = bI (if z = s then some cs else D1.1 z).isSome
        by_cases e : z = s
        · rw [if_pos e, e, pk_us]
          exact ⟨hg, rfl⟩
        · rw [if_neg e, pk_un e]
          exact ⟨yBv_w (S := S1) (fun w => e (a3 z s hz hs w)) (b z hz).1, (b z hz).2⟩
      · refine yLv_fr k2 ?_ (fun b cap hB hb => ?_) (c i hi)
        · rintro (z | z)
          · exact absurd z.1 (by decide)
          · exact absurd z.1 (by decide)
        · rintro (z | z)
          · rw [z.2, hc.2.2] at hb
            exact yo_ne ho (a4 i hi).2.2 (by decide) hb
          · exact absurd z.1 (by decide)
  · rcases z with z | z
    · exact absurd z (nI_pos (by omega))
    · exact absurd ((leI (by omega) (by omega)).mp z) (by omega)
theorem Tv_AK (kk : yFr (AK Λ k) S S') (hk : yo Λ k 10) (tt : yTop Λ t) (h : yTv Λ S t fs) : yTv Λ S' t fs := by
  refine yFr_Tv kk ?_ (fun b cap hB hb => ?_) h
  · rintro (z | z | z)
    · exact yo_ne h.1.1 hk (by decide) z
    · exact yo_ne tt.1 hk (by decide) z
    · rw [tt.2] at z; exact yo_ne tt.1 hk (by decide) z
  · rintro (z | z | z)
    · exact yo_ne hB.1 hk (by decide) z
    · rw [hb] at z; exact yo_ne h.1.1 hk (by decide) z
    · rw [hb] at z; exact yo_ne tt.1 hk (by decide) z
theorem yKv_3 {g : Nat → Int32} (h : yKv Λ S k C Lx PL D) : yKv Λ (ywA S 10 3 k g) k C Lx PL D :=
  yKv_10 h (yFr_wA ⟨rfl, rfl⟩) (fun _ => rfl) (yA_n _ _ (by omega)) rfl rfl h.2.2.2
theorem spD_c {D D' : Dv} (e : spD D = some D') : D'.2.1 = D.2.1 ∧ D'.2.2.1 = D.2.2.1 ∧ D'.1 = D.1 := by
  unfold spD at e
  split at e
  · cases e
  · have := Option.some.inj e
    rw [← this]
    exact ⟨rfl, rfl, rfl⟩
theorem Al_AK {l : Nat} (hl : own Λ l = k) : ∀ c a, Al Λ l c a → AK Λ k c a := fun c a z => by
  rcases z with z | z
  · exact Or.inr (Or.inl (by rw [z]; exact hl))
  · exact Or.inr (Or.inr (by rw [z]; exact hl))
theorem Dk_write_sp (hW : yW Λ) (tk : yTop Λ k) (tt : yTop Λ t) (h : yKv Λ S k C Lx PL D) (hT : yTv Λ S t fs) (hp : ∀ S', yFr (AK Λ k) S S' → yKv Λ S' k C Lx PL (wrA fs D).1 → post (some (.int (wrA fs D).2)) (yH Λ f0 S')) : xSp xT0 (d + 5) j_Dk_write [.ref k, .ref t] (yH Λ f0 S) post := by
  have ho := h.1.1.1
  have hfl := Tv_le hT
  have hdk := h.1.1
  have hqk : ∀ {q}, own Λ q = t → own Λ q ≠ k := fun e => by rw [e]; exact yo_ne hT.1.1 ho (by decide)
  refine xSp_of (M := m_Dk_write) rfl (b_Dk_write_0 (ygi ho rfl ?_))
  rw [h.2.2.2.2.2.2.2]
  unfold wrA at hp
  refine brB (fun q0 => ygi ho rfl ?_) (fun q0 => ?_)
  · rw [h.2.2.2.2.2.2.1]
    rw [if_neg (by rw [q0]; decide)] at hp
    have hlo : ∀ n, n ≤ fs.length → (∀ S1, (wrL fs D n).2.2 = true → yFr (AK Λ k) S S1 → yKv Λ S1 k C Lx PL (wrL fs D n).1 → (∀ i, i < n → yA S1 10 3 k i = nI ((wrL fs D n).2.1 i) ∧ (wrL fs D n).2.1 i < 30) → xWp (xT0, xSp xT0 (d + 4), none, m_Dk_write, post) 17 [some (.ref k), some (.ref t), some (.int D.2.2.2.2.1), some (.int (nI n))] [] (yH Λ f0 S1) 0 0) := by
      refine loopUp ?_ ?_
      · intro S1 er k1 h1 hch
        have hT1 := Tv_AK k1 ho tt hT
        rw [if_pos er] at hp
        generalize wrL fs D fs.length = R at *
        unfold wrE at hp
        refine b_Dk_write_17 ⟨yex hT1.1.1, Tr_size_sp hT1 (xviI (brle (by omega) (by omega) (fun _ => ⟨yex ho, Dk_spendWriting_sp h1 (fun S2 D2 e2 k2 e3 h2 => xviI ⟨fun _ => ?_, fun z => absurd (by decide) z⟩) (fun e2 S2 k2 h2 => xviI ⟨fun z => absurd rfl z, fun _ => ?_⟩)⟩) (fun q => absurd q (by omega))))⟩
        · rw [e2] at hp
          have hc2 := h2.2.2.2.1
          have hcm : 1 - D2.2.2.1 < 2 := by omega
          have k2' := yFr_tr k1 (yFr_mo k2 A10_AK)
          have hT2 := Tv_AK k2' ho tt hT
          have hli := h2.1.2.2.2.1 _ hcm
          have hL2 := h2.2.2.1 _ hcm
          have em : (1 : Int32) - nI D2.2.2.1 = nI (1 - D2.2.2.1) := by
            rcases Nat.lt_or_ge D2.2.2.1 1 with z | z
            · rw [show D2.2.2.1 = 0 by omega]; decide
            · rw [show D2.2.2.1 = 1 by omega]; decide
          refine ygr ho rfl (ygi ho rfl ?_)
          rw [h2.2.2.2.2.1, em]
          refine yrl _ hdk.2.2.2.1 (vp_in_nI hcm (by omega)) (by rw [nI_clamp (by omega)]; exact hli.1) (ygr ho rfl ⟨yex hli.2.2, Li_becomeOf_sp hW hL2 tt hT2 ho tk hdk.2.2.2.2 (ch := R.2.1) (fun i hi => by rw [e3]; exact hch i hi) (fun S3 k3 hL3 => xvvI ⟨yex ho, ?_⟩)⟩)
          have h3 : yKv Λ S3 k C Lx PL (liD D2 (1 - D2.2.2.1) (mkL fs R.2.1)) := by
            obtain ⟨⟨a1, a2, a3, a4, a5⟩, b, c, f⟩ := h2
            have nk : ¬ Al Λ (Lx (1 - D2.2.2.1)) 10 k := by
              rintro (z | z)
              · exact yo_ne ho hli.2.2 (by decide) z
              · exact yo_ne tk.1 hli.2.2 (by decide) z
            refine ⟨⟨a1, fun s hs => ⟨?_, (a2 s hs).2⟩, a3, fun i hi => ⟨?_, (a4 i hi).2⟩, a5⟩, fun s hs => ⟨?_, ?_⟩, fun i hi => ?_, ?_⟩
            · rw [(k3 10 0 k nk).2.2]; exact (a2 s hs).1
            · rw [(k3 10 2 k nk).2.2]; exact (a4 i hi).1
            · refine yFr_Bv k3 ?_ (b s hs).1
              rintro (z | z)
              · exact yo_ne (a2 s hs).2.1.1 hli.2.2 (by decide) z
              · rw [(a2 s hs).2.2] at z; exact yo_ne ho hli.2.2 (by decide) z
            · rw [(k3 10 1 k nk).2.1]; exact (b s hs).2
            · show yLv Λ S3 (Lx i) (PL i) (if i = 1 - D2.2.2.1 then mkL fs R.2.1 else D2.2.1 i)
              by_cases z : i = 1 - D2.2.2.1
              · rw [if_pos z, z]; exact hL3
              · rw [if_neg z]
                have hne : Lx i ≠ Lx (1 - D2.2.2.1) := by
                  rcases Nat.lt_or_ge i 1 with w | w
                  · rw [show i = 0 by omega] at z ⊢
                    rw [show 1 - D2.2.2.1 = 1 by omega]
                    exact a5
                  · rw [show i = 1 by omega] at z ⊢
                    rw [show 1 - D2.2.2.1 = 0 by omega]
                    exact fun e => a5 e.symm
                refine yLv_fr k3 ?_ (fun b cap hB hb => ?_) (c i hi)
                · rintro (z | z)
                  · exact hne z
                  · rw [(a4 i hi).2.1] at z; exact yo_ne ho hli.2.2 (by decide) z
                · rintro (z | z)
                  · exact yo_ne hB.1 hli.2.2 (by decide) z
                  · exact hne (hb.symm.trans z)
            · refine ⟨f.1, ?_, ?_, ?_, ?_⟩
              · rw [(k3 10 4 k nk).1]; exact f.2.1
              · rw [(k3 10 5 k nk).1]; exact f.2.2.1
              · rw [(k3 10 6 k nk).1]; exact f.2.2.2.1
              · rw [(k3 10 7 k nk).1]; exact f.2.2.2.2
          have k3' := yFr_tr k2' (yFr_mo k3 (Al_AK hli.2.1))
          refine Dk_spendWriting_sp h3 (fun S4 D4 e4 k4 _ h4 => xviI ⟨fun _ => ?_, fun z => absurd (by decide) z⟩) (fun e4 S4 k4 h4 => xviI ⟨fun z => absurd rfl z, fun _ => ?_⟩)
          · dsimp only at hp
            rw [e4] at hp
            refine ygi ho rfl (ypf ho rfl (ygi ho rfl ?_))
            have hc4 := h4.2.2.2.1
            have em4 : (1 : Int32) - nI D4.2.2.1 = nI (1 - D4.2.2.1) := by
              rcases Nat.lt_or_ge D4.2.2.1 1 with z | z
              · rw [show D4.2.2.1 = 0 by omega]; decide
              · rw [show D4.2.2.1 = 1 by omega]; decide
            obtain ⟨f1, f2, f3, f4, f5⟩ := h4.2.2.2
            rw [f2, em4, ywI_ne _ _ (by omega), f4]
            refine hp _ (yFr_tr (yFr_tr k3' (yFr_mo k4 A10_AK)) (yFr_wI (Or.inl rfl))) ?_
            refine yKv_10 h4 (yFr_wI ⟨rfl, rfl⟩) (fun _ => rfl) rfl rfl rfl ⟨by show 1 - D4.2.2.1 < 2; omega, ywI_s _ _ _ _ _, ?_, ?_, ?_⟩
            · rw [ywI_ne _ _ (by omega)]; exact f3
            · rw [ywI_ne _ _ (by omega)]; exact f4
            · rw [ywI_ne _ _ (by omega)]; exact f5
          · dsimp only at hp
            rw [e4] at hp
            exact hp S4 (yFr_tr k3' (yFr_mo k4 A10_AK)) h4
        · rw [e2] at hp
          exact hp S2 (yFr_tr k1 (yFr_mo k2 A10_AK)) h2
      · intro n hn ih S1 er k1 h1 hch
        have hT1 := Tv_AK k1 ho tt hT
        have hes := wrL_s fs D n
        rw [if_pos er] at hes
        have hfail : (wrL fs D (n + 1)).2.2 = false → wrL fs D fs.length = wrL fs D (n + 1) := by
          intro z
          have : ∀ m, n + 1 + m ≤ fs.length → wrL fs D (n + 1 + m) = wrL fs D (n + 1) := by
            intro m
            induction m with
            | zero => intro _; rfl
            | succ m ihm =>
              intro hm
              rw [← Nat.add_assoc, wrL_s, ihm (by omega), if_neg (by rw [z]; decide)]
          have := this (fs.length - (n + 1)) (by omega)
          rw [show n + 1 + (fs.length - (n + 1)) = fs.length by omega] at this
          exact this
        refine b_Dk_write_17 ⟨yex hT1.1.1, Tr_size_sp hT1 (xviI (brle (by omega) (by omega) (fun q => absurd q (by omega)) (fun _ => ygr ho rfl ⟨yex hT1.1.1, Tr_pAt hT1 hn (fun q1 B1 v1 o1 => xvrI ⟨yex hT1.1.1, Tr_cAt hT1 (Or.inl ⟨n, hn, rfl, rfl⟩) (fun q2 c2 B2 v2 o2 l2 => xvrI ⟨yex ho, Dk_slotHolding_sp h1 B1 v1 B2 v2 (xviI (yas hdk.2.2.2.2 (yW_n hW hdk.2.2.2.2) (vp_in_nI (by omega) (by omega)) (ygr ho rfl (yal hdk.2.2.2.2 (vp_in_nI (by omega) (by omega)) ?_))))⟩)⟩)⟩)))⟩
        rw [nI_clamp (by omega), yA_s, pk_us, nI_1]
        unfold wrI at hes
        generalize hR : wrL fs D n = R at *
        have hLl : (dL R.1).length ≤ 10 := (yKv_c h1).2.2.2.2.1
        have h2 : yKv Λ (ywA S1 10 3 k (upd (yA S1 10 3 k) n (oI (hdS R.1 (fs.getD n fl0).1 (fs.getD n fl0).2)))) k C Lx PL R.1 := yKv_3 h1
        have k2 : yFr (AK Λ k) S (ywA S1 10 3 k (upd (yA S1 10 3 k) n (oI (hdS R.1 (fs.getD n fl0).1 (fs.getD n fl0).2)))) := yFr_tr k1 (yFr_wA (Or.inl rfl))
        cases hh : hdS R.1 (fs.getD n fl0).1 (fs.getD n fl0).2 with
        | some s =>
          rw [hh] at hes h2 k2
          have hes : wrL fs D (n + 1) = (R.1, updN R.2.1 n s, true) := hes
          rw [hes] at ih
          have hs30 : s < 30 := by
            unfold hdS at hh
            split at hh
            · cases hh
            · next s' es' =>
              split at hh
              · have := Option.some.inj hh
                rw [← this]
                exact slO_lt (yKv_c h1).2.2.2 es'
              · cases hh
          refine ⟨fun _ => ih _ rfl k2 h2 (fun i hi => ?_), fun z => absurd (fun w => nI_pos (n := s) (by omega) (by rw [show nI s = (-1) from w]; decide)) z⟩
          rw [yA_s]
          show _ = nI (if i = n then s else R.2.1 i) ∧ (if i = n then s else R.2.1 i) < 30
          by_cases z : i = n
          · rw [if_pos z, z, pk_us]
            exact ⟨rfl, hs30⟩
          · rw [if_neg z, pk_un z]
            exact hch i (by omega)
        | none =>
          rw [hh] at hes h2 k2
          have hfr : fre (dL R.1) R.2.1 n < 30 := fre_lt hLl (by omega)
          have hch2 : ∀ i, i < n → yA (ywA S1 10 3 k (upd (yA S1 10 3 k) n (oI none))) 10 3 k i = nI (R.2.1 i) ∧ R.2.1 i < 30 := fun i hi => by
            rw [yA_s, pk_un (by omega)]
            exact hch i hi
          refine ⟨fun z => absurd rfl z, fun _ => ygr ho rfl ⟨yex ho, Dk_leastFree_sp h2 (by omega) hch2 (xviI (yas hdk.2.2.2.2 (yW_n hW hdk.2.2.2.2) (vp_in_nI (by omega) (by omega)) (ygr ho rfl (yal hdk.2.2.2.2 (vp_in_nI (by omega) (by omega)) ⟨yex hT1.1.1, ?_⟩))))⟩⟩
          have hS3 : ∀ (Z : yS) (g0 : Nat → Int32) (v : Int32), yA (ywA Z 10 3 k (upd g0 n v)) 10 3 k n = v := fun Z g0 v => by rw [yA_s, pk_us]
          rw [nI_clamp (by omega), hS3]
          have k3 := yFr_tr k2 (yFr_wA (S := ywA S1 10 3 k (upd (yA S1 10 3 k) n (oI none))) (c := 10) (j := 3) (a := k) (g := upd (yA (ywA S1 10 3 k (upd (yA S1 10 3 k) n (oI none))) 10 3 k) n (nI (fre (dL R.1) R.2.1 n))) (Or.inl rfl))
          have h3 := yKv_3 (g := upd (yA (ywA S1 10 3 k (upd (yA S1 10 3 k) n (oI none))) 10 3 k) n (nI (fre (dL R.1) R.2.1 n))) h2
          have hT3 := Tv_AK k3 ho tt hT
          refine Tr_cAt hT3 (Or.inl ⟨n, hn, rfl, rfl⟩) (fun q3 c3 B3 v3 o3 l3 => xvrI ⟨yex ho, ?_⟩)
          refine Dk_writeSlot_sp hW h3 hfr B3 v3 l3 (hqk o3) (fun S4 D4 e4 k4 e3 h4 => xviI ⟨fun _ => ?_, fun z => absurd (by decide) z⟩) (fun e4 S4 k4 h4 => xviI ⟨fun z => absurd rfl z, fun _ => ?_⟩)
          · dsimp only at hes
            rw [e4] at hes
            have hes : wrL fs D (n + 1) = (slD D4 (fre (dL R.1) R.2.1 n) (fs.getD n fl0).2, updN R.2.1 n (fre (dL R.1) R.2.1 n), true) := hes
            rw [hes] at ih
            refine ih S4 rfl (yFr_tr k3 k4) h4 (fun i hi => ?_)
            rw [e3, yA_s]
            show _ = nI (if i = n then fre (dL R.1) R.2.1 n else R.2.1 i) ∧ (if i = n then fre (dL R.1) R.2.1 n else R.2.1 i) < 30
            by_cases z : i = n
            · rw [if_pos z, z, pk_us]
              exact ⟨rfl, hfr⟩
            · rw [if_neg z, pk_un z]
              exact hch2 i (by omega)
          · dsimp only at hes
            rw [e4] at hes
            have hes : wrL fs D (n + 1) = (dnD R.1, R.2.1, false) := hes
            have hz : (wrL fs D (n + 1)).2.2 = false := by rw [hes]
            have hf := hfail hz
            rw [hes] at hf
            rw [hf, if_neg (show ¬ false = true by decide)] at hp
            exact hp S4 (yFr_tr k3 k4) h4
    exact hlo 0 (Nat.zero_le _) S rfl yFr_rf h (fun i hi => absurd hi (Nat.not_lt_zero _))
  · rw [if_pos q0] at hp
    exact hp S yFr_rf h
theorem yKv_AT (kk : yFr (AT Λ u) S S') (hu : yo Λ u 2) (tk : yTop Λ k) (h : yKv Λ S k C Lx PL D) : yKv Λ S' k C Lx PL D := by
  have ho := h.1.1.1
  obtain ⟨⟨a1, a2, a3, a4, a5⟩, b, c, f⟩ := h
  have nk : ¬ AT Λ u 10 k := by
    rintro (z | z)
    · exact yo_ne ho hu (by decide) z
    · exact yo_ne tk.1 hu (by decide) z
  refine ⟨⟨a1, fun s hs => ⟨?_, (a2 s hs).2⟩, a3, fun i hi => ⟨?_, (a4 i hi).2⟩, a5⟩, fun s hs => ⟨?_, ?_⟩, fun i hi => ?_, ?_⟩
  · rw [(kk 10 0 k nk).2.2]; exact (a2 s hs).1
  · rw [(kk 10 2 k nk).2.2]; exact (a4 i hi).1
  · refine yFr_Bv kk ?_ (b s hs).1
    rintro (z | z)
    · exact yo_ne (a2 s hs).2.1.1 hu (by decide) z
    · rw [(a2 s hs).2.2] at z; exact yo_ne ho hu (by decide) z
  · rw [(kk 10 1 k nk).2.1]; exact (b s hs).2
  · refine yLv_fr kk ?_ (fun b cap hB hb => ?_) (c i hi)
    · rintro (z | z)
      · exact yo_ne (a4 i hi).2.2 hu (by decide) z
      · rw [(a4 i hi).2.1] at z; exact yo_ne ho hu (by decide) z
    · rintro (z | z)
      · exact yo_ne hB.1 hu (by decide) z
      · rw [hb] at z; exact yo_ne (a4 i hi).2.2 hu (by decide) z
  · refine ⟨f.1, ?_, ?_, ?_, ?_⟩
    · rw [(kk 10 4 k nk).1]; exact f.2.1
    · rw [(kk 10 5 k nk).1]; exact f.2.2.1
    · rw [(kk 10 6 k nk).1]; exact f.2.2.2.1
    · rw [(kk 10 7 k nk).1]; exact f.2.2.2.2
abbrev AO (Λ : yL) (k u : Nat) : Nat → Nat → Prop := fun c a => A10 k c a ∨ AT Λ u c a
theorem Dk_read_sp (hW : yW Λ) (tk : yTop Λ k) (tu : yTop Λ u) (h : yKv Λ S k C Lx PL D) (hU : yTv Λ S u gs) (hp : ∀ S', yFr (AO Λ k u) S S' → yKv Λ S' k C Lx PL (rdD D) → yTv Λ S' u (rdT D) → post none (yH Λ f0 S')) : xSp xT0 (d + 5) j_Dk_read [.ref k, .ref u] (yH Λ f0 S) post := by
  have ho := h.1.1.1
  have hu := hU.1.1
  obtain ⟨hc, e4, e2, hL⟩ := yKv_c h
  have hll := hL.2.1
  refine xSp_of (M := m_Dk_read) rfl (b_Dk_read_0 (ygr ho rfl (ygi ho rfl ?_)))
  rw [e4]
  refine yrl _ h.1.1.2.2.2.1 (vp_in_nI hc (by omega)) (by rw [nI_clamp (by omega)]; exact e2) ⟨yex hu, Tr_empty_sp hU.1 (xvvI ?_)⟩
  have hlo : ∀ n, n ≤ (dL D).length → (∀ S1, yFr (AT Λ u) S S1 → yTv Λ S1 u (rdN D n) → xWp (xT0, xSp xT0 (d + 4), none, m_Dk_read, post) 16 [some (.ref k), some (.ref u), some (.ref (Lx D.2.2.1)), some (.int (nI n))] [] (yH Λ f0 S1) 0 0) := by
    refine loopUp ?_ ?_
    · intro S1 k1 hU1
      have h1 := yKv_AT k1 hu tk h
      have hL1 := (yKv_c h1).2.2.2
      refine b_Dk_read_16 ⟨yex hL1.1.1.1, Li_size_sp hL1 (xviI (brle (by omega) (by omega) (fun _ => ypf ho rfl (ypf ho rfl ?_)) (fun q => absurd q (by omega))))⟩
      have k2 : yFr (A10 k) S1 (ywI (ywI S1 10 5 k (-1)) 10 7 k 0) := yFr_tr (yFr_wI ⟨rfl, rfl⟩) (yFr_wI ⟨rfl, rfl⟩)
      obtain ⟨f1, f2, f3, f4, f5⟩ := h1.2.2.2
      refine hp _ (yFr_tr (yFr_mo k1 (fun _ _ z => Or.inr z)) (yFr_mo k2 (fun _ _ z => Or.inl z))) (yKv_10 h1 k2 (fun _ => rfl) rfl rfl rfl ⟨f1, ?_, ?_, ?_, ywI_s _ _ _ _ _⟩) (yFr_Tv k2 (fun z => absurd z.1 (by decide)) (fun _ _ _ _ z => absurd z.1 (by decide)) hU1)
      · rw [ywI_ne _ _ (by omega), ywI_ne _ _ (by omega)]; exact f2
      · rw [ywI_ne _ _ (by omega), ywI_s]; rfl
      · rw [ywI_ne _ _ (by omega), ywI_ne _ _ (by omega)]; exact f4
    · intro n hn ih S1 k1 hU1
      have h1 := yKv_AT k1 hu tk h
      have hL1 := (yKv_c h1).2.2.2
      have hs := hL1.1.1
      have hen := hL1.2.2.2 n hn
      have hpn := hL1.1.2.1 n (by omega)
      have hs30 := hen.2.2
      have hcs := h1.1.2.1 _ hs30
      have es : rdN D (n + 1) = (tkT (rdN D n) (((dL D).getD n le0).1, (D.1 ((dL D).getD n le0).2).getD [])).getD (rdN D n) := by unfold rdN; rw [rgF]
      rw [es] at ih
      refine b_Dk_read_16 ⟨yex hs.1, Li_size_sp hL1 (xviI (brle (by omega) (by omega) (fun q => absurd q (by omega)) (fun _ => ygr hs.1 rfl (yal hs.2.2 (vp_in_nI (by omega) (by omega)) ⟨yex ho, ?_⟩))))⟩
      rw [nI_clamp (by omega), hen.2.1]
      refine Dk_isSlot_sp (fun _ _ _ => xviI ⟨fun z => absurd z (by decide), fun _ => ygr hs.1 rfl (yrl _ hs.2.1 (vp_in_nI (by omega) (by omega)) (by rw [nI_clamp (by omega)]; exact hpn.1) (ygr ho rfl (ygr hs.1 rfl (yal hs.2.2 (vp_in_nI (by omega) (by omega)) ?_))))⟩) (fun z => ?_)
      · rw [nI_clamp (by omega), hen.2.1]
        refine yrl _ h1.1.1.2.1 (vp_in_nI hs30 (by omega)) (by rw [nI_clamp (by omega)]; exact hcs.1) ⟨yex hu, Tr_take2 hW hU1 hpn.2.1 hen.1 hen.1.1 ?_ hcs.2.1 (h1.2.1 _ hs30).1 (h1.2.1 _ hs30).1.1 ?_ (fun S3 gs3 e3 a1 a2 => xviI ?_) (fun e3 => xviI ?_)⟩
        · rw [hpn.2.2]; exact yo_ne hs.1 hu (by decide)
        · rw [hcs.2.2]; exact yo_ne ho hu (by decide)
        · rw [nI_1]
          rw [e3] at ih
          exact ih S3 (yFr_tr k1 (yFr_AT a1)) a2
        · rw [nI_1]
          rw [e3] at ih
          exact ih S1 k1 hU1
      · rcases z with z | z
        · exact absurd z (nI_pos (by omega))
        · exact absurd ((leI (by omega) (by omega)).mp z) (by omega)
  exact hlo 0 (Nat.zero_le _) _ (yFr_wI (Or.inl rfl)) (yTv_e hU)
end
