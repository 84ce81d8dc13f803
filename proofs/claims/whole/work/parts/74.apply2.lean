/-! 74 Applier: CONFLICTS, the TREE that is built -/
def yCf (S : yS) (g : Nat) (cl : List (Nat × Nat)) : Prop := cl.length ≤ 24 ∧ yI S 8 4 g = nI cl.length ∧ ∀ k, k < cl.length → yA S 8 1 g k = nI (cl.getD k (0, 0)).1 ∧ yA S 8 2 g k = nI (cl.getD k (0, 0)).2
abbrev A8 (g : Nat) : Nat → Nat → Prop := fun c a => c = 8 ∧ a = g
theorem clG {cl : List (Nat × Nat)} {q : Nat × Nat} {k : Nat} : (cl ++ [q]).getD k (0, 0) = if k < cl.length then cl.getD k (0, 0) else if k = cl.length then q else (0, 0) := by
  rw [List.getD_eq_getElem?_getD]
  by_cases h : k < cl.length
  · rw [if_pos h, List.getElem?_append_left h, ← List.getD_eq_getElem?_getD]
  · rw [if_neg h, List.getElem?_append_right (by omega)]
    by_cases e : k = cl.length
    · rw [if_pos e, e, Nat.sub_self]; rfl
    · rw [if_neg e, List.getElem?_eq_none (by simp; omega)]; rfl
/-- a FILE put into a TREE -/
def tkT (gs : List Fl) (f : Fl) : Option (List Fl) := if fnd gs f.1 < gs.length then some (gs.set (fnd gs f.1) f) else if barT gs f.1 = true then none else if gs.length = 10 then none else some (insL gs (insP f.1 gs gs.length) f)
abbrev AT (Λ : yL) (u : Nat) : Nat → Nat → Prop := fun _ a => a = u ∨ own Λ a = u
abbrev AR (Λ : yL) (g u : Nat) : Nat → Nat → Prop := fun _ a => a = g ∨ own Λ a = g ∨ a = u ∨ own Λ a = u
def bd1S (fs : List Fl) (vs : List Sv) (G : Nat → Bool) (gs : List Fl) (i : Nat) : List Fl := if takA vs G (fs.getD i fl0).1 = true then gs else (tkT gs (fs.getD i fl0)).getD gs
def bd1 (fs : List Fl) (vs : List Sv) (G : Nat → Bool) (n : Nat) : List Fl := (List.range n).foldl (bd1S fs vs G) []
def bd2S (fs : List Fl) (vs : List Sv) (G : Nat → Bool) (o : Option (List Fl)) (i : Nat) : Option (List Fl) := o.bind (fun gs => if G i = true ∧ ¬ (vs.getD i sv0).1 = 1 then tkT gs ((vs.getD i sv0).2.1, makeD (vs.getD i sv0).2.2.2.2.2.2.2.1 (cntA fs (vs.getD i sv0))) else some gs)
def bd2 (fs : List Fl) (vs : List Sv) (G : Nat → Bool) (n : Nat) : Option (List Fl) := (List.range n).foldl (bd2S fs vs G) (some (bd1 fs vs G fs.length))
section
variable {Λ : yL} {f0 : xH} {S0 S S' : yS} {t u p g n m o q cap capq d : Nat} {Q : Nat → Nat} {vs : List Sv} {fs gs : List Fl} {G : Nat → Bool} {bs cs : List Nat} {x y : Int32} {cl : List (Nat × Nat)} {post : Option Value → xH → Prop}
theorem Ap_keepConflict_sp (hW : yW Λ) (hA : yAp Λ g) (hc : yCf S g cl) (hlt : cl.length < 24) {i r : Nat} (hp : ∀ S', yFr (A8 g) S S' → yA S' 8 0 g = yA S 8 0 g → yCf S' g (cl ++ [(i, r)]) → post none (yH Λ f0 S')) : xSp xT0 (d + 1) j_Ap_keepConflict [.ref g, .int (nI i), .int (nI r)] (yH Λ f0 S) post := by
  refine xSp_of (M := m_Ap_keepConflict) rfl (b_Ap_keepConflict_0 (ygi hA.1 rfl ?_))
  rw [hc.2.1]
  refine brle (a := 24) (by omega) (by omega) (fun q => absurd q (by omega)) (fun _ => ygr hA.1 rfl (ygi hA.1 rfl ?_))
  rw [hc.2.1]
  refine yas hA.2.2.1 (yW_n hW hA.2.2.1) (vp_in_nI (by omega) (by omega)) (ygr hA.1 rfl (ygi hA.1 rfl ?_))
  have e1 : ∀ g1 : Nat → Int32, yI (ywA S 8 1 g g1) 8 4 g = nI cl.length := fun _ => hc.2.1
  rw [e1]
  refine yas hA.2.2.2.1 (yW_n hW hA.2.2.2.1) (vp_in_nI (by omega) (by omega)) (ygi hA.1 rfl ?_)
  have e2 : ∀ g1 g2 : Nat → Int32, yI (ywA (ywA S 8 1 g g1) 8 2 g g2) 8 4 g = nI cl.length := fun _ _ => hc.2.1
  rw [e2, nI_1, nI_clamp (by omega)]
  refine ypf hA.1 rfl ?_
  refine hp _ (yFr_tr (yFr_tr (yFr_wA ⟨rfl, rfl⟩) (yFr_wA ⟨rfl, rfl⟩)) (yFr_wI ⟨rfl, rfl⟩)) ?_ ⟨by rw [List.length_append]; simp only [List.length_cons, List.length_nil]; omega, ?_, fun k hk => ?_⟩
  · show yA (ywA (ywA S 8 1 g _) 8 2 g _) 8 0 g = _
    rw [yA_n _ _ (by omega), yA_n _ _ (by omega)]
  · rw [List.length_append]
    exact ywI_s _ _ _ _ _
  · rw [List.length_append] at hk
    simp only [List.length_cons, List.length_nil] at hk
    rw [clG]
    show yA (ywA (ywA S 8 1 g _) 8 2 g _) 8 1 g k = _ ∧ yA (ywA (ywA S 8 1 g _) 8 2 g _) 8 2 g k = _
    rw [yA_n _ _ (by omega), yA_s, yA_s, yA_n _ _ (by omega)]
    by_cases e : k = cl.length
    · rw [if_neg (by omega), if_pos e, e, pk_us, pk_us]
      exact ⟨rfl, rfl⟩
    · rw [if_pos (by omega), pk_un e, pk_un e]
      exact hc.2.2 k (by omega)
/-- what conflict(x, y) tells -/
def tellC (cl : List (Nat × Nat)) (x y : Int32) : Int32 := if x = -1 ∧ y = 0 then nI cl.length else if x < 0 ∨ nI cl.length ≤ x then -1 else if y = 0 then nI (cl.getD x.toNatClampNeg (0, 0)).1 else if y = 1 then nI (cl.getD x.toNatClampNeg (0, 0)).2 else -1
theorem Ap_tellConflict_sp (hA : yAp Λ g) (hc : yCf S g cl) (hp : post (some (.int (tellC cl x y))) (yH Λ f0 S)) : xSp xT0 (d + 1) j_Ap_tellConflict [.ref g, .int x, .int y] (yH Λ f0 S) post := by
  have hl := hc.1
  have h14 : ¬ (x = -1 ∧ y = 0) → xWp (xT0, xSp xT0 d, none, m_Ap_tellConflict, post) 14 [some (.ref g), some (.int x), some (.int y)] [] (yH Λ f0 S) 0 0 := by
    intro hn
    unfold tellC at hp
    rw [if_neg hn] at hp
    refine b_Ap_tellConflict_14 ⟨fun c => ?_, fun c => ygi hA.1 rfl ?_⟩
    · rw [if_pos (Or.inl c)] at hp; exact hp
    · rw [hc.2.1]
      rcases pk_ix x (n := cl.length) (by omega) with q | q | ⟨k, hk, e⟩
      · exact absurd q c
      · rw [if_pos (Or.inr q)] at hp
        exact ⟨fun z => absurd (Int32.lt_of_lt_of_le z q) Int32.lt_irrefl, fun _ => hp⟩
      · subst e
        have hx : ¬ (nI k < 0 ∨ nI cl.length ≤ nI k) := fun z => z.elim c (fun z => absurd ((leI (by omega) (by omega)).mp z) (by omega))
        rw [if_neg hx, nI_clamp (by omega)] at hp
        refine brlt (by omega) (by omega) (fun _ => ⟨fun c2 => ygr hA.1 rfl (yal hA.2.2.1 (vp_in_nI (by omega) (by omega)) ?_), fun c2 => ⟨fun c3 => ygr hA.1 rfl (yal hA.2.2.2.1 (vp_in_nI (by omega) (by omega)) ?_), fun c3 => ?_⟩⟩) (fun q => absurd q (by omega))
        · rw [if_pos c2] at hp
          rw [nI_clamp (by omega), (hc.2.2 k hk).1]; exact hp
        · rw [if_neg c2, if_pos c3] at hp
          rw [nI_clamp (by omega), (hc.2.2 k hk).2]; exact hp
        · rw [if_neg c2, if_neg c3] at hp; exact hp
  refine xSp_of (M := m_Ap_tellConflict) rfl (b_Ap_tellConflict_0 ⟨fun c => h14 (fun z => c z.1), fun c => ⟨fun c2 => h14 (fun z => c2 z.2), fun c2 => ygi hA.1 rfl ?_⟩⟩)
  unfold tellC at hp
  rw [if_pos ⟨Classical.not_not.mp c, Classical.not_not.mp c2⟩] at hp
  rw [hc.2.1]
  exact hp
theorem Tr_take2 (hW : yW Λ) (hT : yTv Λ S t fs) (hO : yB Λ o cap) (hv : yBv S o cap bs) (hbs : bs.length ≤ 17) (ho : own Λ o ≠ t) (hQ : yB Λ q capq) (hw : yBv S q capq cs) (hcs : cs.length ≤ 48) (hq : own Λ q ≠ t) (h1 : ∀ S' gs', tkT fs (bs, cs) = some gs' → yAg Λ S S' t → yTv Λ S' t gs' → post (some (.int (nI gs'.length))) (yH Λ f0 S')) (h2 : tkT fs (bs, cs) = none → post (some (.int (if barT fs bs = true then -2 else -3))) (yH Λ f0 S)) : xSp xT0 (d + 4) j_Tr_take [.ref t, .ref o, .ref q] (yH Λ f0 S) post := by
  have hno : (∀ j, j < fs.length → (fs.getD j fl0).1 ≠ bs) → ¬ fnd fs bs < fs.length := fun hn z => by
    have : fnd fs bs = fs.length := fstI_eq (Nat.le_refl _) (fun i hi => decide_eq_false (hn i hi)) (Or.inl rfl)
    omega
  unfold tkT at h1 h2
  refine Tr_take_sp hW hT hO hv hbs ho hQ hw hcs hq (fun k S' hk e hn a1 a2 => ?_) (fun hn e => ?_) (fun hn e hl => ?_) (fun S' hn e hl a1 a2 => ?_)
  · have ek : fnd fs bs = k := fstI_eq (Nat.le_of_lt hk) (fun i hi => decide_eq_false (hn i hi)) (Or.inr (decide_eq_true e))
    have := h1 S' (fs.set k (bs, cs)) (by dsimp only; rw [ek, if_pos hk]) a1 a2
    rw [List.length_set] at this
    exact this
  · have := h2 (by dsimp only; rw [if_neg (hno hn), if_pos e])
    rw [if_pos e] at this
    exact this
  · have := h2 (by dsimp only; rw [if_neg (hno hn), if_neg (by rw [e]; decide), if_pos hl])
    rw [if_neg (by rw [e]; decide)] at this
    exact this
  · have := h1 S' _ (by dsimp only; rw [if_neg (hno hn), if_neg (by rw [e]; decide), if_neg (by omega)]) a1 a2
    rw [insL_len (insP_le bs fs fs.length)] at this
    exact this
theorem yFr_AT (h : yAg Λ S S' u) : yFr (AT Λ u) S S' := fun c j a z => h c j a (fun e => z (Or.inl e)) (fun e => z (Or.inr e))
theorem Tv_AT (k : yFr (AT Λ u) S S') (hu : yo Λ u 2) (tu : yTop Λ u) (tt : yTop Λ t) (htu : t ≠ u) (h : yTv Λ S t fs) : yTv Λ S' t fs := by
  refine yFr_Tv k ?_ (fun b cap hB hb => ?_) h
  · rintro (z | z)
    · exact htu z
    · exact yo_ne tt.1 hu (by decide) z
  · rintro (z | z)
    · exact yo_ne hB.1 hu (by decide) z
    · exact htu (hb.symm.trans z)
theorem Pq_AT (k : yFr (AT Λ u) S S') (hu : yo Λ u 2) (tu : yTop Λ u) (tp : yTop Λ p) (h : yPq Λ S p vs Q) : yPq Λ S' p vs Q := by
  refine yFr_Pq k ?_ (fun s hs => ?_) (fun b hb => ?_) h
  · rintro (z | z)
    · exact yo_ne h.1.1 hu (by decide) z
    · exact yo_ne tp.1 hu (by decide) z
  · rintro (z | z)
    · rw [z] at hs; exact yo_ne tu.1 h.1.1 (by decide) hs
    · rw [hs] at z; exact yo_ne h.1.1 hu (by decide) z
  · have : ¬ (b = u ∨ own Λ b = u) := by
      rintro (z | z)
      · rw [z, tu.2] at hb; exact yo_ne tu.1 h.1.1 (by decide) hb
      · rw [z] at hb; exact yo_ne tu.1 h.1.1 (by decide) hb
    exact ⟨this, this⟩
theorem yZ_T (k : yFr (AT Λ u) S S') (hA : yAp Λ g) (tg : yTop Λ g) (hu : yo Λ u 2) (tu : yTop Λ u) (tt : yTop Λ t) (tp : yTop Λ p) (htu : t ≠ u) (h : yZ Λ S g p t vs fs G Q) : yZ Λ S' g p t vs fs G Q := by
  refine ⟨Tv_AT k hu tu tt htu h.1, Pq_AT k hu tu tp h.2.1, fun i hi => ?_⟩
  have : ¬ AT Λ u 8 g := by
    rintro (z | z)
    · exact yo_ne hA.1 hu (by decide) z
    · exact yo_ne tg.1 hu (by decide) z
  rw [(k 8 0 g this).2.1]
  exact h.2.2 i hi
theorem AT_AR : ∀ c a, AT Λ u c a → AR Λ g u c a := fun _ _ z => Or.inr (Or.inr z)
theorem A1_AR (hA : yAp Λ g) : ∀ c a, A1 (yMb Λ g) c a → AR Λ g u c a := fun _ _ z => Or.inr (Or.inl (by rw [z.2]; exact hA.2.2.2.2.2))
theorem A8_AR : ∀ c a, A8 g c a → AR Λ g u c a := fun _ _ z => Or.inl z.2
abbrev AB (Λ : yL) (g u : Nat) : Nat → Nat → Prop := fun c a => A1 (yMb Λ g) c a ∨ AT Λ u c a
/-- the TREE u after a change of the made CONTENT -/
theorem Tv_A1 (hA : yAp Λ g) (k : yFr (A1 (yMb Λ g)) S S') (h : yTv Λ S u gs) : yTv Λ S' u gs := by
  refine yFr_Tv k (fun z => absurd z.1 (by decide)) (fun b cap hB hb z => ?_) h
  rw [z.2, hA.2.2.2.2.2] at hb
  exact yo_ne hA.1 h.1.1 (by decide) hb
theorem Ap_build_sp (hW : yW Λ) (hA : yAp Λ g) (tg : yTop Λ g) (tu : yTop Λ u) (tt : yTop Λ t) (tp : yTop Λ p) (htu : t ≠ u) (h : yZ Λ S g p t vs fs G Q) (hU : yTv Λ S u gs) (h1 : ∀ S' hs, bd2 fs vs G vs.length = some hs → yFr (AB Λ g u) S S' → yTv Λ S' u hs → post (some (.int 1)) (yH Λ f0 S')) (h2 : ∀ S' hs, bd2 fs vs G vs.length = none → yFr (AB Λ g u) S S' → yTv Λ S' u hs → post (some (.int 0)) (yH Λ f0 S')) : xSp xT0 (d + 5) j_Ap_build [.ref g, .ref p, .ref t, .ref u] (yH Λ f0 S) post := by
  have hl := h.2.1.2.2.2.1
  have hfl := Tv_le h.1
  have hu := hU.1.1
  have hz : ∀ {S1}, yFr (AB Λ g u) S S1 → yZ Λ S1 g p t vs fs G Q := fun {S1} k1 => by
    refine ⟨yFr_Tv k1 ?_ (fun b cap hB hb => ?_) h.1, yFr_Pq k1 ?_ (fun s hs => ?_) (fun b hb => ?_) h.2.1, fun i hi => ?_⟩
    · rintro (z | z | z)
      · exact absurd z.1 (by decide)
      · exact htu z
      · exact yo_ne tt.1 hu (by decide) z
    · rintro (z | z | z)
      · rw [z.2, hA.2.2.2.2.2] at hb; exact yo_ne hA.1 h.1.1.1 (by decide) hb
      · exact yo_ne hB.1 hu (by decide) z
      · exact htu (hb.symm.trans z)
    · rintro (z | z | z)
      · exact absurd z.1 (by decide)
      · exact yo_ne h.2.1.1.1 hu (by decide) z
      · exact yo_ne tp.1 hu (by decide) z
    · rintro (z | z | z)
      · exact absurd z.1 (by decide)
      · rw [z] at hs; exact yo_ne tu.1 h.2.1.1.1 (by decide) hs
      · rw [hs] at z; exact yo_ne h.2.1.1.1 hu (by decide) z
    · have : ¬ AT Λ u 1 b := by
        rintro (z | z)
        · rw [z, tu.2] at hb; exact yo_ne tu.1 h.2.1.1.1 (by decide) hb
        · rw [z] at hb; exact yo_ne tu.1 h.2.1.1.1 (by decide) hb
      refine ⟨fun z => z.elim (fun z => ?_) this, fun z => z.elim (fun z => absurd z.1 (by decide)) this⟩
      rw [z.2, hA.2.2.2.2.2] at hb
      exact yo_ne tg.1 h.2.1.1.1 (by decide) hb
    · have : ¬ AB Λ g u 8 g := by
        rintro (z | z | z)
        · exact absurd z.1 (by decide)
        · exact yo_ne hA.1 hu (by decide) z
        · exact yo_ne tg.1 hu (by decide) z
      rw [(k1 8 0 g this).2.1]
      exact h.2.2 i hi
  refine xSp_of (M := m_Ap_build) rfl (b_Ap_build_0 ⟨yex hu, Tr_empty_sp hU.1 (xvvI ?_)⟩)
  have hlo2 : ∀ k, k ≤ vs.length → (∀ S1 hs (u5 : Option Value), yFr (AB Λ g u) S S1 → yTv Λ S1 u hs → bd2 fs vs G k = some hs → xWp (xT0, xSp xT0 (d + 4), none, m_Ap_build, post) 56 [some (.ref g), some (.ref p), some (.ref t), some (.ref u), some (.int (nI k)), u5] [] (yH Λ f0 S1) 0 0) := by
    refine loopUp ?_ ?_
    · intro S1 hs u5 k1 hU1 e
      have z1 := hz k1
      exact b_Ap_build_56 ⟨yex z1.2.1.1.1, Pa_size_sp z1.2.1 (brle (by omega) (by omega) (fun _ => h1 S1 hs e k1 hU1) (fun q => absurd q (by omega)))⟩
    · intro k hk ih S1 hs u5 k1 hU1 e
      have z1 := hz k1
      have hvk := z1.2.1.2.2.2.2.2.1 k hk
      have es : bd2 fs vs G (k + 1) = bd2S fs vs G (some hs) k := by
        unfold bd2 at e ⊢
        rw [rgF, e]
      have es2 : bd2 fs vs G (k + 1) = if G k = true ∧ ¬ (vs.getD k sv0).1 = 1 then tkT hs ((vs.getD k sv0).2.1, makeD (vs.getD k sv0).2.2.2.2.2.2.2.1 (cntA fs (vs.getD k sv0))) else some hs := es
      have hno : ¬ (G k = true ∧ ¬ (vs.getD k sv0).1 = 1) → ∀ u5, xWp (xT0, xSp xT0 (d + 4), none, m_Ap_build, post) 56 [some (.ref g), some (.ref p), some (.ref t), some (.ref u), some (.int (nI (k + 1))), u5] [] (yH Λ f0 S1) 0 0 := fun c u5 => ih S1 hs u5 k1 hU1 (by rw [es2, if_neg c])
      refine b_Ap_build_56 ⟨yex z1.2.1.1.1, Pa_size_sp z1.2.1 (brle (by omega) (by omega) (fun q => absurd q (by omega)) (fun _ => ⟨yex z1.2.1.1.1, Pa_at_sp z1.2.1 hk (xvrI (ygr hA.1 rfl (yal hA.2.1 (vp_in_nI (by omega) (by omega)) ?_)))⟩))⟩
      rw [nI_clamp (by omega), z1.2.2 k hk, nI_1]
      refine brB (fun q => hno (fun z => absurd (q.symm.trans z.1) (by decide)) _) (fun q => ⟨yex hvk.1.1, St_hasTarget_sp hvk ?_⟩)
      by_cases c : (vs.getD k sv0).1 = 1
      · rw [if_pos c]
        exact ⟨fun _ => hno (fun z => z.2 c) _, fun z => absurd rfl z⟩
      · rw [if_neg c]
        rw [if_pos ⟨q, c⟩] at es2
        refine ⟨fun z => absurd z (by decide), fun _ => ygr hvk.1.1 rfl (ygr hvk.1.1 rfl ⟨yex z1.1.1.1, Tr_find2 z1.1 hvk.1.2.1.2.1 hvk.2.1.2.2 (xviI ⟨yex z1.1.1.1, Tr_cAt z1.1 (cnt_hx fs _) (fun q1 capq B1 v1 o1 l1 => xvrI (ygr hA.1 rfl ⟨yex hvk.1.2.1.2.2.1.1, De_make_sp hW hvk.1.2.1.2.2.1 B1 hA.2.2.2.2.1 ?_ hvk.2.2.2.1 v1 (fun gm vm hm => xvvI (ygr hvk.1.1 rfl (ygr hA.1 rfl ⟨yex hu, ?_⟩)))⟩))⟩)⟩)⟩
        · intro e
          rw [e, hA.2.2.2.2.2] at o1
          exact yo_ne hA.1 z1.1.1.1 (by decide) o1
        · have k2 : yFr (A1 (yMb Λ g)) S1 (yBw S1 (yMb Λ g) gm vm) := yFr_Bw ⟨rfl, rfl⟩
          have k2' : yFr (AB Λ g u) S (yBw S1 (yMb Λ g) gm vm) := yFr_tr k1 (yFr_mo k2 (fun _ _ z => Or.inl z))
          have z2 := hz k2'
          have hv2 := z2.2.1.2.2.2.2.2.1 k hk
          have hU2 := Tv_A1 hA k2 hU1
          refine Tr_take2 hW hU2 hvk.1.2.1.1 hv2.2.1.2.1 hv2.2.1.2.1.1 ?_ hA.2.2.2.2.1 hm hm.1 ?_ (fun S3 gs3 e3 a1 a2 => xviI ⟨fun _ => ?_, fun c3 => ?_⟩) (fun e3 => xviI ?_)
          · rw [hvk.1.2.2.1.1]; exact yo_ne hvk.1.1 hu (by decide)
          · rw [hA.2.2.2.2.2]; exact yo_ne hA.1 hu (by decide)
          · exact ih S3 gs3 _ (yFr_tr k2' (yFr_mo (yFr_AT a1) (fun _ _ z => Or.inr z))) a2 (by rw [es2]; exact e3)
          · have hg3 := Tv_le a2
            exact absurd ((leI (a := 0) (by omega) (by omega)).mpr (Nat.zero_le _)) c3
          · have en : bd2 fs vs G vs.length = none := by
              have : ∀ n, k + 1 + n ≤ vs.length → bd2 fs vs G (k + 1 + n) = none := by
                intro n
                induction n with
                | zero => intro _; rw [Nat.add_zero, es2]; exact e3
                | succ n ihn =>
                  intro hn
                  have := ihn (by omega)
                  unfold bd2 at this ⊢
                  rw [← Nat.add_assoc, rgF, this]
                  rfl
              have := this (vs.length - (k + 1)) (by omega)
              rw [show k + 1 + (vs.length - (k + 1)) = vs.length by omega] at this
              exact this
            have hpo := h2 _ hs en k2' hU2
            by_cases cb : barT hs (vs.getD k sv0).2.1 = true
            · rw [if_pos cb]
              exact ⟨fun z => absurd z (by decide), fun _ => hpo⟩
            · rw [if_neg cb]
              exact ⟨fun z => absurd z (by decide), fun _ => hpo⟩
  have hlo1 : ∀ k, k ≤ fs.length → (∀ S1 (u5 : Option Value), yFr (AB Λ g u) S S1 → yTv Λ S1 u (bd1 fs vs G k) → xWp (xT0, xSp xT0 (d + 4), none, m_Ap_build, post) 7 [some (.ref g), some (.ref p), some (.ref t), some (.ref u), some (.int (nI k)), u5] [] (yH Λ f0 S1) 0 0) := by
    refine loopUp ?_ ?_
    · intro S1 u5 k1 hU1
      have z1 := hz k1
      exact b_Ap_build_7 ⟨yex z1.1.1.1, Tr_size_sp z1.1 (brle (by omega) (by omega) (fun _ => hlo2 0 (Nat.zero_le _) S1 _ _ k1 hU1 rfl) (fun q => absurd q (by omega)))⟩
    · intro k hk ih S1 u5 k1 hU1
      have z1 := hz k1
      have es : bd1 fs vs G (k + 1) = bd1S fs vs G (bd1 fs vs G k) k := by unfold bd1; rw [rgF]
      rw [es] at ih
      unfold bd1S at ih
      refine b_Ap_build_7 ⟨yex z1.1.1.1, Tr_size_sp z1.1 (brle (by omega) (by omega) (fun q => absurd q (by omega)) (fun _ => ⟨yex z1.1.1.1, Tr_pAt z1.1 hk (fun q1 B1 v1 o1 => xvrI ⟨yex hA.1, Ap_isTakenAway_sp hA z1.2.1 z1.2.2 B1 v1 (xviI (brBn (fun c => ?_) (fun c => ⟨yex z1.1.1.1, Tr_pAt z1.1 hk (fun q2 B2 v2 o2 => xvrI ⟨yex z1.1.1.1, Tr_cAt z1.1 (Or.inl ⟨k, hk, rfl, rfl⟩) (fun q3 c3 B3 v3 o3 l3 => xvrI ⟨yex hu, ?_⟩)⟩)⟩)))⟩)⟩))⟩
      · rw [nI_1]
        refine ih S1 _ k1 ?_
        rw [if_pos c]
        exact hU1
      · rw [if_neg (by rw [c]; decide)] at ih
        refine Tr_take2 hW hU1 B2 v2 v2.1 ?_ B3 v3 l3 ?_ (fun S3 gs3 e3 a1 a2 => xviI ?_) (fun e3 => xviI ?_)
        · rw [o2]; exact htu
        · rw [o3]; exact htu
        · rw [nI_1]
          have e3 : tkT (bd1 fs vs G k) (fs.getD k fl0) = some gs3 := e3
          rw [e3] at ih
          exact ih S3 _ (yFr_tr k1 (yFr_mo (yFr_AT a1) (fun _ _ z => Or.inr z))) a2
        · rw [nI_1]
          have e3 : tkT (bd1 fs vs G k) (fs.getD k fl0) = none := e3
          rw [e3] at ih
          exact ih S1 _ k1 hU1
  exact hlo1 0 (Nat.zero_le _) _ none (yFr_wI (Or.inr (Or.inl rfl))) (yTv_e hU)
end
