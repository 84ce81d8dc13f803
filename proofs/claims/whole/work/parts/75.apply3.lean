/-! 75 Applier: the whole run -/
def rnA (vs : List Sv) (fs : List Fl) (st : Bool) : Nat → (Nat → Bool) → List (Nat × Nat) → (Nat → Bool) × List (Nat × Nat) × Nat
  | 0, G, cl => (G, cl, 0)
  | n + 1, G, cl => if misA vs fs G < vs.length then (if st = true then (G, cl ++ [(misA vs fs G, rulA vs fs G (vs.getD (misA vs fs G) sv0))], rulA vs fs G (vs.getD (misA vs fs G) sv0)) else rnA vs fs st n (setB G (misA vs fs G)) (cl ++ [(misA vs fs G, rulA vs fs G (vs.getD (misA vs fs G) sv0))])) else (G, cl, 0)
def runA (vs : List Sv) (fs : List Fl) (st : Bool) : (Nat → Bool) × List (Nat × Nat) × Nat := rnA vs fs st vs.length (fun _ => true) []
/-- the RULE by which it is refused; 0: it FITS -/
def runR (vs : List Sv) (fs : List Fl) (st : Bool) : Nat := if (runA vs fs st).2.2 = 0 then (match bd2 fs vs (runA vs fs st).1 vs.length with | none => 5 | some _ => 0) else (runA vs fs st).2.2
def runT (vs : List Sv) (fs : List Fl) (st : Bool) : List Fl := (bd2 fs vs (runA vs fs st).1 vs.length).getD []
theorem misA_t {vs : List Sv} {fs : List Fl} {G : Nat → Bool} (h : misA vs fs G < vs.length) : G (misA vs fs G) = true ∧ ¬ rulA vs fs G (vs.getD (misA vs fs G) sv0) = 0 := by
  have := fstI_t (p := fun i => G i && decide (¬ rulA vs fs G (vs.getD i sv0) = 0)) h
  have := Bool.and_eq_true_iff.mp this
  exact ⟨this.1, of_decide_eq_true this.2⟩
section
variable {Λ : yL} {f0 : xH} {S0 S S' : yS} {t u p g n m o q cap capq d : Nat} {Q : Nat → Nat} {vs : List Sv} {fs gs : List Fl} {G G' : Nat → Bool} {bs cs : List Nat} {x y : Int32} {cl : List (Nat × Nat)} {A : Nat → Nat → Prop} {post : Option Value → xH → Prop}
theorem yCf_fr (k : yFr A S S') (hn : ¬ A 8 g) (h : yCf S g cl) : yCf S' g cl :=
  ⟨h.1, by rw [(k 8 4 g hn).1]; exact h.2.1, fun i hi => by rw [(k 8 1 g hn).2.1, (k 8 2 g hn).2.1]; exact h.2.2 i hi⟩
theorem Tv_A8 (k : yFr (A8 g) S S') (h : yTv Λ S u gs) : yTv Λ S' u gs := yFr_Tv k (fun z => absurd z.1 (by decide)) (fun _ _ _ _ z => absurd z.1 (by decide)) h
theorem yZ_8 (k : yFr (A8 g) S S') (hG : ∀ i, i < vs.length → yA S' 8 0 g i = bI (G' i)) (h : yZ Λ S g p t vs fs G Q) : yZ Λ S' g p t vs fs G' Q :=
  ⟨Tv_A8 k h.1, yFr_Pq k (fun z => absurd z.1 (by decide)) (fun _ _ z => absurd z.1 (by decide)) (fun _ _ => ⟨fun z => absurd z.1 (by decide), fun z => absurd z.1 (by decide)⟩) h.2.1, hG⟩
theorem Ap_run_sp (hW : yW Λ) (hA : yAp Λ g) (tg : yTop Λ g) (tu : yTop Λ u) (tt : yTop Λ t) (tp : yTop Λ p) (htu : t ≠ u) (hT : yTv Λ S t fs) (hP : yPq Λ S p vs Q) (hU : yTv Λ S u gs) {st : Bool} (hp : ∀ S' hs, yFr (AR Λ g u) S S' → yCf S' g (runA vs fs st).2.1 → yTv Λ S' u hs → (runR vs fs st = 0 → hs = runT vs fs st) → post (some (.int (nI (runR vs fs st)))) (yH Λ f0 S')) : xSp xT0 (d + 6) j_Ap_run [.ref g, .ref p, .ref t, .int (bI st), .ref u] (yH Λ f0 S) post := by
  have hl := hP.2.2.2.1
  have hfl := Tv_le hT
  have hu := hU.1.1
  have n8 : ¬ A1 (yMb Λ g) 8 g := fun z => absurd z.1 (by decide)
  have nB : ¬ AB Λ g u 8 g := by
    rintro (z | z | z)
    · exact absurd z.1 (by decide)
    · exact yo_ne hA.1 hu (by decide) z
    · exact yo_ne tg.1 hu (by decide) z
  have h99 : ∀ S1 G1 cl1 hs1 (x5 : Int32) (u6 u7 : Option Value), yFr (AR Λ g u) S S1 → yZ Λ S1 g p t vs fs G1 Q → yTv Λ S1 u hs1 → yCf S1 g cl1 → (G1, cl1, 0) = runA vs fs st → xWp (xT0, xSp xT0 (d + 5), none, m_Ap_run, post) 99 [some (.ref g), some (.ref p), some (.ref t), some (.int (bI st)), some (.ref u), some (.int x5), u6, u7] [] (yH Λ f0 S1) 0 0 := by
    intro S1 G1 cl1 hs1 x5 u6 u7 k1 z1 hU1 hC1 e
    have e0 : runR vs fs st = match bd2 fs vs G1 vs.length with | none => 5 | some _ => 0 := by
      unfold runR
      rw [← e, if_pos rfl]
    have hm : ∀ c a, AB Λ g u c a → AR Λ g u c a := fun c a z => z.elim (A1_AR hA c a) (AT_AR c a)
    refine b_Ap_run_99 ⟨yex hA.1, Ap_build_sp hW hA tg tu tt tp htu z1 hU1 (fun S2 hs e2 k2 hU2 => xviI ⟨fun c => absurd c (by decide), fun _ => ?_⟩) (fun S2 hs e2 k2 hU2 => xviI ⟨fun _ => ?_, fun c => absurd rfl c⟩)⟩
    · rw [e2] at e0
      have e0 : runR vs fs st = 0 := e0
      have := hp S2 hs (yFr_tr k1 (yFr_mo k2 hm)) (by rw [← e]; exact yCf_fr k2 nB hC1) hU2 (fun _ => by unfold runT; rw [← e]; show _ = (bd2 fs vs G1 vs.length).getD []; rw [e2]; rfl)
      rw [e0] at this
      exact this
    · rw [e2] at e0
      have e0 : runR vs fs st = 5 := e0
      have := hp S2 hs (yFr_tr k1 (yFr_mo k2 hm)) (by rw [← e]; exact yCf_fr k2 nB hC1) hU2 (fun z => by rw [e0] at z; exact absurd z (by decide))
      rw [e0] at this
      exact this
  have hrn : ∀ n r, r + n = vs.length → ∀ S1 G1 cl1 hs1 (u6 u7 : Option Value), yFr (AR Λ g u) S S1 → yZ Λ S1 g p t vs fs G1 Q → yTv Λ S1 u hs1 → yCf S1 g cl1 → cl1.length = r → rnA vs fs st n G1 cl1 = runA vs fs st → xWp (xT0, xSp xT0 (d + 5), none, m_Ap_run, post) 34 [some (.ref g), some (.ref p), some (.ref t), some (.int (bI st)), some (.ref u), some (.int (nI r)), u6, u7] [] (yH Λ f0 S1) 0 0 := by
    intro n
    induction n with
    | zero =>
      intro r hr S1 G1 cl1 hs1 u6 u7 k1 z1 hU1 hC1 hcl e
      exact b_Ap_run_34 ⟨yex z1.2.1.1.1, Pa_size_sp z1.2.1 (brle (by omega) (by omega) (fun _ => h99 S1 G1 cl1 hs1 _ _ _ k1 z1 hU1 hC1 e) (fun q => absurd q (by omega)))⟩
    | succ n ih =>
      intro r hr S1 G1 cl1 hs1 u6 u7 k1 z1 hU1 hC1 hcl e
      refine b_Ap_run_34 ⟨yex z1.2.1.1.1, Pa_size_sp z1.2.1 (brle (by omega) (by omega) (fun q => absurd q (by omega)) (fun _ => ⟨yex hA.1, Ap_firstMisfit_sp hW hA tg z1 (fun S2 k2 => xviI ?_)⟩))⟩
      have z2 := yZ_1 hA tg z1 k2
      have hU2 := Tv_A1 hA k2 hU1
      have hC2 := yCf_fr k2 n8 hC1
      have k2' := yFr_tr k1 (yFr_mo k2 (A1_AR (u := u) hA))
      unfold rnA at e
      refine brixn (by omega) (fun c2 ei => ?_) (fun c2 => ?_)
      · rw [if_pos c2] at e
        rw [ei]
        have hm := misA_t c2
        have hr4 := rulA_le vs fs G1 (vs.getD (misA vs fs G1) sv0)
        refine ⟨yex hA.1, Ap_ruleBroken_sp hW hA tg z2 c2 (fun S3 k3 => xviI ⟨yex hA.1, ?_⟩)⟩
        have z3 := yZ_1 hA tg z2 k3
        have hU3 := Tv_A1 hA k3 hU2
        have hC3 := yCf_fr k3 n8 hC2
        have k3' := yFr_tr k2' (yFr_mo k3 (A1_AR (u := u) hA))
        refine Ap_keepConflict_sp hW hA hC3 (by omega) (fun S4 k4 hG4 hC4 => xvvI ?_)
        have k4' := yFr_tr k3' (yFr_mo k4 (A8_AR (Λ := Λ) (u := u)))
        have z4 : yZ Λ S4 g p t vs fs G1 Q := yZ_8 k4 (fun i hi => by rw [hG4]; exact z3.2.2 i hi) z3
        have hU4 := Tv_A8 k4 hU3
        refine brB (fun q => ygr hA.1 rfl (yas hA.2.1 (yW_n hW hA.2.1) (vp_in_nI (by omega) (by omega)) ?_)) (fun q => ?_)
        · rw [if_neg (by rw [q]; decide)] at e
          rw [nI_clamp (by omega), nI_1]
          have k5 : yFr (A8 g) S4 (ywA S4 8 0 g (upd (yA S4 8 0 g) (misA vs fs G1) 0)) := yFr_wA ⟨rfl, rfl⟩
          refine ih (r + 1) (by omega) _ _ _ hs1 _ _ (yFr_tr k4' (yFr_mo k5 (A8_AR (Λ := Λ) (u := u)))) (yZ_8 (G' := setB G1 (misA vs fs G1)) k5 (fun i hi => ?_) z4) (Tv_A8 k5 hU4) ⟨hC4.1, hC4.2.1, fun i hi => ?_⟩ ?_ e
          · rw [yA_s]
            by_cases w : i = misA vs fs G1
            · rw [w, pk_us]
              show _ = bI (if misA vs fs G1 = misA vs fs G1 then false else G1 _)
              rw [if_pos rfl]
              rfl
            · rw [pk_un w]
              show _ = bI (if i = misA vs fs G1 then false else G1 i)
              rw [if_neg w]
              exact z4.2.2 i hi
          · rw [yA_n _ _ (by omega), yA_n _ _ (by omega)]
            exact hC4.2.2 i hi
          · rw [List.length_append, hcl]; rfl
        · rw [if_pos q] at e
          have e0 : runR vs fs st = rulA vs fs G1 (vs.getD (misA vs fs G1) sv0) := by
            unfold runR
            rw [← e]
            exact if_neg hm.2
          have := hp S4 hs1 k4' (by rw [← e]; exact hC4) hU4 (fun z => absurd (e0.symm.trans z) hm.2)
          rw [e0] at this
          exact this
      · rw [if_neg c2] at e
        exact h99 S2 G1 cl1 hs1 _ _ _ k2' z2 hU2 hC2 e
  refine xSp_of (M := m_Ap_run) rfl (b_Ap_run_0 (ypf hA.1 rfl ?_))
  have hst : ∀ k, k ≤ vs.length → (∀ S1, yFr (A8 g) S S1 → yCf S1 g [] → (∀ i, i < k → yA S1 8 0 g i = bI true) → xWp (xT0, xSp xT0 (d + 5), none, m_Ap_run, post) 8 [some (.ref g), some (.ref p), some (.ref t), some (.int (bI st)), some (.ref u), some (.int (nI k)), none, none] [] (yH Λ f0 S1) 0 0) := by
    have hz : ∀ {S1}, yFr (A8 g) S S1 → yPq Λ S1 p vs Q := fun k => yFr_Pq k (fun z => absurd z.1 (by decide)) (fun _ _ z => absurd z.1 (by decide)) (fun _ _ => ⟨fun z => absurd z.1 (by decide), fun z => absurd z.1 (by decide)⟩) hP
    refine loopUp ?_ ?_
    · intro S1 k1 hC1 hG
      have hP1 := hz k1
      exact b_Ap_run_8 ⟨yex hP1.1.1, Pa_size_sp hP1 (brle (by omega) (by omega) (fun _ => hrn vs.length 0 (Nat.zero_add _) S1 (fun _ => true) [] gs _ _ (yFr_mo k1 (A8_AR (Λ := Λ) (u := u))) ⟨Tv_A8 k1 hT, hP1, hG⟩ (Tv_A8 k1 hU) hC1 rfl rfl) (fun q => absurd q (by omega)))⟩
    · intro k hk ih S1 k1 hC1 hG
      have hP1 := hz k1
      refine b_Ap_run_8 ⟨yex hP1.1.1, Pa_size_sp hP1 (brle (by omega) (by omega) (fun q => absurd q (by omega)) (fun _ => ygr hA.1 rfl (yas hA.2.1 (yW_n hW hA.2.1) (vp_in_nI (by omega) (by omega)) ?_)))⟩
      rw [nI_clamp (by omega), nI_1]
      refine ih _ (yFr_tr k1 (yFr_wA ⟨rfl, rfl⟩)) ⟨Nat.zero_le _, hC1.2.1, fun i hi => absurd hi (Nat.not_lt_zero _)⟩ (fun i hi => ?_)
      rw [yA_s]
      by_cases w : i = k
      · rw [w, pk_us]; rfl
      · rw [pk_un w]; exact hG i (by omega)
  exact hst 0 (Nat.zero_le _) _ (yFr_wI ⟨rfl, rfl⟩) ⟨Nat.zero_le _, ywI_s _ _ _ _ _, fun i hi => absurd hi (Nat.not_lt_zero _)⟩ (fun i hi => absurd hi (Nat.not_lt_zero _))
end
