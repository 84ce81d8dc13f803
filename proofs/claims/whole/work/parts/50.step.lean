/-! 50 Step: its state, what it tells -/
/-- sort, PATH, FROM, LENGTH and SUM of the SOURCE, of the TARGET, DELTA, BACK -/
abbrev Sv : Type := Int32 × List Nat × List Nat × Int32 × Int32 × Int32 × Int32 × List Int32 × List Int32
abbrev yP (Λ : yL) (s : Nat) : Nat := Λ.2.1 4 0 s
abbrev yF (Λ : yL) (s : Nat) : Nat := Λ.2.1 4 1 s
abbrev yDe (Λ : yL) (s : Nat) : Nat := Λ.2.1 4 2 s
abbrev yBa (Λ : yL) (s : Nat) : Nat := Λ.2.1 4 3 s
def ySt (Λ : yL) (s : Nat) : Prop := yo Λ s 4 ∧ (yB Λ (yP Λ s) 17 ∧ yB Λ (yF Λ s) 17 ∧ yD Λ (yDe Λ s) ∧ yD Λ (yBa Λ s)) ∧ (own Λ (yP Λ s) = s ∧ own Λ (yF Λ s) = s ∧ own Λ (yDe Λ s) = s ∧ own Λ (yBa Λ s) = s) ∧ yP Λ s ≠ yF Λ s ∧ yDe Λ s ≠ yBa Λ s
def ySv (Λ : yL) (S : yS) (s : Nat) (v : Sv) : Prop := ySt Λ s ∧ (yI S 4 4 s = v.1 ∧ yBv S (yP Λ s) 17 v.2.1 ∧ yBv S (yF Λ s) 17 v.2.2.1) ∧ (yI S 4 5 s = v.2.2.2.1 ∧ yI S 4 6 s = v.2.2.2.2.1 ∧ yI S 4 7 s = v.2.2.2.2.2.1 ∧ yI S 4 8 s = v.2.2.2.2.2.2.1) ∧ yDv S (yDe Λ s) v.2.2.2.2.2.2.2.1 ∧ yDv S (yBa Λ s) v.2.2.2.2.2.2.2.2
theorem yDv_I2 {S : yS} {c j a b : Nat} {w : Int32} {zs : List Int32} (h : c ≠ 3) (hv : yDv S b zs) : yDv (ywI S c j a w) b zs :=
  ⟨hv.1, by rw [show yI (ywI S c j a w) 3 1 b = yI S 3 1 b from if_neg (fun z => h z.1.symm)]; exact hv.2.1, hv.2.2⟩
theorem ywI_s (S : yS) (c j o : Nat) (v : Int32) : yI (ywI S c j o v) c j o = v := if_pos ⟨rfl, rfl, rfl⟩
theorem ywI_ne (S : yS) {c j o c' j' b : Nat} (v : Int32) (h : ¬ (c' = c ∧ j' = j ∧ b = o)) : yI (ywI S c j o v) c' j' b = yI S c' j' b := if_neg h
theorem yBw_I4 {S : yS} {a : Nat} {g : Nat → Int32} {v : Int32} (j b : Nat) : yI (yBw S a g v) 4 j b = yI S 4 j b := by rw [yBw_I, if_neg (by omega)]
theorem yDw_I4 {S : yS} {a : Nat} {g : Nat → Int32} {v : Int32} (j b : Nat) : yI (yDw S a g v) 4 j b = yI S 4 j b := by rw [yDw_I, if_neg (by omega)]
section
variable {Λ : yL} {f0 : xH} {S S' : yS} {s s' t o q capo capq d : Nat} {v v' : Sv} {bs cs : List Nat} {zs : List Int32} {x : Int32} {post : Option Value → xH → Prop}
theorem ySv_4 (h : ySv Λ S s v) : ySv Λ (ywI S 4 4 s x) s (x, v.2) := by
  obtain ⟨h1, ⟨h2, h3, h4⟩, ⟨h5, h6, h7, h8⟩, h9, h10⟩ := h
  exact ⟨h1, ⟨ywI_s _ _ _ _ _, yBv_I2 (v := 0) (by decide) h3, yBv_I2 (v := 0) (by decide) h4⟩, ⟨(ywI_ne _ _ (by omega)).trans h5, (ywI_ne _ _ (by omega)).trans h6, (ywI_ne _ _ (by omega)).trans h7, (ywI_ne _ _ (by omega)).trans h8⟩, yDv_I2 (by decide) h9, yDv_I2 (by decide) h10⟩
theorem ySv_5 (h : ySv Λ S s v) : ySv Λ (ywI S 4 5 s x) s (v.1, v.2.1, v.2.2.1, x, v.2.2.2.2) := by
  obtain ⟨h1, ⟨h2, h3, h4⟩, ⟨h5, h6, h7, h8⟩, h9, h10⟩ := h
  exact ⟨h1, ⟨(ywI_ne _ _ (by omega)).trans h2, yBv_I2 (v := 0) (by decide) h3, yBv_I2 (v := 0) (by decide) h4⟩, ⟨ywI_s _ _ _ _ _, (ywI_ne _ _ (by omega)).trans h6, (ywI_ne _ _ (by omega)).trans h7, (ywI_ne _ _ (by omega)).trans h8⟩, yDv_I2 (by decide) h9, yDv_I2 (by decide) h10⟩
theorem ySv_6 (h : ySv Λ S s v) : ySv Λ (ywI S 4 6 s x) s (v.1, v.2.1, v.2.2.1, v.2.2.2.1, x, v.2.2.2.2.2) := by
  obtain ⟨h1, ⟨h2, h3, h4⟩, ⟨h5, h6, h7, h8⟩, h9, h10⟩ := h
  exact ⟨h1, ⟨(ywI_ne _ _ (by omega)).trans h2, yBv_I2 (v := 0) (by decide) h3, yBv_I2 (v := 0) (by decide) h4⟩, ⟨(ywI_ne _ _ (by omega)).trans h5, ywI_s _ _ _ _ _, (ywI_ne _ _ (by omega)).trans h7, (ywI_ne _ _ (by omega)).trans h8⟩, yDv_I2 (by decide) h9, yDv_I2 (by decide) h10⟩
theorem ySv_7 (h : ySv Λ S s v) : ySv Λ (ywI S 4 7 s x) s (v.1, v.2.1, v.2.2.1, v.2.2.2.1, v.2.2.2.2.1, x, v.2.2.2.2.2.2) := by
  obtain ⟨h1, ⟨h2, h3, h4⟩, ⟨h5, h6, h7, h8⟩, h9, h10⟩ := h
  exact ⟨h1, ⟨(ywI_ne _ _ (by omega)).trans h2, yBv_I2 (v := 0) (by decide) h3, yBv_I2 (v := 0) (by decide) h4⟩, ⟨(ywI_ne _ _ (by omega)).trans h5, (ywI_ne _ _ (by omega)).trans h6, ywI_s _ _ _ _ _, (ywI_ne _ _ (by omega)).trans h8⟩, yDv_I2 (by decide) h9, yDv_I2 (by decide) h10⟩
theorem ySv_8 (h : ySv Λ S s v) : ySv Λ (ywI S 4 8 s x) s (v.1, v.2.1, v.2.2.1, v.2.2.2.1, v.2.2.2.2.1, v.2.2.2.2.2.1, x, v.2.2.2.2.2.2.2) := by
  obtain ⟨h1, ⟨h2, h3, h4⟩, ⟨h5, h6, h7, h8⟩, h9, h10⟩ := h
  exact ⟨h1, ⟨(ywI_ne _ _ (by omega)).trans h2, yBv_I2 (v := 0) (by decide) h3, yBv_I2 (v := 0) (by decide) h4⟩, ⟨(ywI_ne _ _ (by omega)).trans h5, (ywI_ne _ _ (by omega)).trans h6, (ywI_ne _ _ (by omega)).trans h7, ywI_s _ _ _ _ _⟩, yDv_I2 (by decide) h9, yDv_I2 (by decide) h10⟩
theorem ySv_p {g : Nat → Int32} {n : Int32} (h : ySv Λ S s v) (hg : yBv (yBw S (yP Λ s) g n) (yP Λ s) 17 bs) : ySv Λ (yBw S (yP Λ s) g n) s (v.1, bs, v.2.2) := by
  obtain ⟨h1, ⟨h2, h3, h4⟩, ⟨h5, h6, h7, h8⟩, h9, h10⟩ := h
  exact ⟨h1, ⟨(yBw_I4 _ _).trans h2, hg, yBv_w (fun e => h1.2.2.2.1 e.symm) h4⟩, ⟨(yBw_I4 _ _).trans h5, (yBw_I4 _ _).trans h6, (yBw_I4 _ _).trans h7, (yBw_I4 _ _).trans h8⟩, yDv_B h9, yDv_B h10⟩
theorem ySv_f {g : Nat → Int32} {n : Int32} (h : ySv Λ S s v) (hg : yBv (yBw S (yF Λ s) g n) (yF Λ s) 17 bs) : ySv Λ (yBw S (yF Λ s) g n) s (v.1, v.2.1, bs, v.2.2.2) := by
  obtain ⟨h1, ⟨h2, h3, h4⟩, ⟨h5, h6, h7, h8⟩, h9, h10⟩ := h
  exact ⟨h1, ⟨(yBw_I4 _ _).trans h2, yBv_w h1.2.2.2.1 h3, hg⟩, ⟨(yBw_I4 _ _).trans h5, (yBw_I4 _ _).trans h6, (yBw_I4 _ _).trans h7, (yBw_I4 _ _).trans h8⟩, yDv_B h9, yDv_B h10⟩
theorem ySv_d {g : Nat → Int32} {n : Int32} (h : ySv Λ S s v) (hg : yDv (yDw S (yDe Λ s) g n) (yDe Λ s) zs) : ySv Λ (yDw S (yDe Λ s) g n) s (v.1, v.2.1, v.2.2.1, v.2.2.2.1, v.2.2.2.2.1, v.2.2.2.2.2.1, v.2.2.2.2.2.2.1, zs, v.2.2.2.2.2.2.2.2) := by
  obtain ⟨h1, ⟨h2, h3, h4⟩, ⟨h5, h6, h7, h8⟩, h9, h10⟩ := h
  exact ⟨h1, ⟨(yDw_I4 _ _).trans h2, yBv_D h3, yBv_D h4⟩, ⟨(yDw_I4 _ _).trans h5, (yDw_I4 _ _).trans h6, (yDw_I4 _ _).trans h7, (yDw_I4 _ _).trans h8⟩, hg, yDv_w (fun e => h1.2.2.2.2 e.symm) h10⟩
theorem ySv_b {g : Nat → Int32} {n : Int32} (h : ySv Λ S s v) (hg : yDv (yDw S (yBa Λ s) g n) (yBa Λ s) zs) : ySv Λ (yDw S (yBa Λ s) g n) s (v.1, v.2.1, v.2.2.1, v.2.2.2.1, v.2.2.2.2.1, v.2.2.2.2.2.1, v.2.2.2.2.2.2.1, v.2.2.2.2.2.2.2.1, zs) := by
  obtain ⟨h1, ⟨h2, h3, h4⟩, ⟨h5, h6, h7, h8⟩, h9, h10⟩ := h
  exact ⟨h1, ⟨(yDw_I4 _ _).trans h2, yBv_D h3, yBv_D h4⟩, ⟨(yDw_I4 _ _).trans h5, (yDw_I4 _ _).trans h6, (yDw_I4 _ _).trans h7, (yDw_I4 _ _).trans h8⟩, yDv_w h1.2.2.2.2 h9, hg⟩
/-- what does not belong to t keeps a Step -/
theorem yAg_Sv (h : yAg Λ S S' t) (h1 : s ≠ t) (h2 : own Λ s ≠ t) (h3 : own Λ t ≠ s) (hv : ySv Λ S s v) : ySv Λ S' s v := by
  obtain ⟨k1, ⟨k2, k3, k4⟩, ⟨k5, k6, k7, k8⟩, k9, k10⟩ := hv
  have hk : ∀ b, own Λ b = s → b ≠ t ∧ own Λ b ≠ t := fun b q => ⟨fun e => h3 (by rw [← e]; exact q), by rw [q]; exact h1⟩
  obtain ⟨o1, o2, o3, o4⟩ := k1.2.2.1
  exact ⟨k1, ⟨(h 4 4 s h1 h2).1.trans k2, yAg_Bv h (hk _ o1).1 (hk _ o1).2 k3, yAg_Bv h (hk _ o2).1 (hk _ o2).2 k4⟩, ⟨(h 4 5 s h1 h2).1.trans k5, (h 4 6 s h1 h2).1.trans k6, (h 4 7 s h1 h2).1.trans k7, (h 4 8 s h1 h2).1.trans k8⟩, yAg_Dv h (hk _ o3).1 (hk _ o3).2 k9, yAg_Dv h (hk _ o4).1 (hk _ o4).2 k10⟩
theorem St_hasSource_sp (hv : ySv Λ S s v) (h : post (some (.int (if v.1 = 0 then 0 else 1))) (yH Λ f0 S)) : xSp xT0 (d + 1) j_St_hasSource [.ref s] (yH Λ f0 S) post := by
  refine xSp_of (M := m_St_hasSource) rfl (b_St_hasSource_0 (ygi hv.1.1 rfl ?_))
  rw [hv.2.1.1]
  refine ⟨fun c => ?_, fun c => ?_⟩
  · rw [if_pos c] at h; exact h
  · rw [if_neg c] at h; exact h
theorem St_hasTarget_sp (hv : ySv Λ S s v) (h : post (some (.int (if v.1 = 1 then 0 else 1))) (yH Λ f0 S)) : xSp xT0 (d + 1) j_St_hasTarget [.ref s] (yH Λ f0 S) post := by
  refine xSp_of (M := m_St_hasTarget) rfl (b_St_hasTarget_0 (ygi hv.1.1 rfl ?_))
  rw [hv.2.1.1]
  refine ⟨fun c => ?_, fun c => ?_⟩
  · rw [if_pos c] at h; exact h
  · rw [if_neg c] at h; exact h
theorem St_bringsTo_sp (hv : ySv Λ S s v) (hO : yB Λ o capo) (hw : yBv S o capo bs) (h : post (some (.int (if ¬ v.1 = 1 ∧ v.2.1 = bs then 1 else 0))) (yH Λ f0 S)) : xSp xT0 (d + 3) j_St_bringsTo [.ref s, .ref o] (yH Λ f0 S) post := by
  refine xSp_of (M := m_St_bringsTo) rfl (b_St_bringsTo_0 ⟨yex hv.1.1, St_hasTarget_sp hv ?_⟩)
  by_cases c : v.1 = 1
  · rw [if_pos c]
    rw [if_neg (fun z => z.1 c)] at h
    exact ⟨fun _ => h, fun z => absurd rfl z⟩
  · rw [if_neg c]
    refine ⟨fun z => absurd z (by decide), fun _ => ygr hv.1.1 rfl ⟨yex hv.1.2.1.1.1, By_equalTo_sp hv.1.2.1.1 hO hv.2.1.2.1 hw ?_⟩⟩
    by_cases e : v.2.1 = bs
    · rw [if_pos e]
      rw [if_pos ⟨c, e⟩] at h
      exact ⟨fun z => absurd z (by decide), fun _ => h⟩
    · rw [if_neg e]
      rw [if_neg (fun z => e z.2)] at h
      exact ⟨fun _ => h, fun z => absurd rfl z⟩
theorem St_takesFrom_sp (hv : ySv Λ S s v) (hO : yB Λ o capo) (hw : yBv S o capo bs) (h : post (some (.int (if ¬ v.1 = 0 ∧ v.2.2.1 = bs then 1 else 0))) (yH Λ f0 S)) : xSp xT0 (d + 3) j_St_takesFrom [.ref s, .ref o] (yH Λ f0 S) post := by
  refine xSp_of (M := m_St_takesFrom) rfl (b_St_takesFrom_0 ⟨yex hv.1.1, St_hasSource_sp hv ?_⟩)
  by_cases c : v.1 = 0
  · rw [if_pos c]
    rw [if_neg (fun z => z.1 c)] at h
    exact ⟨fun _ => h, fun z => absurd rfl z⟩
  · rw [if_neg c]
    refine ⟨fun z => absurd z (by decide), fun _ => ygr hv.1.1 rfl ⟨yex hv.1.2.1.2.1.1, By_equalTo_sp hv.1.2.1.2.1 hO hv.2.1.2.2 hw ?_⟩⟩
    by_cases e : v.2.2.1 = bs
    · rw [if_pos e]
      rw [if_pos ⟨c, e⟩] at h
      exact ⟨fun z => absurd z (by decide), fun _ => h⟩
    · rw [if_neg e]
      rw [if_neg (fun z => e z.2)] at h
      exact ⟨fun _ => h, fun z => absurd rfl z⟩
theorem St_isSource_sp (hv : ySv Λ S s v) (hO : yB Λ o capo) (hw : yBv S o capo bs) (h : post (some (.int (if nI bs.length = v.2.2.2.1 ∧ nI (sumB bs) = v.2.2.2.2.1 then 1 else 0))) (yH Λ f0 S)) : xSp xT0 (d + 2) j_St_isSource [.ref s, .ref o] (yH Λ f0 S) post := by
  refine xSp_of (M := m_St_isSource) rfl (b_St_isSource_0 ⟨yex hO.1, By_size_sp hO hw (ygi hv.1.1 rfl ?_)⟩)
  rw [hv.2.2.1.1]
  refine ⟨fun c => ?_, fun c => ⟨yex hO.1, By_sum_sp hO hw (ygi hv.1.1 rfl ?_)⟩⟩
  · rw [if_neg (fun z => c z.1)] at h
    exact h
  · rw [hv.2.2.1.2.1]
    refine ⟨fun c2 => ?_, fun c2 => ?_⟩
    · rw [if_neg (fun z => c2 z.2)] at h
      exact h
    · rw [if_pos ⟨Classical.not_not.mp c, Classical.not_not.mp c2⟩] at h
      exact h
theorem St_goesOnFrom_sp (hv : ySv Λ S s v) (hv' : ySv Λ S s' v') (h : post (some (.int (if v'.2.2.2.2.2.1 = v.2.2.2.1 ∧ v'.2.2.2.2.2.2.1 = v.2.2.2.2.1 then 1 else 0))) (yH Λ f0 S)) : xSp xT0 (d + 1) j_St_goesOnFrom [.ref s, .ref s'] (yH Λ f0 S) post := by
  refine xSp_of (M := m_St_goesOnFrom) rfl (b_St_goesOnFrom_0 (ygi hv'.1.1 rfl (ygi hv.1.1 rfl ?_)))
  rw [hv.2.2.1.1, hv'.2.2.1.2.2.1]
  refine ⟨fun c => ?_, fun c => ygi hv'.1.1 rfl (ygi hv.1.1 rfl ?_)⟩
  · rw [if_neg (fun z => c z.1)] at h
    exact h
  · rw [hv.2.2.1.2.1, hv'.2.2.1.2.2.2]
    refine ⟨fun c2 => ?_, fun c2 => ?_⟩
    · rw [if_neg (fun z => c2 z.2)] at h
      exact h
    · rw [if_pos ⟨Classical.not_not.mp c, Classical.not_not.mp c2⟩] at h
      exact h
/-- is the one behind the other in ORDER of PATH, of one PATH the DROP first -/
def behV (v w : Sv) : Bool := decide (0 < ordV v.2.1 w.2.1 ∨ (v.2.1 = w.2.1 ∧ ¬ v.1 = 1 ∧ w.1 = 1))
theorem gtI {z : Int} (h1 : -256 ≤ z) (h2 : z ≤ 256) : (0 : Int32) < Int32.ofInt z ↔ 0 < z := by
  rw [Int32.lt_iff_toInt_lt, Int32.toInt_ofInt_of_le (by omega) (by omega)]
  exact Iff.rfl
theorem eqI0 {z : Int} (h1 : -256 ≤ z) (h2 : z ≤ 256) : Int32.ofInt z = 0 ↔ z = 0 := by
  rw [← Int32.toInt_inj, Int32.toInt_ofInt_of_le (by omega) (by omega)]
  exact Iff.rfl
theorem St_isBehind_sp (hv : ySv Λ S s v) (hv' : ySv Λ S s' v') (h : post (some (.int (if behV v v' = true then 1 else 0))) (yH Λ f0 S)) : xSp xT0 (d + 2) j_St_isBehind [.ref s, .ref s'] (yH Λ f0 S) post := by
  refine xSp_of (M := m_St_isBehind) rfl (b_St_isBehind_0 (ygr hv.1.1 rfl (ygr hv'.1.1 rfl ⟨yex hv.1.2.1.1.1, By_order_sp hv.1.2.1.1 hv'.1.2.1.1 hv.2.1.2.1 hv'.2.1.2.1 ?_⟩)))
  have hb := ordV_yb hv.1.2.1.1.2.2 hv'.1.2.1.1.2.2 hv.2.1.2.1 hv'.2.1.2.1
  refine ⟨fun c => ?_, fun c => ⟨fun c2 => ?_, fun c2 => ygi hv.1.1 rfl ?_⟩⟩
  · have : behV v v' = true := decide_eq_true (Or.inl ((gtI hb.1 hb.2).mp c))
    rw [if_pos this] at h
    exact h
  · have : ¬ behV v v' = true := fun z => by
      rcases of_decide_eq_true z with z | z
      · exact c ((gtI hb.1 hb.2).mpr z)
      · exact c2 ((eqI0 hb.1 hb.2).mpr (ordV_0.mpr z.1))
    rw [if_neg this] at h
    exact h
  · have he : v.2.1 = v'.2.1 := ordV_0.mp ((eqI0 hb.1 hb.2).mp (Classical.not_not.mp c2))
    have hz : ¬ 0 < ordV v.2.1 v'.2.1 := fun q => c ((gtI hb.1 hb.2).mpr q)
    rw [hv.2.1.1]
    refine ⟨fun c3 => ?_, fun c3 => ygi hv'.1.1 rfl ?_⟩
    · have : ¬ behV v v' = true := fun z => (of_decide_eq_true z).elim hz (fun z => z.2.1 c3)
      rw [if_neg this] at h
      exact h
    · rw [hv'.2.1.1]
      refine ⟨fun c4 => ?_, fun c4 => ?_⟩
      · have : ¬ behV v v' = true := fun z => (of_decide_eq_true z).elim hz (fun z => c4 z.2.2)
        rw [if_neg this] at h
        exact h
      · have : behV v v' = true := decide_eq_true (Or.inr ⟨he, c3, Classical.not_not.mp c4⟩)
        rw [if_pos this] at h
        exact h
/-- what step(.., x) tells of a STEP -/
def tellS (v : Sv) (x : Int32) : Int32 := if x = 0 then v.1 else if x = 1 then v.2.2.2.1 else if x = 2 then v.2.2.2.2.1 else if x = 3 then v.2.2.2.2.2.1 else if x = 4 then v.2.2.2.2.2.2.1 else if x = 5 then nI v.2.1.length else if x = 6 then nI v.2.2.1.length else if x = 7 then nI (cntP v.2.2.2.2.2.2.2.1 v.2.2.2.2.2.2.2.1.length) else if x = 8 then nI (cntP v.2.2.2.2.2.2.2.2 v.2.2.2.2.2.2.2.2.length) else -1
theorem St_tell_sp (hv : ySv Λ S s v) (h : post (some (.int (tellS v x))) (yH Λ f0 S)) : xSp xT0 (d + 3) j_St_tell [.ref s, .int x] (yH Λ f0 S) post := by
  obtain ⟨h1, ⟨h2, h3, h4⟩, ⟨h5, h6, h7, h8⟩, h9, h10⟩ := hv
  unfold tellS at h
  refine xSp_of (M := m_St_tell) rfl (b_St_tell_0 ⟨fun c => ygi h1.1 rfl ?_, fun n0 => ⟨fun c => ygi h1.1 rfl ?_, fun n1 => ⟨fun c => ygi h1.1 rfl ?_, fun n2 => ⟨fun c => ygi h1.1 rfl ?_, fun n3 => ⟨fun c => ygi h1.1 rfl ?_, fun n4 => ⟨fun c => ygr h1.1 rfl ⟨yex h1.2.1.1.1, By_size_sp h1.2.1.1 h3 ?_⟩, fun n5 => ⟨fun c => ygr h1.1 rfl ⟨yex h1.2.1.2.1.1, By_size_sp h1.2.1.2.1 h4 ?_⟩, fun n6 => ⟨fun c => ygr h1.1 rfl ⟨yex h1.2.1.2.2.1.1, De_pieces_sp h1.2.1.2.2.1 h9 ?_⟩, fun n7 => ⟨fun c => ygr h1.1 rfl ⟨yex h1.2.1.2.2.2.1, De_pieces_sp h1.2.1.2.2.2 h10 ?_⟩, fun n8 => ?_⟩⟩⟩⟩⟩⟩⟩⟩⟩)
  · rw [if_pos c] at h; rw [h2]; exact h
  · rw [if_neg n0, if_pos c] at h; rw [h5]; exact h
  · rw [if_neg n0, if_neg n1, if_pos c] at h; rw [h6]; exact h
  · rw [if_neg n0, if_neg n1, if_neg n2, if_pos c] at h; rw [h7]; exact h
  · rw [if_neg n0, if_neg n1, if_neg n2, if_neg n3, if_pos c] at h; rw [h8]; exact h
  · rw [if_neg n0, if_neg n1, if_neg n2, if_neg n3, if_neg n4, if_pos c] at h; exact h
  · rw [if_neg n0, if_neg n1, if_neg n2, if_neg n3, if_neg n4, if_neg n5, if_pos c] at h; exact h
  · rw [if_neg n0, if_neg n1, if_neg n2, if_neg n3, if_neg n4, if_neg n5, if_neg n6, if_pos c] at h; exact h
  · rw [if_neg n0, if_neg n1, if_neg n2, if_neg n3, if_neg n4, if_neg n5, if_neg n6, if_neg n7, if_pos c] at h; exact h
  · rw [if_neg n0, if_neg n1, if_neg n2, if_neg n3, if_neg n4, if_neg n5, if_neg n6, if_neg n7, if_neg n8] at h; exact h
end
