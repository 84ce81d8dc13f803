/-! 7zv constructors: Differ, PatchChains -/
abbrev B00 : Ab := ([], [], [], [], [], D00)
section
variable {Λ Λ' Λ1 : yL} {f0 f0' f1 : xH} {S S' S1 : yS} {q r a b c j o t n d s : Nat} {fs : List Value} {U U' : Nat → Prop} {v : Sv} {K : xH → Prop} {post : Option Value → xH → Prop}
/-- an array of rows -/
theorem rMk {w : Nat → Nat} {N : Nat} (R : Rq Λ f0 q c fs U) (hu : ∀ i, 100 ≤ i → ¬ U i) (hw : ∀ i, i < N → yH Λ f0 S (w i) = none) (hi : ∀ i j, i < N → j < N → w i = w j → i = j) (m : Nat) : ∀ k, k ≤ N → ∃ Λ1 S1, (fun a => if a ∈ (List.range k).map w then some (xI 0 m (fun _ => 0)) else yH Λ f0 S a) = yH Λ1 f0 S1 ∧ Cq Λ f0 S q Λ1 f0 S1 ∧ Rq Λ1 f0 q c fs (fun i => U i ∨ (100 ≤ i ∧ i < 100 + k)) ∧ (∀ i, i < k → yn Λ1 (w i) c (100 + i) q 0 m) ∧ (∀ c' j', yR S1 c' j' q = yR S c' j' q) ∧ ∀ a, (Λ.1 a).1 = 0 → f0 a = none → (∀ i, i < k → w i ≠ a) → (Λ1.1 a).1 = 0
  | 0, _ => ⟨Λ, S, by funext a; rfl, Cq_rf R.1, Rq_w R (fun i z => Or.inl z), fun i hi => absurd hi (Nat.not_lt_zero _), fun _ _ => rfl, fun a h _ _ => h⟩
  | k + 1, hk => by
    obtain ⟨Λ1, S1, e1, C1, R1, n1, g1, fr1⟩ := rMk R hu hw hi m k (by omega)
    obtain ⟨z1, z2⟩ := yH_none R.1 (hw k (by omega))
    have hraw := fr1 (w k) z1 z2 (fun i hik z => by have := hi i k (by omega) (by omega) z; omega)
    have hu1 : ¬ (U (100 + k) ∨ (100 ≤ 100 + k ∧ 100 + k < 100 + k)) := fun z => by
      rcases z with z | z
      · exact hu _ (by omega) z
      · omega
    obtain ⟨hrq, R2, C2⟩ := Cq_N (S := S1) (S' := ywA S1 c (100 + k) q (fun _ => 0)) (t := 0) (n := m) R1 hu1 hraw z2 (Or.inl rfl) rfl (fun c' j' a ha => yA_n _ _ (fun z => ha z.2.2)) (fun _ _ _ _ => rfl)
    refine ⟨lyN Λ1 (w k) 2 c (100 + k) q 0 m, ywA S1 c (100 + k) q (fun _ => 0), ?_, Cq_tr C1 C2, Rq_w R2 (fun i z => by rcases z with (z | z) | z; exact Or.inl z; exact Or.inr (by omega); exact Or.inr (by omega)), fun i hik => ?_, fun c' j' => g1 c' j', fun a h h2 h3 => ?_⟩
    · rw [← yH_N hraw (fresh_k R1 hu1 (Or.inl rfl)), ← e1]
      funext a
      by_cases c1 : a = w k
      · rw [c1, xup_s, if_pos]
        exact List.mem_map.mpr ⟨k, List.mem_range.mpr (by omega), rfl⟩
      · rw [xup_n _ _ c1]
        have : (a ∈ (List.range (k + 1)).map w) ↔ a ∈ (List.range k).map w := by
          rw [List.range_succ, List.map_append, List.mem_append]
          exact ⟨fun z => z.elim id (fun z => absurd (List.mem_singleton.mp z) c1), Or.inl⟩
        by_cases c2 : a ∈ (List.range k).map w
        · rw [if_pos c2, if_pos (this.mpr c2)]
        · rw [if_neg c2, if_neg (fun z => c2 (this.mp z))]
    · by_cases c1 : i = k
      · rw [c1]; exact ⟨if_pos rfl, if_pos rfl, if_pos rfl⟩
      · exact yn_E C2.2.1 (n1 i (by omega))
    · rw [lyN_n (fun z => h3 k (by omega) z.symm)]
      exact fr1 a h h2 (fun i hik => h3 i (by omega))
theorem rM {N m : Nat} (R : Rq Λ f0 q c fs U) (hj : j < fs.length) (hj2 : j < 100) (hu0 : ¬ U j) (hu : ∀ i, 100 ≤ i → ¬ U i) (h : ∀ r w Λ' f0' S', Cq Λ f0 S q Λ' f0' S' → Rq Λ' f0' q c (fs.set j (.ref r)) (fun i => (U i ∨ 100 ≤ i) ∨ i = j) → yr Λ' r c j q t N → yR S' c j q = Pk w N → (∀ i, i < N → yn Λ' (w i) c (100 + i) q 0 m) → K (yH Λ' f0' S')) : xnm (yH Λ f0 S) t N m (fun r w f1 => xpf f1 q c j (.ref r) K) := by
  intro r w hr hw hi
  obtain ⟨Λ1, S1, e1, C1, R1, n1, g1, fr1⟩ := rMk R hu (fun i hi => (hw i hi).1) hi m N (Nat.le_refl _)
  obtain ⟨z1, z2⟩ := yH_none R.1 hr
  have hraw := fr1 r z1 z2 (fun i hi => (hw i hi).2)
  have hu1 : ¬ (U j ∨ (100 ≤ j ∧ j < 100 + N)) := fun z => by
    rcases z with z | z
    · exact hu0 z
    · omega
  have em : xmu t (yH Λ f0 S) r w N m = xup (yH Λ1 f0 S1) r (xR t N (Pk w N)) := by
    rw [← e1]
    funext a
    unfold xmu
    by_cases c1 : a = r
    · rw [if_pos c1, c1, xup_s]; rfl
    · rw [if_neg c1, xup_n _ _ c1]
  rw [em]
  obtain ⟨hrq, R2, C2⟩ := Cq_N (S := S1) (S' := ywR S1 c j q (Pk w N)) (t := t) (n := N) R1 hu1 hraw z2 (Or.inr rfl) rfl (fun _ _ _ _ => rfl) (fun c' j' a ha => ywR_ne _ _ (fun z => ha z.2.2))
  rw [yH_NR hraw (fresh_k R1 hu1 (Or.inr rfl))]
  exact rF R2 hj (fun f0' R3 C3 => h r w _ f0' _ (Cq_tr C1 (Cq_tr C2 C3)) (Rq_w R3 (fun i z => by rcases z with (z | z) | z; exact Or.inl (Or.inl z); exact Or.inl (Or.inr z.1); exact Or.inr z)) ⟨if_pos rfl, if_pos rfl, if_pos rfl⟩ (ywR_s _ _ _ _ _) (fun i hi => yn_E C2.2.1 (n1 i hi)))
theorem yWe_E (e : Ey Λ S Λ' S') (h : yWe Λ t) : yWe Λ' t := by
  obtain ⟨h1, a1, a2, a3, a4⟩ := h
  have r : ∀ j, Λ'.2.1 6 j t = Λ.2.1 6 j t := fun j => ref_E e h1 6 j
  unfold yWe
  rw [r 0, r 1, r 2, r 3]
  exact ⟨yo_E e h1, yn_E e a1, yn_E e a2, yn_E e a3, yn_E e a4⟩
theorem yDf_E (e : Ey Λ S Λ' S') (h : yDf Λ t) : yDf Λ' t := by
  obtain ⟨h1, a1, a2, a3, a4, a5⟩ := h
  have r : ∀ j, Λ'.2.1 7 j t = Λ.2.1 7 j t := fun j => ref_E e h1 7 j
  unfold yDf
  rw [r 0, r 1, r 2, r 3, r 4]
  exact ⟨yo_E e h1, yWe_E e a1, yn_E e a2, yn_E e a3, yr_E e a4, yn_E e a5⟩
theorem yDl_E (e : Ey Λ S Λ' S') (h1 : yo Λ t c) (h : yDl Λ S t) : yDl Λ' S' t := fun j hj => by
  obtain ⟨r, a1, a2⟩ := h j hj
  exact ⟨r, by rw [((e t (tg_o h1)).2 7 3).2.2.2]; exact a1, yn_E e a2⟩
theorem yAp_E (e : Ey Λ S Λ' S') (h : yAp Λ t) : yAp Λ' t := by
  obtain ⟨h1, a1, a2, a3, a4, a5⟩ := h
  have r : ∀ j, Λ'.2.1 8 j t = Λ.2.1 8 j t := fun j => ref_E e h1 8 j
  unfold yAp yMb
  rw [r 0, r 1, r 2, r 3]
  exact ⟨yo_E e h1, yn_E e a1, yn_E e a2, yn_E e a3, yB_E e a4, (own_E e a4.1).trans a5⟩
theorem yCf_E (e : Ey Λ S Λ' S') (h1 : yo Λ t c) {cl : List (Nat × Nat)} (h : yCf S t cl) : yCf S' t cl := by
  have k := (e t (tg_o h1)).2
  exact ⟨h.1, by rw [(k 8 4).2.1]; exact h.2.1, fun i hi => by rw [(k 8 1).2.2.1, (k 8 2).2.2.1]; exact h.2.2 i hi⟩
theorem Di_init_sp (R : Rq Λ f0 q 7 [.null, .null, .null, .null, .null] (fun _ => False)) (o : Nat) (hp : ∀ Λ' f0' S', Cq Λ f0 S q Λ' f0' S' → yDf Λ' q → own Λ' q = o → yDl Λ' S' q → post none (yH Λ' f0' S')) : xSp xT0 (d + 2) j_Di_init [.ref q] (yH Λ f0 S) post := by
  refine xSp_of (M := m_Di_init) rfl (b_Di_init_0 ⟨⟨by omega, by omega⟩, rN R.1 (fun b hb hbn Rb => ⟨⟨by omega, by omega⟩, We_init_sp Rb q (fun Λ1 f1 S1 C1 N1 => xvvI ?_)⟩)⟩)
  obtain ⟨R1, C1', -⟩ := Rq_ch R hb hbn C1
  refine rF R1 (by show 0 < 5; omega) (fun f2 R2 C2 => ⟨⟨by omega, by omega⟩, rA R2 (by show 1 < 5; omega) id (fun r3 Λ3 f3 S3 C3 R3 n3 _ _ => ⟨⟨by omega, by omega⟩, rA R3 (by show 2 < 5; omega) (fun z => by rcases z with z | z; exact z; omega) (fun r4 Λ4 f4 S4 C4 R4 n4 _ _ => ⟨⟨by omega, by omega⟩, rM R4 (by show 3 < 5; omega) (by omega) (fun z => by rcases z with (z | z) | z; exact z; omega; omega) (fun i hi z => by rcases z with (z | z) | z; exact z; omega; omega) (fun r5 w Λ5 f5 S5 C5 R5 n5 g5 y5 => ⟨⟨by omega, by omega⟩, rA R5 (by show 4 < 5; omega) (fun z => by rcases z with (((z | z) | z) | z) | z; exact z; omega; omega; omega; omega) (fun r6 Λ6 f6 S6 C6 R6 n6 _ q6 => ⟨⟨by omega, by omega⟩, rP (K := fun f => post none f) R6 o rfl (fun Λ7 S7 C7 h7 ho hr hi hk => ?_)⟩)⟩)⟩)⟩)⟩)
  have e0 : Λ7.2.1 7 0 q = b := hr 7 0
  have e1 : Λ7.2.1 7 1 q = r3 := hr 7 1
  have e2 : Λ7.2.1 7 2 q = r4 := hr 7 2
  have e3 : Λ7.2.1 7 3 q = r5 := hr 7 3
  have e4 : Λ7.2.1 7 4 q = r6 := hr 7 4
  have E5 := Ey_tr C6.2.1 C7.2.1
  have E4 := Ey_tr C5.2.1 E5
  have E3 := Ey_tr C4.2.1 E4
  have E1 := Ey_tr C2.2.1 (Ey_tr C3.2.1 E3)
  refine hp Λ7 f6 S7 (Cq_tr C1' (Cq_tr C2 (Cq_tr C3 (Cq_tr C4 (Cq_tr C5 (Cq_tr C6 C7)))))) ?_ ho (fun j hj => ⟨w j, ?_, yn_E E5 (y5 j hj)⟩)
  · unfold yDf
    rw [e0, e1, e2, e3, e4]
    exact ⟨h7, yWe_E E1 N1, yn_E E3 n3, yn_E E4 n4, yr_E E5 n5, yn_E C7.2.1 n6⟩
  · rw [(hk 7 3 q).2, q6.2 7 3, g5]
    exact if_pos hj
/-- the object, new -/
def NX (Λ : yL) (S : yS) (x : Nat) (T P C Lx : Nat → Nat) (PL : Nat → Nat → Nat) : Prop := yLay Λ x T P ∧ QB Λ S x [] [] ∧ QT Λ S x T [] ∧ QP Λ S x P [] ∧ yDl Λ S (xq4 Λ x) ∧ yCf S (xq5 Λ x) [] ∧ yKv Λ S (xq6 Λ x) C Lx PL D00
theorem PC_init_sp (R : Rq Λ f0 q 0 [.null, .null, .null, .null, .null, .null, .null, .int 0, .int 0] (fun _ => False)) (hp : ∀ Λ' f0' S' T P C Lx PL, Cq Λ f0 S q Λ' f0' S' → NX Λ' S' q T P C Lx PL → post none (yH Λ' f0' S')) : xSp xT0 (d + 4) j_PC_init [.ref q] (yH Λ f0 S) post := by
  refine xSp_of (M := m_PC_init) rfl (b_PC_init_0 ⟨⟨by omega, by omega⟩, rN R.1 (fun b1 hb1 hn1 Rb1 => ⟨⟨by omega, by omega⟩, By_init_sp (n := 80) Rb1 (by omega) q (fun Λ1 f1 S1 C1 N1 => xvvI ?_)⟩)⟩)
  obtain ⟨R1, C1', -⟩ := Rq_ch R hb1 hn1 C1
  refine rF R1 (by show 0 < 9; omega) (fun f2 R2 C2 => ⟨⟨by omega, by omega⟩, rN R2.1 (fun b2 hb2 hn2 Rb2 => ⟨⟨by omega, by omega⟩, By_init_sp (n := 17) Rb2 (by omega) q (fun Λ3 f3 S3 C3 N3 => xvvI ?_)⟩)⟩)
  obtain ⟨R3, C3', -⟩ := Rq_ch R2 hb2 hn2 C3
  have hne : b1 ≠ b2 := ne_raw N1.1.1 hb2
  have N1 := NB_E C3'.2.1 (NB_E C2.2.1 N1)
  refine rF R3 (by show 1 < 9; omega) (fun f4 R4 C4 => ⟨⟨by omega, by omega⟩, rR R4 (by show 2 < 9; omega) id (fun r2 Λ5 f5 S5 C5 R5 n5 g5 q5 => ?_)⟩)
  have N1 := NB_E C5.2.1 N1
  have N3 := NB_E C5.2.1 N3
  have hC5 := Cq_tr C1' (Cq_tr C2 (Cq_tr C3' (Cq_tr C4 C5)))
  -- patches
  have hl2 : ∀ r3 T, injP T 12 → ∀ k, k ≤ 8 → (∀ Λ6 f6 S6 P, Cq Λ f0 S q Λ6 f6 S6 → Rq Λ6 f6 q 0 [.ref b1, .ref b2, .ref r2, .ref r3, .null, .null, .null, .int 0, .int 0] (fun i => i < 4) → NB Λ6 S6 b1 80 q → NB Λ6 S6 b2 17 q → yr Λ6 r2 0 2 q 4 12 → yR S6 0 2 q = Pk T 12 → (∀ i, i < 12 → yTv Λ6 S6 (T i) [] ∧ own Λ6 (T i) = q) → yr Λ6 r3 0 3 q 6 8 → yR S6 0 3 q = Pk P k → (∀ i, i < k → (∃ Q, yPq Λ6 S6 (P i) [] Q) ∧ own Λ6 (P i) = q ∧ yo Λ6 (P i) 5) → injP P k → xWp (xT0, xSp xT0 (d + 3), none, m_PC_init, post) 77 [some (.ref q), some (.int (nI k))] [] (yH Λ6 f6 S6) (546 + 227 * k) (21136 + 6852 * k)) := by
    intro r3 T iT
    refine loopUp ?_ ?_
    · intro Λ6 f6 S6 P C6 R6 M1 M2 n2 g2 hT n3 g3 hP iP
      refine b_PC_init_77 (brle (a := 8) (by omega) (by omega) (fun _ => ⟨⟨by omega, by omega⟩, rN R6.1 (fun b3 hb3 hn3 Rb3 => ⟨⟨by omega, by omega⟩, Di_init_sp Rb3 q (fun Λ7 f7 S7 C7 D7 ow7 L7 => xvvI ?_)⟩)⟩) (fun z => by omega))
      obtain ⟨R7, C7', k7⟩ := Rq_ch R6 hb3 hn3 C7
      refine rF R7 (by show 4 < 9; omega) (fun f8 R8 C8 => ⟨⟨by omega, by omega⟩, rN R8.1 (fun b4 hb4 hn4 Rb4 => ⟨⟨by omega, by omega⟩, Ap_init_sp Rb4 q (fun Λ9 f9 S9 C9 A9 ow9 F9 => xvvI ?_)⟩)⟩)
      obtain ⟨R9, C9', k9⟩ := Rq_ch R8 hb4 hn4 C9
      refine rF R9 (by show 5 < 9; omega) (fun f10 R10 C10 => ⟨⟨by omega, by omega⟩, rN R10.1 (fun b5 hb5 hn5 Rb5 => ⟨⟨by omega, by omega⟩, Dk_init_sp Rb5 q (fun Λ11 f11 S11 Cc Lx PL C11 V11 ow11 => xvvI ?_)⟩)⟩)
      obtain ⟨R11, C11', k11⟩ := Rq_ch R10 hb5 hn5 C11
      refine rF R11 (by show 6 < 9; omega) (fun f12 R12 C12 => rF R12 (by show 7 < 9; omega) (fun f13 R13 C13 => rF R13 (by show 8 < 9; omega) (fun f14 R14 C14 => ⟨⟨by omega, by omega⟩, rP (K := fun f => post none f) R14 q rfl (fun Λ15 S15 C15 h15 ho hr hi hk => ?_)⟩)))
      have hqr := R14.2.1
      have e0 : Λ15.2.1 0 0 q = b1 := hr 0 0
      have e1 : Λ15.2.1 0 1 q = b2 := hr 0 1
      have e2 : Λ15.2.1 0 2 q = r2 := hr 0 2
      have e3 : Λ15.2.1 0 3 q = r3 := hr 0 3
      have e4 : Λ15.2.1 0 4 q = b3 := hr 0 4
      have e5 : Λ15.2.1 0 5 q = b4 := hr 0 5
      have e6 : Λ15.2.1 0 6 q = b5 := hr 0 6
      have E9 := Ey_tr C11'.2.1 C15.2.1
      have E7 := Ey_tr C9'.2.1 E9
      have E6 := Ey_tr C7'.2.1 E7
      have M1' := NB_E E6 M1
      have M2' := NB_E E6 M2
      have D7' := yDf_E E7 D7
      have A9' := yAp_E E9 A9
      have V11' := yKv_E C15.2.1 V11
      refine hp Λ15 f14 S15 T P Cc Lx PL (Cq_tr C6 (Cq_tr C7' (Cq_tr C8 (Cq_tr C9' (Cq_tr C10 (Cq_tr C11' (Cq_tr C12 (Cq_tr C13 (Cq_tr C14 C15))))))))) ⟨?_, ?_, ?_, ?_, ?_, ?_, ?_⟩
      · unfold yLay xq0 xq1 xq4 xq5 xq6
        rw [e0, e1, e2, e3, e4, e5, e6]
        refine ⟨C15.1.1, ⟨h15, ho⟩, ⟨M1'.1, M1'.2.1, ne_raw M1.1.1 R6.2.1⟩, ⟨M2'.1, M2'.2.1, ne_raw M2.1.1 R6.2.1⟩, hne, ⟨yr_E E6 n2, yr_E E6 n3⟩, ⟨D7', (own_E E7 D7.1).trans ow7, ne_raw D7.1 R7.2.1⟩, ⟨A9', (own_E E9 A9.1).trans ow9, ne_raw A9.1 R9.2.1⟩, ⟨V11'.1.1, (own_E C15.2.1 V11.1.1.1).trans ow11, ne_raw V11.1.1.1 R11.2.1⟩, fun i hi => ⟨⟨?_, ne_raw (hT i hi).1.1.1 R6.2.1⟩, yo_E E6 (hT i hi).1.1.1⟩, iT, fun i hi => ⟨⟨?_, ne_raw (hP i hi).2.2 R6.2.1⟩, yo_E E6 (hP i hi).2.2⟩, iP⟩
        · rw [own_E E6 (hT i hi).1.1.1]; exact (hT i hi).2
        · rw [own_E E6 (hP i hi).2.2]; exact (hP i hi).2.1
      · unfold QB xq0 xq1
        rw [e0, e1]
        exact ⟨M1'.2.2, M2'.2.2⟩
      · refine ⟨fun i hi => ⟨?_, [], yTv_E E6 (hT i hi).1⟩, Nat.zero_le _, hi 0 7, fun i hi => absurd hi (Nat.not_lt_zero _)⟩
        rw [(hk 0 2 q).2, (k11 0 2).2, (k9 0 2).2, (k7 0 2).2, g2]
        exact if_pos hi
      · refine ⟨fun i hi => ⟨?_, ?_⟩, Nat.zero_le _, hi 0 8, fun i hi => absurd hi (Nat.not_lt_zero _)⟩
        · rw [(hk 0 3 q).2, (k11 0 3).2, (k9 0 3).2, (k7 0 3).2, g3]
          exact if_pos hi
        · obtain ⟨Q, hQ⟩ := (hP i hi).1
          exact ⟨[], Q, yPq_E E6 hQ⟩
      · unfold xq4
        rw [e4]
        exact yDl_E E7 D7.1 L7
      · unfold xq5
        rw [e5]
        exact yCf_E E9 A9.1 F9
      · unfold xq6
        rw [e6]
        exact V11'
    · intro k hk ih Λ6 f6 S6 P C6 R6 M1 M2 n2 g2 hT n3 g3 hP iP
      refine b_PC_init_77 (brle (a := 8) (by omega) (by omega) (fun z => by omega) (fun _ => rG R6 r3 rfl ⟨⟨by omega, by omega⟩, rN R6.1 (fun b hb hbn Rb => ⟨⟨by omega, by omega⟩, Pa_init_sp Rb q (Or.inr ?_) ?_ (fun Λ7 f7 S7 Q C7 N7 ow7 => xvvI ?_)⟩)⟩))
      · have : q ≠ b := fun z => by rw [← z, R6.2.2.1] at hbn; cases hbn
        rw [xup_n _ _ this, R6.2.2.1]
        exact fun z => by cases z
      · exact fun z => by rw [← z, R6.2.2.1] at hbn; cases hbn
      · obtain ⟨R7, C7', k7⟩ := Rq_ch R6 hb hbn C7
        have n3 := yr_E C7'.2.1 n3
        refine rS (i := k) (g := Pk P k) R7 n3 hk (by omega) rfl N7.1.1 (by rw [(k7 0 3).2]; exact g3) (fun S8 C8 g8 q8 => ?_)
        rw [nI_1 k]
        have E := Ey_tr C7'.2.1 C8.2.1
        have := ih Λ7 f7 S8 (upP P k b) (Cq_tr C6 (Cq_tr C7' C8)) R7 (NB_E E M1) (NB_E E M2) (yr_E C7'.2.1 n2) (by rw [q8.1 0 2 (by omega), (k7 0 2).2]; exact g2) (fun i hi => ⟨yTv_E E (hT i hi).1, (own_E E (hT i hi).1.1.1).trans (hT i hi).2⟩) n3 (by rw [g8, va_Pk]) (up_all (Q := fun x => (∃ Q, yPq Λ7 S8 x [] Q) ∧ own Λ7 x = q ∧ yo Λ7 x 5) (fun i hi => ⟨(hP i hi).1.imp (fun Q hQ => yPq_E E hQ), (own_E E (hP i hi).2.2).trans (hP i hi).2.1, yo_E E (hP i hi).2.2⟩) ⟨⟨Q, yPq_E C8.2.1 N7⟩, ow7, N7.1.1⟩) (up_inj iP (fun i hi => ne_raw (hP i hi).2.2 hb))
        rw [show 546 + 227 * (k + 1) = 546 + 227 * k + 227 by omega, show 21136 + 6852 * (k + 1) = 21136 + 6852 * k + 6852 by omega] at this
        exact this
  -- trees
  have hl1 : ∀ k, k ≤ 12 → (∀ Λ6 f6 S6 T, Cq Λ f0 S q Λ6 f6 S6 → Rq Λ6 f6 q 0 [.ref b1, .ref b2, .ref r2, .null, .null, .null, .null, .int 0, .int 0] (fun i => i < 3) → NB Λ6 S6 b1 80 q → NB Λ6 S6 b2 17 q → yr Λ6 r2 0 2 q 4 12 → yR S6 0 2 q = Pk T k → (∀ i, i < k → yTv Λ6 S6 (T i) [] ∧ own Λ6 (T i) = q) → injP T k → xWp (xT0, xSp xT0 (d + 3), none, m_PC_init, post) 41 [some (.ref q), some (.int (nI k))] [] (yH Λ6 f6 S6) (5 + 45 * k) (176 + 1746 * k)) := by
    refine loopUp ?_ ?_
    · intro Λ6 f6 S6 T C6 R6 M1 M2 n2 g2 hT iT
      refine b_PC_init_41 (brle (a := 12) (by omega) (by omega) (fun _ => ⟨⟨by omega, by omega⟩, rR R6 (by show 3 < 9; omega) (by omega) (fun r3 Λ7 f7 S7 C7 R7 n7 g7 q7 => ?_)⟩) (fun z => by omega))
      exact hl2 r3 T iT 0 (Nat.zero_le _) Λ7 f7 S7 (fun _ => 0) (Cq_tr C6 C7) (Rq_w R7 (fun i z => by omega)) (NB_E C7.2.1 M1) (NB_E C7.2.1 M2) (yr_E C7.2.1 n2) (by rw [q7.1 0 2 (by omega)]; exact g2) (fun i hi => ⟨yTv_E C7.2.1 (hT i hi).1, (own_E C7.2.1 (hT i hi).1.1.1).trans (hT i hi).2⟩) n7 (by rw [g7]; exact Pk_0 _) (fun i hi => absurd hi (Nat.not_lt_zero _)) (fun i j hi => absurd hi (Nat.not_lt_zero _))
    · intro k hk ih Λ6 f6 S6 T C6 R6 M1 M2 n2 g2 hT iT
      refine b_PC_init_41 (brle (a := 12) (by omega) (by omega) (fun z => by omega) (fun _ => rG R6 r2 rfl ⟨⟨by omega, by omega⟩, rN R6.1 (fun b hb hbn Rb => ⟨⟨by omega, by omega⟩, Tr_init_sp Rb q (fun Λ7 f7 S7 C7 N7 ow7 => xvvI ?_)⟩)⟩))
      obtain ⟨R7, C7', k7⟩ := Rq_ch R6 hb hbn C7
      have n2 := yr_E C7'.2.1 n2
      refine rS (i := k) (g := Pk T k) R7 n2 hk (by omega) rfl N7.1.1 (by rw [(k7 0 2).2]; exact g2) (fun S8 C8 g8 q8 => ?_)
      rw [nI_1 k]
      have E := Ey_tr C7'.2.1 C8.2.1
      have := ih Λ7 f7 S8 (upP T k b) (Cq_tr C6 (Cq_tr C7' C8)) R7 (NB_E E M1) (NB_E E M2) n2 (by rw [g8, va_Pk]) (up_all (Q := fun x => yTv Λ7 S8 x [] ∧ own Λ7 x = q) (fun i hi => ⟨yTv_E E (hT i hi).1, (own_E E (hT i hi).1.1.1).trans (hT i hi).2⟩) ⟨yTv_E C8.2.1 N7, ow7⟩) (up_inj iT (fun i hi => ne_raw (hT i hi).1.1.1 hb))
      rw [show 5 + 45 * (k + 1) = 5 + 45 * k + 45 by omega, show 176 + 1746 * (k + 1) = 176 + 1746 * k + 1746 by omega] at this
      exact this
  exact hl1 0 (Nat.zero_le _) Λ5 f5 S5 (fun _ => 0) hC5 (Rq_w R5 (fun i z => by rcases z with z | z; exact z.elim; omega)) N1 N3 n5 (by rw [g5]; exact Pk_0 _) (fun i hi => absurd hi (Nat.not_lt_zero _)) (fun i j hi => absurd hi (Nat.not_lt_zero _))
end
