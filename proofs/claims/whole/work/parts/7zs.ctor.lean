/-! 7zs constructors: Bytes, Delta, Step, Weaver, Applier -/
section
variable {Λ Λ' Λ1 : yL} {f0 f0' f1 : xH} {S S' S1 : yS} {q r a b c j o t n d : Nat} {fs : List Value} {U U' : Nat → Prop} {post : Option Value → xH → Prop}
-- what is laid out stays
theorem tg_o (h : yo Λ a c) : (Λ.1 a).1 ≠ 0 := by obtain ⟨x, y, h⟩ := h; rw [h]; exact (by decide : ¬ (1 : Nat) = 0)
theorem tg_n (h : yn Λ r c j o t n) : (Λ.1 r).1 ≠ 0 := by rw [h.1]; exact (by decide : ¬ (2 : Nat) = 0)
theorem tg_r (h : yr Λ r c j o t n) : (Λ.1 r).1 ≠ 0 := by rw [h.1]; exact (by decide : ¬ (3 : Nat) = 0)
theorem yo_E (e : Ey Λ S Λ' S') (h : yo Λ a c) : yo Λ' a c := by
  have := (e a (tg_o h)).1.1
  obtain ⟨x, y, h⟩ := h
  exact ⟨x, y, by rw [this]; exact h⟩
theorem yn_E (e : Ey Λ S Λ' S') (h : yn Λ r c j o t n) : yn Λ' r c j o t n := by
  have := (e r (tg_n h)).1
  exact ⟨by rw [this.1]; exact h.1, by rw [this.2.2]; exact h.2.1, by rw [this.2.1]; exact h.2.2⟩
theorem yr_E (e : Ey Λ S Λ' S') (h : yr Λ r c j o t n) : yr Λ' r c j o t n := by
  have := (e r (tg_r h)).1
  exact ⟨by rw [this.1]; exact h.1, by rw [this.2.2]; exact h.2.1, by rw [this.2.1]; exact h.2.2⟩
theorem own_E (e : Ey Λ S Λ' S') (h : yo Λ a c) : own Λ' a = own Λ a := by unfold own; rw [(e a (tg_o h)).1.1]
theorem ref_E (e : Ey Λ S Λ' S') (h : yo Λ a c) (c' j' : Nat) : Λ'.2.1 c' j' a = Λ.2.1 c' j' a := ((e a (tg_o h)).2 c' j').1
theorem yB_E (e : Ey Λ S Λ' S') (h : yB Λ a n) : yB Λ' a n := ⟨yo_E e h.1, by rw [ref_E e h.1]; exact yn_E e h.2.1, h.2.2⟩
theorem yBv_E (e : Ey Λ S Λ' S') (h : yo Λ a c) {bs : List Nat} (hv : yBv S a n bs) : yBv S' a n bs := by
  have := (e a (tg_o h)).2
  exact ⟨hv.1, by rw [(this 1 1).2.1]; exact hv.2.1, fun k hk => by rw [(this 1 0).2.2.1]; exact hv.2.2 k hk⟩
theorem yD_E (e : Ey Λ S Λ' S') (h : yD Λ a) : yD Λ' a := ⟨yo_E e h.1, by rw [ref_E e h.1]; exact yn_E e h.2⟩
theorem yDv_E (e : Ey Λ S Λ' S') (h : yo Λ a c) {zs : List Int32} (hv : yDv S a zs) : yDv S' a zs := by
  have := (e a (tg_o h)).2
  exact ⟨hv.1, by rw [(this 3 1).2.1]; exact hv.2.1, fun k hk => by rw [(this 3 0).2.2.1]; exact hv.2.2 k hk⟩
def NB (Λ : yL) (S : yS) (a n o : Nat) : Prop := yB Λ a n ∧ own Λ a = o ∧ yBv S a n []
theorem NB_E (e : Ey Λ S Λ' S') (h : NB Λ S a n o) : NB Λ' S' a n o := ⟨yB_E e h.1, (own_E e h.1.1).trans h.2.1, yBv_E e h.1.1 h.2.2⟩
def ND (Λ : yL) (S : yS) (a o : Nat) : Prop := yD Λ a ∧ own Λ a = o ∧ yDv S a []
theorem ND_E (e : Ey Λ S Λ' S') (h : ND Λ S a o) : ND Λ' S' a o := ⟨yD_E e h.1, (own_E e h.1.1).trans h.2.1, yDv_E e h.1.1 h.2.2⟩
theorem l_By_init_0 : xlk (xm_cd m_By_init) 0 = some (.aload_n 0, 1, (0, 0, 0, [])) := rfl
theorem l_By_init_1 : xlk (xm_cd m_By_init) 1 = some (.invokespecial 3, 3, (102, 0, 0, [(2, 0)])) := rfl
theorem l_By_init_4 : xlk (xm_cd m_By_init) 4 = some (.aload_n 0, 1, (0, 0, 0, [])) := rfl
theorem l_By_init_5 : xlk (xm_cd m_By_init) 5 = some (.iload_n 1, 1, (0, 0, 0, [])) := rfl
theorem l_By_init_6 : xlk (xm_cd m_By_init) 6 = some (.iconst 0, 1, (0, 0, 0, [])) := rfl
theorem l_By_init_7 : xlk (xm_cd m_By_init) 7 = some (.invokestatic 9, 3, (103, 0, 0, [(2, 1)])) := rfl
theorem l_By_init_10 : xlk (xm_cd m_By_init) 10 = some (.newarray .int, 2, (110, 0, 0, [])) := rfl
theorem l_By_init_12 : xlk (xm_cd m_By_init) 12 = some (.putfield 15, 3, (106, 1, 0, [(0, 1)])) := rfl
theorem l_By_init_15 : xlk (xm_cd m_By_init) 15 = some (.aload_n 0, 1, (0, 0, 0, [])) := rfl
theorem l_By_init_16 : xlk (xm_cd m_By_init) 16 = some (.iconst 0, 1, (0, 0, 0, [])) := rfl
theorem l_By_init_17 : xlk (xm_cd m_By_init) 17 = some (.putfield 21, 3, (107, 1, 1, [(0, 0)])) := rfl
theorem l_By_init_20 : xlk (xm_cd m_By_init) 20 = some (.return_, 1, (0, 0, 0, [])) := rfl
theorem By_init_sp (R : Rq Λ f0 q 1 [.null, .int 0] (fun _ => False)) (hn : n ≤ 80) (o : Nat) (hp : ∀ Λ' f0' S', Cq Λ f0 S q Λ' f0' S' → NB Λ' S' q n o → post none (yH Λ' f0' S')) : xSp xT0 (d + 1) j_By_init [.ref q, .int (nI n)] (yH Λ f0 S) post := by
  refine xSp_of (M := m_By_init) rfl ?_
  have hmx : (if nI n < 0 then (0 : Int32) else nI n) = nI n := if_neg (fun z => absurd ((ltI (b := 0) (by omega) (by omega)).mp z) (Nat.not_lt_zero _))
  refine s_aln l_By_init_0 rfl (s_spo l_By_init_1 (Nat.le_of_ble_eq_true rfl) (s_aln l_By_init_4 rfl (s_iln l_By_init_5 rfl (s_ic 0 l_By_init_6 rfl (s_max l_By_init_7 (Nat.le_of_ble_eq_true rfl) ⟨Nat.zero_le _, Nat.zero_le _⟩ ?_)))))
  rw [hmx]
  refine s_na n l_By_init_10 (nI_clamp (by omega)) (fun z => absurd ((ltI (b := 0) (by omega) (by omega)).mp z) (Nat.not_lt_zero _)) (by omega) (by show 0 + 1 ≤ 1; omega) (by show 0 + n ≤ 80; omega) (rA (j := 0) (t := 0) (n := n) R (by show 0 < 2; omega) id (K := fun f => xpf f q 1 1 (.int 0) (fun f4 => post none f4)) (fun r1 Λ1 f1 S1 C1 R1 n1 _ _ => rF R1 (by show 1 < 2; omega) (fun f2 R2 C2 => rP (K := fun f => post none f) R2 o rfl (fun Λ3 S3 C3 h3 ho hr hi _ => hp Λ3 f2 S3 (Cq_tr C1 (Cq_tr C2 C3)) ⟨⟨h3, ?_, hn⟩, ho, Nat.zero_le _, hi 1 1, fun k hk => absurd hk (Nat.not_lt_zero _)⟩)))) (fun r1 f1 h => ?_)
  · rw [hr 1 0]
    exact yn_E C3.2.1 (yn_E C2.2.1 n1)
  · exact s_pf l_By_init_12 (Or.inr ⟨_, rfl⟩) h (fun f2 h => s_aln l_By_init_15 rfl (s_ic 0 l_By_init_16 rfl (s_pf l_By_init_17 ⟨_, rfl⟩ h (fun f3 h => s_ret l_By_init_20 ⟨by show 0 + 1 ≤ 1; omega, by show 0 + n ≤ 80; omega⟩ h))))
theorem De_init_sp (R : Rq Λ f0 q 3 [.null, .int 0] (fun _ => False)) (o : Nat) (hp : ∀ Λ' f0' S', Cq Λ f0 S q Λ' f0' S' → ND Λ' S' q o → post none (yH Λ' f0' S')) : xSp xT0 (d + 1) j_De_init [.ref q] (yH Λ f0 S) post := by
  refine xSp_of (M := m_De_init) rfl (b_De_init_0 ⟨⟨by omega, by omega⟩, rA R (by show 0 < 2; omega) id (fun r1 Λ1 f1 S1 C1 R1 n1 _ _ => rF R1 (by show 1 < 2; omega) (fun f2 R2 C2 => ⟨⟨by omega, by omega⟩, rP (K := fun f => post none f) R2 o rfl (fun Λ3 S3 C3 h3 ho hr hi _ => hp Λ3 f2 S3 (Cq_tr C1 (Cq_tr C2 C3)) ⟨⟨h3, ?_⟩, ho, Nat.zero_le _, hi 3 1, fun k hk => absurd hk (Nat.not_lt_zero _)⟩)⟩))⟩)
  rw [hr 3 0]
  exact yn_E C3.2.1 (yn_E C2.2.1 n1)
theorem We_init_sp (R : Rq Λ f0 q 6 [.null, .null, .null, .null] (fun _ => False)) (o : Nat) (hp : ∀ Λ' f0' S', Cq Λ f0 S q Λ' f0' S' → yWe Λ' q → post none (yH Λ' f0' S')) : xSp xT0 (d + 1) j_We_init [.ref q] (yH Λ f0 S) post := by
  refine xSp_of (M := m_We_init) rfl (b_We_init_0 ⟨⟨by omega, by omega⟩, rA R (by show 0 < 4; omega) id (fun r1 Λ1 f1 S1 C1 R1 n1 _ _ => ⟨⟨by omega, by omega⟩, rA R1 (by show 1 < 4; omega) (fun z => by rcases z with z | z; exact z; omega) (fun r2 Λ2 f2 S2 C2 R2 n2 _ _ => ⟨⟨by omega, by omega⟩, rA R2 (by show 2 < 4; omega) (fun z => by rcases z with (z | z) | z; exact z; omega; omega) (fun r3 Λ3 f3 S3 C3 R3 n3 _ _ => ⟨⟨by omega, by omega⟩, rA R3 (by show 3 < 4; omega) (fun z => by rcases z with ((z | z) | z) | z; exact z; omega; omega; omega) (fun r4 Λ4 f4 S4 C4 R4 n4 _ _ => ⟨⟨by omega, by omega⟩, rP (K := fun f => post none f) R4 o rfl (fun Λ5 S5 C5 h5 ho hr hi _ => hp Λ5 f4 S5 (Cq_tr C1 (Cq_tr C2 (Cq_tr C3 (Cq_tr C4 C5)))) ⟨h5, ?_, ?_, ?_, ?_⟩)⟩)⟩)⟩)⟩)⟩)
  · rw [hr 6 0]
    exact yn_E C5.2.1 (yn_E C4.2.1 (yn_E C3.2.1 (yn_E C2.2.1 n1)))
  · rw [hr 6 1]
    exact yn_E C5.2.1 (yn_E C4.2.1 (yn_E C3.2.1 n2))
  · rw [hr 6 2]
    exact yn_E C5.2.1 (yn_E C4.2.1 n3)
  · rw [hr 6 3]
    exact yn_E C5.2.1 n4
theorem Ap_init_sp (R : Rq Λ f0 q 8 [.null, .null, .null, .null, .int 0] (fun _ => False)) (o : Nat) (hp : ∀ Λ' f0' S', Cq Λ f0 S q Λ' f0' S' → yAp Λ' q → own Λ' q = o → yCf S' q [] → post none (yH Λ' f0' S')) : xSp xT0 (d + 2) j_Ap_init [.ref q] (yH Λ f0 S) post := by
  refine xSp_of (M := m_Ap_init) rfl (b_Ap_init_0 ⟨⟨by omega, by omega⟩, rA R (by show 0 < 5; omega) id (fun r1 Λ1 f1 S1 C1 R1 n1 _ _ => ⟨⟨by omega, by omega⟩, rA R1 (by show 1 < 5; omega) (fun z => by rcases z with z | z; exact z; omega) (fun r2 Λ2 f2 S2 C2 R2 n2 _ _ => ⟨⟨by omega, by omega⟩, rA R2 (by show 2 < 5; omega) (fun z => by rcases z with (z | z) | z; exact z; omega; omega) (fun r3 Λ3 f3 S3 C3 R3 n3 _ _ => ⟨⟨by omega, by omega⟩, rN R3.1 (fun b hb hbn Rb => ⟨⟨by omega, by omega⟩, By_init_sp (n := 48) Rb (by omega) q (fun Λ4 f4 S4 C4 N4 => xvvI ?_)⟩)⟩)⟩)⟩)⟩)
  obtain ⟨R4, C4', -⟩ := Rq_ch R3 hb hbn C4
  refine rF R4 (by show 3 < 5; omega) (fun f5 R5 C5 => rF R5 (by show 4 < 5; omega) (fun f6 R6 C6 => ⟨⟨by omega, by omega⟩, rP (K := fun f => post none f) R6 o rfl (fun Λ7 S7 C7 h7 ho hr hi _ => hp Λ7 f6 S7 (Cq_tr C1 (Cq_tr C2 (Cq_tr C3 (Cq_tr C4' (Cq_tr C5 (Cq_tr C6 C7)))))) ⟨h7, ?_, ?_, ?_, ?_, ?_⟩ ho ⟨Nat.zero_le _, hi 8 4, fun k hk => absurd hk (Nat.not_lt_zero _)⟩)⟩))
  · rw [hr 8 0]
    exact yn_E C7.2.1 (yn_E C4'.2.1 (yn_E C3.2.1 (yn_E C2.2.1 n1)))
  · rw [hr 8 1]
    exact yn_E C7.2.1 (yn_E C4'.2.1 (yn_E C3.2.1 n2))
  · rw [hr 8 2]
    exact yn_E C7.2.1 (yn_E C4'.2.1 n3)
  · show yB Λ7 (Λ7.2.1 8 3 q) 48
    rw [hr 8 3]
    exact yB_E C7.2.1 N4.1
  · show own Λ7 (Λ7.2.1 8 3 q) = q
    rw [hr 8 3]
    exact (own_E C7.2.1 N4.1.1).trans N4.2.1
end
