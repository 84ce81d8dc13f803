/-! 7zu constructors: Patch, Listing, Disk, Differ -/
abbrev D00 : Dv := (fun _ => none, fun _ => [], 0, -1, 0, false)
section
variable {Λ Λ' Λ1 : yL} {f0 f0' f1 : xH} {S S' S1 : yS} {q r a b c j o t n d s : Nat} {fs : List Value} {U U' : Nat → Prop} {v : Sv} {post : Option Value → xH → Prop}
theorem yPq_E (e : Ey Λ S Λ' S') {vs : List Sv} {Q : Nat → Nat} (h : yPq Λ S t vs Q) : yPq Λ' S' t vs Q := by
  obtain ⟨⟨h1, h1'⟩, h2, h3, h4, h5, h6, h7, h8⟩ := h
  have k := (e t (tg_o h1)).2
  have ow : own Λ' t = own Λ t := own_E e h1
  refine ⟨⟨yo_E e h1, by rw [ref_E e h1]; exact yr_E e h1'⟩, fun i hi => ?_, h3, h4, by rw [(k 5 1).2.1]; exact h5, fun i hi => ySv_E e (h6 i hi), by rw [ow]; exact h7, fun i hi => by rw [ow]; exact h8 i hi⟩
  obtain ⟨a1, a2, v, a3⟩ := h2 i hi
  exact ⟨by rw [(k 5 0).2.2.2]; exact a1, (own_E e a3.1.1).trans a2, v, ySv_E e a3⟩
theorem ex_ne (hw : wfL Λ f0) (h : (Λ.1 a).1 ≠ 0 ∨ f0 a ≠ none) (hb : (Λ.1 b).1 = 0) (hn : f0 b = none) : a ≠ b := fun z => by
  rw [z] at h
  rcases h with h | h
  · exact h hb
  · exact h hn
theorem Pa_init_sp (R : Rq Λ f0 q 5 [.null, .int 0] (fun _ => False)) (o : Nat) (ho1 : (Λ.1 o).1 ≠ 0 ∨ f0 o ≠ none) (ho2 : o ≠ q) (hp : ∀ Λ' f0' S' Q, Cq Λ f0 S q Λ' f0' S' → yPq Λ' S' q [] Q → own Λ' q = o → post none (yH Λ' f0' S')) : xSp xT0 (d + 3) j_Pa_init [.ref q] (yH Λ f0 S) post := by
  refine xSp_of (M := m_Pa_init) rfl (b_Pa_init_0 ⟨⟨by omega, by omega⟩, rR R (by show 0 < 2; omega) id (fun r0 Λ1 f1 S1 C1 R1 n1 g1 q1 => ?_)⟩)
  have hlo : ∀ k, k ≤ 25 → (∀ Λ3 f3 S3 P, Cq Λ f0 S q Λ3 f3 S3 → Rq Λ3 f3 q 5 [.ref r0, .int 0] (fun i => i < 1) → yr Λ3 r0 5 0 q 5 25 → yR S3 5 0 q = Pk P k → (∀ i, i < k → ySv Λ3 S3 (P i) sv00 ∧ own Λ3 (P i) = q ∧ P i ≠ o) → injP P k → xWp (xT0, xSp xT0 (d + 2), none, m_Pa_init, post) 15 [some (.ref q), some (.int (nI k))] [] (yH Λ3 f3 S3) (1 + 9 * k) (25 + 273 * k)) := by
    refine loopUp ?_ ?_
    · intro Λ3 f3 S3 P C3 R3 n0 g0 hP iP
      refine b_Pa_init_15 ⟨fun _ => ?_, fun z => absurd ((ltI (a := 24) (b := 25) (by omega) (by omega)).mpr (by omega)) z⟩
      refine rF R3 (by show 1 < 2; omega) (fun f6 R6 C6 => ⟨⟨by omega, by omega⟩, rP (K := fun f => post none f) R6 o rfl (fun Λ7 S7 C7 h7 ho hr hi hk => ?_)⟩)
      have e0 : Λ7.2.1 5 0 q = r0 := hr 5 0
      have E := C7.2.1
      refine hp Λ7 f6 S7 P (Cq_tr C3 (Cq_tr C6 C7)) ⟨⟨h7, by rw [e0]; exact yr_E E n0⟩, fun i hi => ⟨?_, ?_, sv00, ySv_E E (hP i hi).1⟩, iP, Nat.zero_le _, hi 5 1, fun i hi => absurd hi (Nat.not_lt_zero _), by rw [ho]; exact ho2, fun i hi => by rw [ho]; exact fun z => (hP i hi).2.2 z.symm⟩ ho
      · rw [(hk 5 0 q).2, g0]; exact if_pos hi
      · rw [own_E E (hP i hi).1.1.1]; exact (hP i hi).2.1
    · intro k hk ih Λ3 f3 S3 P C3 R3 n0 g0 hP iP
      refine b_Pa_init_15 ⟨fun z => absurd ((ltI (a := 24) (b := k) (by omega) (by omega)).mp z) (by omega), fun _ => rG R3 r0 rfl ⟨⟨by omega, by omega⟩, rN R3.1 (fun b hb hbn Rb => ⟨⟨by omega, by omega⟩, St_init_sp Rb q (fun Λ4 f4 S4 C4 N4 ow4 => xvvI ?_)⟩)⟩⟩
      obtain ⟨R4, C4', k4⟩ := Rq_ch R3 hb hbn C4
      have n0 := yr_E C4'.2.1 n0
      refine rS (i := k) (g := Pk P k) R4 n0 hk (by omega) rfl N4.1.1 (by rw [(k4 5 0).2]; exact g0) (fun S5 C5 g5 q5 => ?_)
      rw [nI_1 k]
      have hbo : o ≠ b := ex_ne R3.1 (C3.2.2.2 o ho1) hb hbn
      have E := Ey_tr C4'.2.1 C5.2.1
      have := ih Λ4 f4 S5 (upP P k b) (Cq_tr C3 (Cq_tr C4' C5)) R4 n0 (by rw [g5, va_Pk]) (up_all (Q := fun x => ySv Λ4 S5 x sv00 ∧ own Λ4 x = q ∧ x ≠ o) (fun i hi => ⟨ySv_E E (hP i hi).1, (own_E E (hP i hi).1.1.1).trans (hP i hi).2.1, (hP i hi).2.2⟩) ⟨ySv_E C5.2.1 N4, ow4, fun z => hbo z.symm⟩) (up_inj iP (fun i hi => ne_raw (hP i hi).1.1.1 hb))
      rw [show 1 + 9 * (k + 1) = 1 + 9 * k + 9 by omega, show 25 + 273 * (k + 1) = 25 + 273 * k + 273 by omega] at this
      exact this
  exact hlo 0 (Nat.zero_le _) Λ1 f1 S1 (fun _ => 0) C1 (Rq_w R1 (fun i z => by rcases z with z | z; exact z.elim; omega)) n1 (by rw [g1]; exact Pk_0 _) (fun i hi => absurd hi (Nat.not_lt_zero _)) (fun i j hi => absurd hi (Nat.not_lt_zero _))
theorem yLv_E (e : Ey Λ S Λ' S') {P : Nat → Nat} {L : List Le} (h : yLv Λ S t P L) : yLv Λ' S' t P L := by
  obtain ⟨⟨⟨h1, h1', h1''⟩, h2, h3⟩, h4, h5, h6⟩ := h
  have k := (e t (tg_o h1)).2
  refine ⟨⟨⟨yo_E e h1, by rw [ref_E e h1]; exact yr_E e h1', by rw [ref_E e h1]; exact yn_E e h1''⟩, fun i hi => ?_, h3⟩, h4, by rw [(k 9 2).2.1]; exact h5, fun i hi => ?_⟩
  · obtain ⟨a1, a2, a3⟩ := h2 i hi
    exact ⟨by rw [(k 9 0).2.2.2]; exact a1, yB_E e a2, (own_E e a2.1).trans a3⟩
  · obtain ⟨-, a2, -⟩ := h2 i (by omega)
    exact ⟨yBv_E e a2.1 (h6 i hi).1, by rw [(k 9 1).2.2.1]; exact (h6 i hi).2.1, (h6 i hi).2.2⟩
theorem Li_init_sp (R : Rq Λ f0 q 9 [.null, .null, .int 0] (fun _ => False)) (o : Nat) (hp : ∀ Λ' f0' S' P, Cq Λ f0 S q Λ' f0' S' → yLv Λ' S' q P [] → own Λ' q = o → post none (yH Λ' f0' S')) : xSp xT0 (d + 2) j_Li_init [.ref q] (yH Λ f0 S) post := by
  refine xSp_of (M := m_Li_init) rfl (b_Li_init_0 ⟨⟨by omega, by omega⟩, rR R (by show 0 < 3; omega) id (fun r0 Λ1 f1 S1 C1 R1 n1 g1 q1 => ?_)⟩)
  have hlo : ∀ k, k ≤ 10 → (∀ Λ3 f3 S3 P, Cq Λ f0 S q Λ3 f3 S3 → Rq Λ3 f3 q 9 [.ref r0, .null, .int 0] (fun i => i < 1) → yr Λ3 r0 9 0 q 3 10 → yR S3 9 0 q = Pk P k → (∀ i, i < k → NB Λ3 S3 (P i) 17 q) → injP P k → xWp (xT0, xSp xT0 (d + 1), none, m_Li_init, post) 15 [some (.ref q), some (.int (nI k))] [] (yH Λ3 f3 S3) (1 + 2 * k) (10 + 82 * k)) := by
    refine loopUp ?_ ?_
    · intro Λ3 f3 S3 P C3 R3 n0 g0 hP iP
      refine b_Li_init_15 (brle (a := 10) (by omega) (by omega) (fun _ => ⟨⟨by omega, by omega⟩, rA R3 (by show 1 < 3; omega) (by omega) (fun r1 Λ4 f4 S4 C4 R4 n4 g4 q4 => rF R4 (by show 2 < 3; omega) (fun f6 R6 C6 => ⟨⟨by omega, by omega⟩, rP (K := fun f => post none f) R6 o rfl (fun Λ7 S7 C7 h7 ho hr hi hk => ?_)⟩))⟩) (fun z => by omega))
      have e0 : Λ7.2.1 9 0 q = r0 := hr 9 0
      have e1 : Λ7.2.1 9 1 q = r1 := hr 9 1
      have E := Ey_tr C4.2.1 C7.2.1
      refine hp Λ7 f6 S7 P (Cq_tr C3 (Cq_tr C4 (Cq_tr C6 C7))) ⟨⟨⟨h7, by rw [e0]; exact yr_E E n0, by rw [e1]; exact yn_E C7.2.1 n4⟩, fun i hi => ⟨?_, (NB_E E (hP i hi)).1, (NB_E E (hP i hi)).2.1⟩, iP⟩, Nat.zero_le _, hi 9 2, fun i hi => absurd hi (Nat.not_lt_zero _)⟩ ho
      rw [(hk 9 0 q).2, q4.2 9 0, g0]
      exact if_pos hi
    · intro k hk ih Λ3 f3 S3 P C3 R3 n0 g0 hP iP
      refine b_Li_init_15 (brle (a := 10) (by omega) (by omega) (fun z => by omega) (fun _ => rG R3 r0 rfl ⟨⟨by omega, by omega⟩, rN R3.1 (fun b hb hbn Rb => ⟨⟨by omega, by omega⟩, By_init_sp (n := 17) Rb (by omega) q (fun Λ4 f4 S4 C4 N4 => xvvI ?_)⟩)⟩))
      obtain ⟨R4, C4', k4⟩ := Rq_ch R3 hb hbn C4
      have n0 := yr_E C4'.2.1 n0
      refine rS (i := k) (g := Pk P k) R4 n0 hk (by omega) rfl N4.1.1 (by rw [(k4 9 0).2]; exact g0) (fun S5 C5 g5 q5 => ?_)
      rw [nI_1 k]
      have E := Ey_tr C4'.2.1 C5.2.1
      have := ih Λ4 f4 S5 (upP P k b) (Cq_tr C3 (Cq_tr C4' C5)) R4 n0 (by rw [g5, va_Pk]) (up_all (Q := fun x => NB Λ4 S5 x 17 q) (fun i hi => NB_E E (hP i hi)) (NB_E C5.2.1 N4)) (up_inj iP (fun i hi => ne_raw (hP i hi).1.1 hb))
      rw [show 1 + 2 * (k + 1) = 1 + 2 * k + 2 by omega, show 10 + 82 * (k + 1) = 10 + 82 * k + 82 by omega] at this
      exact this
  exact hlo 0 (Nat.zero_le _) Λ1 f1 S1 (fun _ => 0) C1 (Rq_w R1 (fun i z => by rcases z with z | z; exact z.elim; omega)) n1 (by rw [g1]; exact Pk_0 _) (fun i hi => absurd hi (Nat.not_lt_zero _)) (fun i j hi => absurd hi (Nat.not_lt_zero _))
theorem yKv_E (e : Ey Λ S Λ' S') {C Lx : Nat → Nat} {PL : Nat → Nat → Nat} {D : Dv} (h : yKv Λ S t C Lx PL D) : yKv Λ' S' t C Lx PL D := by
  obtain ⟨⟨⟨h1, d1, d2, d3, d4⟩, a2, a3, a4, a5⟩, b1, b2, f1, f2, f3, f4, f5⟩ := h
  have k := (e t (tg_o h1)).2
  refine ⟨⟨⟨yo_E e h1, by rw [ref_E e h1]; exact yr_E e d1, by rw [ref_E e h1]; exact yn_E e d2, by rw [ref_E e h1]; exact yr_E e d3, by rw [ref_E e h1]; exact yn_E e d4⟩, fun s hs => ?_, a3, fun i hi => ?_, a5⟩, fun s hs => ?_, fun i hi => yLv_E e (b2 i hi), f1, ?_, ?_, ?_, ?_⟩
  · obtain ⟨x1, x2, x3⟩ := a2 s hs
    exact ⟨by rw [(k 10 0).2.2.2]; exact x1, yB_E e x2, (own_E e x2.1).trans x3⟩
  · obtain ⟨x1, x2, x3⟩ := a4 i hi
    exact ⟨by rw [(k 10 2).2.2.2]; exact x1, (own_E e x3).trans x2, yo_E e x3⟩
  · obtain ⟨-, x2, -⟩ := a2 s hs
    exact ⟨yBv_E e x2.1 (b1 s hs).1, by rw [(k 10 1).2.2.1]; exact (b1 s hs).2⟩
  · rw [(k 10 4).2.1]; exact f2
  · rw [(k 10 5).2.1]; exact f3
  · rw [(k 10 6).2.1]; exact f4
  · rw [(k 10 7).2.1]; exact f5
theorem Dk_init_sp (R : Rq Λ f0 q 10 [.null, .null, .null, .null, .int 0, .int 0, .int 0, .int 0] (fun _ => False)) (o : Nat) (hp : ∀ Λ' f0' S' C Lx PL, Cq Λ f0 S q Λ' f0' S' → yKv Λ' S' q C Lx PL D00 → own Λ' q = o → post none (yH Λ' f0' S')) : xSp xT0 (d + 3) j_Dk_init [.ref q] (yH Λ f0 S) post := by
  refine xSp_of (M := m_Dk_init) rfl (b_Dk_init_0 ⟨⟨by omega, by omega⟩, rR R (by show 0 < 8; omega) id (fun r0 Λ1 f1 S1 C1 R1 n1 g1 q1 => ?_)⟩)
  have hlo : ∀ k, k ≤ 30 → (∀ Λ3 f3 S3 P, Cq Λ f0 S q Λ3 f3 S3 → Rq Λ3 f3 q 10 [.ref r0, .null, .null, .null, .int 0, .int 0, .int 0, .int 0] (fun i => i < 1) → yr Λ3 r0 10 0 q 3 30 → yR S3 10 0 q = Pk P k → (∀ i, i < k → NB Λ3 S3 (P i) 48 q) → injP P k → xWp (xT0, xSp xT0 (d + 2), none, m_Dk_init, post) 15 [some (.ref q), some (.int (nI k))] [] (yH Λ3 f3 S3) (1 + 2 * k) (30 + 82 * k)) := by
    refine loopUp ?_ ?_
    · intro Λ3 f3 S3 P C3 R3 n0 g0 hP iP
      refine b_Dk_init_15 (brle (a := 30) (by omega) (by omega) (fun _ => ⟨⟨by omega, by omega⟩, rA R3 (by show 1 < 8; omega) (by omega) (fun r1 Λ4 f4 S4 C4 R4 n4 g4 q4 => ⟨⟨by omega, by omega⟩, rR R4 (by show 2 < 8; omega) (by omega) (fun r2 Λ5 f5 S5 C5 R5 n5 g5 q5 => rG R5 r2 rfl ⟨⟨by omega, by omega⟩, rN R5.1 (fun b hb hbn Rb => ⟨⟨by omega, by omega⟩, Li_init_sp Rb q (fun Λ6 f6 S6 P0 C6 N6 ow6 => xvvI ?_)⟩)⟩)⟩)⟩) (fun z => by omega))
      obtain ⟨R6, C6', k6⟩ := Rq_ch R5 hb hbn C6
      have n5 := yr_E C6'.2.1 n5
      refine rS (i := 0) (g := Pk (fun _ => 0) 0) R6 n5 (by omega) (by omega) rfl N6.1.1.1 (by rw [(k6 10 2).2, g5]; exact Pk_0 _) (fun S7 C7 g7 q7 => rG R6 r2 rfl ⟨⟨by omega, by omega⟩, rN R6.1 (fun b' hb' hbn' Rb' => ⟨⟨by omega, by omega⟩, Li_init_sp Rb' q (fun Λ8 f8 S8 P1 C8 N8 ow8 => xvvI ?_)⟩)⟩)
      obtain ⟨R8, C8', k8⟩ := Rq_ch R6 hb' hbn' C8
      have n5 := yr_E C8'.2.1 n5
      have N6 := yLv_E C7.2.1 N6
      have hbb : b ≠ b' := ne_raw N6.1.1.1 hb'
      rw [va_Pk] at g7
      refine rS (i := 1) (g := Pk (upP (fun _ => 0) 0 b) 1) R8 n5 (by omega) (by omega) rfl N8.1.1.1 (by rw [(k8 10 2).2]; exact g7) (fun S9 C9 g9 q9 => ⟨⟨by omega, by omega⟩, rA R8 (by show 3 < 8; omega) (fun z => by rcases z with (z | z) | z <;> omega) (fun r3 Λ10 f10 S10 C10 R10 n10 g10 q10 => rF R10 (by show 4 < 8; omega) (fun f11 R11 C11 => rF R11 (by show 5 < 8; omega) (fun f12 R12 C12 => rF R12 (by show 6 < 8; omega) (fun f13 R13 C13 => rF R13 (by show 7 < 8; omega) (fun f14 R14 C14 => ⟨⟨by omega, by omega⟩, rP (K := fun f => post none f) R14 o rfl (fun Λ15 S15 C15 h15 ho hr hi hk => ?_)⟩)))))⟩)
      rw [va_Pk] at g9
      have e0 : Λ15.2.1 10 0 q = r0 := hr 10 0
      have e1 : Λ15.2.1 10 1 q = r1 := hr 10 1
      have e2 : Λ15.2.1 10 2 q = r2 := hr 10 2
      have e3 : Λ15.2.1 10 3 q = r3 := hr 10 3
      have E9 := Ey_tr C9.2.1 (Ey_tr C10.2.1 C15.2.1)
      have E8 := Ey_tr C8'.2.1 E9
      have E6 := Ey_tr C6'.2.1 (Ey_tr C7.2.1 E8)
      have E4 := Ey_tr C5.2.1 E6
      have E := Ey_tr C4.2.1 E4
      have M6 := yLv_E E8 N6
      have M8 := yLv_E E9 N8
      refine hp Λ15 f14 S15 P (upP (upP (fun _ => 0) 0 b) 1 b') (fun i => if i = 0 then P0 else P1) (Cq_tr C3 (Cq_tr C4 (Cq_tr C5 (Cq_tr C6' (Cq_tr C7 (Cq_tr C8' (Cq_tr C9 (Cq_tr C10 (Cq_tr C11 (Cq_tr C12 (Cq_tr C13 (Cq_tr C14 C15)))))))))))) ⟨⟨⟨h15, by rw [e0]; exact yr_E E n0, by rw [e1]; exact yn_E E4 n4, by rw [e2]; exact yr_E E9 n5, by rw [e3]; exact yn_E C15.2.1 n10⟩, fun s hs => ⟨?_, (NB_E E (hP s hs)).1, (NB_E E (hP s hs)).2.1⟩, iP, fun i hi => ?_, ?_⟩, fun s hs => ⟨(NB_E E (hP s hs)).2.2, ?_⟩, fun i hi => ?_, by show 0 < 2; omega, hi 10 4, hi 10 5, hi 10 6, hi 10 7⟩ ho
      · rw [(hk 10 0 q).2, q10.2 10 0, q9.1 10 0 (by omega), (k8 10 0).2, q7.1 10 0 (by omega), (k6 10 0).2, q5.1 10 0 (by omega), q4.2 10 0, g0]
        exact if_pos hs
      · rw [(hk 10 2 q).2, q10.2 10 2, g9]
        refine ⟨if_pos hi, ?_⟩
        have hi2 : i = 0 ∨ i = 1 := by omega
        rcases hi2 with h | h
        · subst h
          show own Λ15 b = q ∧ yo Λ15 b 9
          exact ⟨(own_E E8 N6.1.1.1).trans ((own_E C7.2.1 (show yo Λ6 b 9 from N6.1.1.1)).trans ow6), M6.1.1.1⟩
        · subst h
          show own Λ15 b' = q ∧ yo Λ15 b' 9
          exact ⟨(own_E E9 N8.1.1.1).trans ow8, M8.1.1.1⟩
      · show b ≠ b'
        exact hbb
      · rw [(hk 10 1 q).1, q10.1 10 1 (by omega), q9.2 10 1, (k8 10 1).1, q7.2 10 1, (k6 10 1).1, q5.2 10 1, g4]
        rfl
      · have hi2 : i = 0 ∨ i = 1 := by omega
        rcases hi2 with h | h
        · subst h; exact M6
        · subst h; exact M8
    · intro k hk ih Λ3 f3 S3 P C3 R3 n0 g0 hP iP
      refine b_Dk_init_15 (brle (a := 30) (by omega) (by omega) (fun z => by omega) (fun _ => rG R3 r0 rfl ⟨⟨by omega, by omega⟩, rN R3.1 (fun b hb hbn Rb => ⟨⟨by omega, by omega⟩, By_init_sp (n := 48) Rb (by omega) q (fun Λ4 f4 S4 C4 N4 => xvvI ?_)⟩)⟩))
      obtain ⟨R4, C4', k4⟩ := Rq_ch R3 hb hbn C4
      have n0 := yr_E C4'.2.1 n0
      refine rS (i := k) (g := Pk P k) R4 n0 hk (by omega) rfl N4.1.1 (by rw [(k4 10 0).2]; exact g0) (fun S5 C5 g5 q5 => ?_)
      rw [nI_1 k]
      have E := Ey_tr C4'.2.1 C5.2.1
      have := ih Λ4 f4 S5 (upP P k b) (Cq_tr C3 (Cq_tr C4' C5)) R4 n0 (by rw [g5, va_Pk]) (up_all (Q := fun x => NB Λ4 S5 x 48 q) (fun i hi => NB_E E (hP i hi)) (NB_E C5.2.1 N4)) (up_inj iP (fun i hi => ne_raw (hP i hi).1.1 hb))
      rw [show 1 + 2 * (k + 1) = 1 + 2 * k + 2 by omega, show 30 + 82 * (k + 1) = 30 + 82 * k + 82 by omega] at this
      exact this
  exact hlo 0 (Nat.zero_le _) Λ1 f1 S1 (fun _ => 0) C1 (Rq_w R1 (fun i z => by rcases z with z | z; exact z.elim; omega)) n1 (by rw [g1]; exact Pk_0 _) (fun i hi => absurd hi (Nat.not_lt_zero _)) (fun i j hi => absurd hi (Nat.not_lt_zero _))
end
