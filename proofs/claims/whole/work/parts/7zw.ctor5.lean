/-! 7zw constructors: the other object -/
section
variable {Λ Λ' Λ1 : yL} {f0 f0' f1 : xH} {S S' S1 : yS} {q r a b c j o t n d s J : Nat} {fs : List Value} {K : xH → Prop} {L : List (Nat × Nat × Nat)} {iv : Nat → Int32} {post : Option Value → xH → Prop}
/-- what is made of it so far -/
def moQ (Λ : yL) (f0 : xH) (S : yS) (q : Nat) (L : List (Nat × Nat × Nat)) (iv : Nat → Int32) (J : Nat) : Prop := ∃ fs : List Value, Rq Λ f0 q 11 fs (fun i => i < J) ∧ fs.length = 48 ∧ (∀ e, e ∈ L → e.1 < J ∧ (∃ r, fs[e.1]? = some (Value.ref r) ∧ yn Λ r 11 e.1 q e.2.1 e.2.2) ∧ yA S 11 e.1 q = fun _ => 0) ∧ ∀ i, (ftg 11)[i]? = some false → fs[i]? = some (Value.int (iv i))
theorem rAM (h : moQ Λ f0 S q L iv J) (hJ : J ≤ j) (hj : j < 48) (ht : (ftg 11)[j]? = some true) (hp : ∀ Λ' f0' S', Cq Λ f0 S q Λ' f0' S' → moQ Λ' f0' S' q ((j, t, n) :: L) iv (j + 1) → K (yH Λ' f0' S')) : xnw (yH Λ f0 S) (xI t n (fun _ => 0)) (fun r f1 => xpf f1 q 11 j (.ref r) K) := by
  obtain ⟨fs, R, hl, hL, hi⟩ := h
  refine rA R (by omega) (by omega) (fun r Λ' f0' S' C' R' n' g' q' => hp Λ' f0' S' C' ⟨fs.set j (.ref r), Rq_w R' (fun i z => by omega), by rw [List.length_set]; exact hl, fun e he => ?_, fun i hf => ?_⟩)
  · rcases List.mem_cons.mp he with e1 | he
    · rw [e1]
      exact ⟨by show j < j + 1; omega, ⟨r, by show (fs.set j _)[j]? = _; rw [List.getElem?_set_self (by omega)], n'⟩, g'⟩
    · obtain ⟨h1, ⟨r', h2, h3⟩, h4⟩ := hL e he
      exact ⟨by omega, ⟨r', by rw [List.getElem?_set_ne (by omega)]; exact h2, yn_E C'.2.1 h3⟩, by rw [q'.1 11 e.1 (by omega)]; exact h4⟩
  · have : j ≠ i := fun z => by rw [← z, ht] at hf; cases hf
    rw [List.getElem?_set_ne this]
    exact hi i hf
theorem rIM {v : Int32} (h : moQ Λ f0 S q L iv J) (hj : j < 48) (ht : (ftg 11)[j]? = some false) (hp : ∀ f0', Cq Λ f0 S q Λ f0' S → moQ Λ f0' S q L (fun i => if i = j then v else iv i) J → K (yH Λ f0' S)) : xpf (yH Λ f0 S) q 11 j (.int v) K := by
  obtain ⟨fs, R, hl, hL, hi⟩ := h
  refine rF R (by omega) (fun f0' R' C' => hp f0' C' ⟨fs.set j (.int v), R', by rw [List.length_set]; exact hl, fun e he => ?_, fun i hf => ?_⟩)
  · obtain ⟨h1, ⟨r', h2, h3⟩, h4⟩ := hL e he
    have : j ≠ e.1 := fun z => ?_
    · exact ⟨h1, ⟨r', by rw [List.getElem?_set_ne this]; exact h2, h3⟩, h4⟩
    · have := hi j ht
      rw [z, h2] at this
      cases this
  · by_cases c : i = j
    · rw [c, List.getElem?_set_self (by omega)]
      show _ = some (Value.int (if j = j then v else iv j))
      rw [if_pos rfl]
    · rw [List.getElem?_set_ne (fun z => c z.symm)]
      show _ = some (Value.int (if i = j then v else iv i))
      rw [if_neg c]
      exact hi i hf
abbrev moL : List (Nat × Nat × Nat) := [(47, 0, 10), (42, 0, 2), (41, 0, 20), (40, 0, 20), (39, 2, 360), (38, 0, 30), (37, 2, 1440), (36, 1, 240), (35, 2, 1200), (33, 0, 24), (32, 0, 24), (31, 1, 24), (28, 0, 10), (27, 0, 10), (26, 0, 2500), (25, 0, 50), (24, 0, 50), (22, 0, 9), (21, 0, 10560), (20, 0, 10560), (19, 0, 220), (18, 0, 220), (17, 0, 220), (16, 0, 220), (15, 0, 220), (14, 2, 3960), (13, 0, 220), (12, 2, 3960), (11, 0, 220), (9, 0, 13), (8, 0, 130), (7, 2, 6240), (6, 0, 130), (5, 2, 2340), (3, 2, 18), (1, 2, 100)]
theorem moL_all : ∀ i, i < 48 → (ftg 11)[i]? = some true → ∃ e, e ∈ moL ∧ e.1 = i := by decide
theorem rPM (h : moQ Λ f0 S q moL iv J) (hp : ∀ Λ' S', Cq Λ f0 S q Λ' f0 S' → yo Λ' q 11 → own Λ' q = q → (∀ e, e ∈ moL → yn Λ' (Λ'.2.1 11 e.1 q) 11 e.1 q e.2.1 e.2.2 ∧ yA S' 11 e.1 q = fun _ => 0) → (∀ i, (ftg 11)[i]? = some false → yI S' 11 i q = iv i) → K (yH Λ' f0 S')) : K (yH Λ f0 S) := by
  obtain ⟨fs, R, hl, hL, hi⟩ := h
  refine rP R q ?_ (fun Λ' S' C' h' ho hr hv hk => hp Λ' S' C' h' ho (fun e he => ?_) (fun i hf => ?_))
  · refine List.ext_getElem? (fun i => ?_)
    rw [List.getElem?_mapIdx]
    cases hf : (ftg 11)[i]? with
    | none =>
      have h48 : (ftg 11).length = 48 := rfl
      have := List.getElem?_eq_none_iff.mp hf
      rw [List.getElem?_eq_none (by omega)]
      rfl
    | some b =>
      have hlt : i < 48 := (List.getElem?_eq_some_iff.mp hf).1
      cases b with
      | false =>
        have h1 := hi i hf
        show fs[i]? = some (.int (itD fs i))
        unfold itD
        rw [h1]
      | true =>
        obtain ⟨e, he, e1⟩ := moL_all i hlt hf
        obtain ⟨-, ⟨r, h2, -⟩, -⟩ := hL e he
        rw [e1] at h2
        show fs[i]? = some (.ref (rfD fs i))
        unfold rfD
        rw [h2]
  · obtain ⟨-, ⟨r, h2, h3⟩, h4⟩ := hL e he
    have : Λ'.2.1 11 e.1 q = r := by
      rw [hr 11 e.1]
      unfold rfD
      rw [h2]
    rw [this]
    exact ⟨yn_E C'.2.1 h3, by rw [(hk 11 e.1 q).1]; exact h4⟩
  · rw [hv 11 i]
    unfold itD
    rw [hi i hf]
theorem mo_ini : ∀ i, i < 48 → (ftg 11)[i]? = some false → ([.int 0, .null, .int 0, .null, .int 0, .null, .null, .null, .null, .null, .int 0, .null, .null, .null, .null, .null, .null, .null, .null, .null, .null, .null, .null, .int 0, .null, .null, .null, .null, .null, .int 0, .int 0, .null, .null, .null, .int 0, .null, .null, .null, .null, .null, .null, .null, .null, .int 0, .int 0, .int 0, .int 0, .null] : List Value)[i]? = some (.int 0) := by decide
theorem Mo_init_sp (R : Rq Λ f0 q 11 [.int 0, .null, .int 0, .null, .int 0, .null, .null, .null, .null, .null, .int 0, .null, .null, .null, .null, .null, .null, .null, .null, .null, .null, .null, .null, .int 0, .null, .null, .null, .null, .null, .int 0, .int 0, .null, .null, .null, .int 0, .null, .null, .null, .null, .null, .null, .null, .null, .int 0, .int 0, .int 0, .int 0, .null] (fun _ => False)) (hp : ∀ Λ' f0' S', Cq Λ f0 S q Λ' f0' S' → mQ Λ' S' q B00 → post none (yH Λ' f0' S')) : xSp xT0 (d + 1) j_Mo_init [.ref q] (yH Λ f0 S) post := by
  have Q0 : moQ Λ f0 S q [] (fun _ => 0) 0 := ⟨_, Rq_w R (fun i z => z.elim), rfl, fun e he => absurd he (List.not_mem_nil), fun i hf => (mo_ini i (List.getElem?_eq_some_iff.mp hf).1 hf)⟩
  refine xSp_of (M := m_Mo_init) rfl (b_Mo_init_0 ?_)
  unfold B_Mo_init_0
  refine ⟨⟨by omega, by omega⟩, rAM Q0 (by omega) (by omega) rfl (fun Λ1 f1 S1 C1 Q1 => ?_)⟩
  refine ⟨⟨by omega, by omega⟩, rAM Q1 (by omega) (by omega) rfl (fun Λ2 f2 S2 C2 Q2 => ?_)⟩
  refine ⟨⟨by omega, by omega⟩, rAM Q2 (by omega) (by omega) rfl (fun Λ3 f3 S3 C3 Q3 => ?_)⟩
  refine ⟨⟨by omega, by omega⟩, rAM Q3 (by omega) (by omega) rfl (fun Λ4 f4 S4 C4 Q4 => ?_)⟩
  refine ⟨⟨by omega, by omega⟩, rAM Q4 (by omega) (by omega) rfl (fun Λ5 f5 S5 C5 Q5 => ?_)⟩
  refine ⟨⟨by omega, by omega⟩, rAM Q5 (by omega) (by omega) rfl (fun Λ6 f6 S6 C6 Q6 => ?_)⟩
  refine ⟨⟨by omega, by omega⟩, rAM Q6 (by omega) (by omega) rfl (fun Λ7 f7 S7 C7 Q7 => ?_)⟩
  refine ⟨⟨by omega, by omega⟩, rAM Q7 (by omega) (by omega) rfl (fun Λ8 f8 S8 C8 Q8 => ?_)⟩
  refine ⟨⟨by omega, by omega⟩, rAM Q8 (by omega) (by omega) rfl (fun Λ9 f9 S9 C9 Q9 => ?_)⟩
  refine ⟨⟨by omega, by omega⟩, rAM Q9 (by omega) (by omega) rfl (fun Λ10 f10 S10 C10 Q10 => ?_)⟩
  refine ⟨⟨by omega, by omega⟩, rAM Q10 (by omega) (by omega) rfl (fun Λ11 f11 S11 C11 Q11 => ?_)⟩
  refine ⟨⟨by omega, by omega⟩, rAM Q11 (by omega) (by omega) rfl (fun Λ12 f12 S12 C12 Q12 => ?_)⟩
  refine ⟨⟨by omega, by omega⟩, rAM Q12 (by omega) (by omega) rfl (fun Λ13 f13 S13 C13 Q13 => ?_)⟩
  refine ⟨⟨by omega, by omega⟩, rAM Q13 (by omega) (by omega) rfl (fun Λ14 f14 S14 C14 Q14 => ?_)⟩
  refine ⟨⟨by omega, by omega⟩, rAM Q14 (by omega) (by omega) rfl (fun Λ15 f15 S15 C15 Q15 => ?_)⟩
  refine ⟨⟨by omega, by omega⟩, rAM Q15 (by omega) (by omega) rfl (fun Λ16 f16 S16 C16 Q16 => ?_)⟩
  refine ⟨⟨by omega, by omega⟩, rAM Q16 (by omega) (by omega) rfl (fun Λ17 f17 S17 C17 Q17 => ?_)⟩
  refine ⟨⟨by omega, by omega⟩, rAM Q17 (by omega) (by omega) rfl (fun Λ18 f18 S18 C18 Q18 => ?_)⟩
  refine ⟨⟨by omega, by omega⟩, rAM Q18 (by omega) (by omega) rfl (fun Λ19 f19 S19 C19 Q19 => ?_)⟩
  refine ⟨⟨by omega, by omega⟩, rAM Q19 (by omega) (by omega) rfl (fun Λ20 f20 S20 C20 Q20 => ?_)⟩
  refine ⟨⟨by omega, by omega⟩, rAM Q20 (by omega) (by omega) rfl (fun Λ21 f21 S21 C21 Q21 => ?_)⟩
  refine ⟨⟨by omega, by omega⟩, rAM Q21 (by omega) (by omega) rfl (fun Λ22 f22 S22 C22 Q22 => ?_)⟩
  refine ⟨⟨by omega, by omega⟩, rAM Q22 (by omega) (by omega) rfl (fun Λ23 f23 S23 C23 Q23 => ?_)⟩
  refine ⟨⟨by omega, by omega⟩, rAM Q23 (by omega) (by omega) rfl (fun Λ24 f24 S24 C24 Q24 => ?_)⟩
  refine ⟨⟨by omega, by omega⟩, rAM Q24 (by omega) (by omega) rfl (fun Λ25 f25 S25 C25 Q25 => ?_)⟩
  refine ⟨⟨by omega, by omega⟩, rAM Q25 (by omega) (by omega) rfl (fun Λ26 f26 S26 C26 Q26 => ?_)⟩
  refine ⟨⟨by omega, by omega⟩, rAM Q26 (by omega) (by omega) rfl (fun Λ27 f27 S27 C27 Q27 => ?_)⟩
  refine ⟨⟨by omega, by omega⟩, rAM Q27 (by omega) (by omega) rfl (fun Λ28 f28 S28 C28 Q28 => ?_)⟩
  refine ⟨⟨by omega, by omega⟩, rAM Q28 (by omega) (by omega) rfl (fun Λ29 f29 S29 C29 Q29 => ?_)⟩
  refine ⟨⟨by omega, by omega⟩, rAM Q29 (by omega) (by omega) rfl (fun Λ30 f30 S30 C30 Q30 => ?_)⟩
  refine ⟨⟨by omega, by omega⟩, rAM Q30 (by omega) (by omega) rfl (fun Λ31 f31 S31 C31 Q31 => ?_)⟩
  refine ⟨⟨by omega, by omega⟩, rAM Q31 (by omega) (by omega) rfl (fun Λ32 f32 S32 C32 Q32 => ?_)⟩
  refine ⟨⟨by omega, by omega⟩, rAM Q32 (by omega) (by omega) rfl (fun Λ33 f33 S33 C33 Q33 => ?_)⟩
  refine ⟨⟨by omega, by omega⟩, rAM Q33 (by omega) (by omega) rfl (fun Λ34 f34 S34 C34 Q34 => ?_)⟩
  refine ⟨⟨by omega, by omega⟩, rAM Q34 (by omega) (by omega) rfl (fun Λ35 f35 S35 C35 Q35 => ?_)⟩
  refine rIM Q35 (by omega) rfl (fun f36 C36 Q36 => ?_)
  refine ⟨⟨by omega, by omega⟩, rAM Q36 (by omega) (by omega) rfl (fun Λ37 f37 S37 C37 Q37 => ?_)⟩
  refine rIM Q37 (by omega) rfl (fun f38 C38 Q38 => ?_)
  have hC := (Cq_tr C1 (Cq_tr C2 (Cq_tr C3 (Cq_tr C4 (Cq_tr C5 (Cq_tr C6 (Cq_tr C7 (Cq_tr C8 (Cq_tr C9 (Cq_tr C10 (Cq_tr C11 (Cq_tr C12 (Cq_tr C13 (Cq_tr C14 (Cq_tr C15 (Cq_tr C16 (Cq_tr C17 (Cq_tr C18 (Cq_tr C19 (Cq_tr C20 (Cq_tr C21 (Cq_tr C22 (Cq_tr C23 (Cq_tr C24 (Cq_tr C25 (Cq_tr C26 (Cq_tr C27 (Cq_tr C28 (Cq_tr C29 (Cq_tr C30 (Cq_tr C31 (Cq_tr C32 (Cq_tr C33 (Cq_tr C34 (Cq_tr C35 (Cq_tr C36 (Cq_tr C37 C38)))))))))))))))))))))))))))))))))))))
  refine rPM (K := fun f => xWp (xT0, xSp xT0 d, none, m_Mo_init, post) 323 [some (.ref q), some (.int 0)] [] f 36 45574) Q38 (fun Λ9 S9 C9 h9 ow9 hA hI => ?_)
  have hC9 := Cq_tr hC C9
  have hL : mLay Λ9 q := ⟨C9.1.1, h9, ow9, (hA (1, 2, 100) (by decide)).1, (hA (3, 2, 18) (by decide)).1, (hA (5, 2, 2340) (by decide)).1, (hA (6, 0, 130) (by decide)).1, (hA (7, 2, 6240) (by decide)).1, (hA (8, 0, 130) (by decide)).1, (hA (9, 0, 13) (by decide)).1, (hA (11, 0, 220) (by decide)).1, (hA (12, 2, 3960) (by decide)).1, (hA (13, 0, 220) (by decide)).1, (hA (14, 2, 3960) (by decide)).1, (hA (15, 0, 220) (by decide)).1, (hA (16, 0, 220) (by decide)).1, (hA (17, 0, 220) (by decide)).1, (hA (18, 0, 220) (by decide)).1, (hA (19, 0, 220) (by decide)).1, (hA (20, 0, 10560) (by decide)).1, (hA (21, 0, 10560) (by decide)).1, (hA (22, 0, 9) (by decide)).1, (hA (24, 0, 50) (by decide)).1, (hA (25, 0, 50) (by decide)).1, (hA (26, 0, 2500) (by decide)).1, (hA (27, 0, 10) (by decide)).1, (hA (28, 0, 10) (by decide)).1, (hA (31, 1, 24) (by decide)).1, (hA (32, 0, 24) (by decide)).1, (hA (33, 0, 24) (by decide)).1, (hA (35, 2, 1200) (by decide)).1, (hA (36, 1, 240) (by decide)).1, (hA (37, 2, 1440) (by decide)).1, (hA (38, 0, 30) (by decide)).1, (hA (39, 2, 360) (by decide)).1, (hA (40, 0, 20) (by decide)).1, (hA (41, 0, 20) (by decide)).1, (hA (42, 0, 2) (by decide)).1, (hA (47, 0, 10) (by decide)).1⟩
  have hz : ∀ e, e ∈ moL → yA S9 11 e.1 q = fun _ => 0 := fun e he => (hA e he).2
  have hlo : ∀ k, k ≤ 30 → (∀ S2, zX q (fun j => j = 38) S9 S2 → (∀ i, i < k → yA S2 11 38 q i = -2) → xWp (xT0, xSp xT0 d, none, m_Mo_init, post) 323 [some (.ref q), some (.int (nI k))] [] (yH Λ9 f38 S2) 36 45574) := by
    refine loopUp ?_ ?_
    · intro S2 k2 hs
      refine b_Mo_init_323 (brle (a := 30) (by omega) (by omega) (fun _ => ⟨⟨by omega, by omega⟩, ?_⟩) (fun z => by omega))
      have iv : ∀ i, i ≠ 38 → yI S2 11 i q = yI S9 11 i q := fun i hi => (mX k2 (j := i) (by omega)).1
      have av : ∀ i, i ≠ 38 → yA S2 11 i q = yA S9 11 i q := fun i hi => (mX k2 (j := i) (by omega)).2
      refine hp Λ9 f38 S2 ⟨hC9.1, fun a ha => ?_, fun a ha hr hf => ?_, hC9.2.2.2⟩ ⟨hL, ⟨Nat.zero_le _, by rw [iv 2 (by omega)]; exact hI 2 rfl, fun k hk => absurd hk (Nat.not_lt_zero _)⟩, ⟨Nat.zero_le _, by rw [iv 4 (by omega)]; exact hI 4 rfl, fun k hk => absurd hk (Nat.not_lt_zero _)⟩, ⟨Nat.zero_le _, by rw [iv 10 (by omega)]; exact hI 10 rfl, fun k hk => absurd hk (Nat.not_lt_zero _)⟩, ⟨Nat.zero_le _, by rw [iv 23 (by omega)]; exact hI 23 rfl, fun k hk => absurd hk (Nat.not_lt_zero _)⟩, ⟨Nat.zero_le _, by rw [iv 34 (by omega)]; exact hI 34 rfl, fun k hk => absurd hk (Nat.not_lt_zero _)⟩, fun s hs' => hs s hs', fun i hi => ⟨Nat.zero_le _, ?_, fun k hk => absurd hk (Nat.not_lt_zero _)⟩, by show 0 < 2; omega, by rw [iv 43 (by omega)]; exact hI 43 rfl, by rw [iv 44 (by omega)]; exact hI 44 rfl, by rw [iv 45 (by omega)]; exact hI 45 rfl, by rw [iv 46 (by omega)]; exact hI 46 rfl⟩
      · have haq : a ≠ q := fun z => ha (by rw [z]; exact R.2.1)
        have e := hC9.2.1 a ha
        refine ⟨e.1, fun c j => ?_⟩
        have z := k2 c j a (fun z => haq z.2.1)
        exact ⟨(e.2 c j).1, z.1.trans (e.2 c j).2.1, z.2.1.trans (e.2 c j).2.2.1, z.2.2.trans (e.2 c j).2.2.2⟩
      · have e := hC9.2.2.1 a ha hr hf
        refine ⟨e.1, fun c j => ?_, e.2.2⟩
        have z := k2 c j a (fun z => ha z.2.1)
        exact ⟨z.2.1.trans (e.2.1 c j).1, z.2.2.trans (e.2.1 c j).2⟩
      · rw [av 42 (by omega), hz (42, 0, 2) (by decide)]
        rfl
    · intro k hk ih S2 k2 hs
      refine b_Mo_init_323 (brle (a := 30) (by omega) (by omega) (fun z => by omega) (fun _ => ygr h9 rfl (yas (mk38 hL) (yW_n hL.1 (mk38 hL)) (vp_in_nI (by omega) (by omega)) ?_)))
      rw [nI_clamp (by omega), nI_1 k]
      refine ih _ (zX_tr k2 (zX_wA rfl)) (fun i hi => ?_)
      rw [yA_s]
      by_cases c : i = k
      · rw [c, pk_us]
      · rw [pk_un c]; exact hs i (by omega)
  exact hlo 0 (Nat.zero_le _) S9 zX_rf (fun i hi => absurd hi (Nat.not_lt_zero _))
end
