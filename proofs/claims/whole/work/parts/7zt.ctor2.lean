/-! 7zt constructors: Step, Tree, Patch -/
def Pk (P : Nat → Nat) (k : Nat) : Nat → Option Nat := fun i => if i < k then some (P i) else none
def upP (P : Nat → Nat) (k b : Nat) : Nat → Nat := fun i => if i = k then b else P i
def injP (P : Nat → Nat) (n : Nat) : Prop := ∀ i j, i < n → j < n → P i = P j → i = j
theorem va_Pk (P : Nat → Nat) (k b : Nat) : va_up (Pk P k) k (some b) = Pk (upP P k b) (k + 1) := by
  funext i
  unfold va_up Pk upP
  by_cases c : i = k
  · rw [if_pos c, if_pos (by omega), if_pos c]
  · rw [if_neg c, if_neg c]
    by_cases w : i < k
    · rw [if_pos w, if_pos (by omega)]
    · rw [if_neg w, if_neg (by omega)]
theorem Pk_0 (P : Nat → Nat) : (fun _ => none) = Pk P 0 := by
  funext i
  exact (if_neg (Nat.not_lt_zero _)).symm
theorem up_all {P : Nat → Nat} {k b : Nat} {Q : Nat → Prop} (h : ∀ i, i < k → Q (P i)) (hb : Q b) : ∀ i, i < k + 1 → Q (upP P k b i) := fun i hi => by
  unfold upP
  by_cases c : i = k
  · rw [if_pos c]; exact hb
  · rw [if_neg c]; exact h i (by omega)
theorem up_inj {P : Nat → Nat} {k b : Nat} (h : injP P k) (hb : ∀ i, i < k → P i ≠ b) : injP (upP P k b) (k + 1) := fun i j hi hj e => by
  unfold upP at e
  by_cases c : i = k
  · rw [if_pos c] at e
    by_cases c2 : j = k
    · omega
    · rw [if_neg c2] at e; exact absurd e.symm (hb j (by omega))
  · rw [if_neg c] at e
    by_cases c2 : j = k
    · rw [if_pos c2] at e; exact absurd e (hb i (by omega))
    · rw [if_neg c2] at e; exact h i j (by omega) (by omega) e
def sv00 : Sv := (0, [], [], -2, -2, -2, -2, [], [])
section
variable {Λ Λ' Λ1 : yL} {f0 f0' f1 : xH} {S S' S1 : yS} {q r a b c j o t n d s : Nat} {fs : List Value} {U U' : Nat → Prop} {v : Sv} {post : Option Value → xH → Prop}
theorem ySt_E (e : Ey Λ S Λ' S') (h : ySt Λ s) : ySt Λ' s := by
  obtain ⟨h1, ⟨a1, a2, a3, a4⟩, ⟨b1, b2, b3, b4⟩, c1, c2⟩ := h
  have r : ∀ j, Λ'.2.1 4 j s = Λ.2.1 4 j s := fun j => ref_E e h1 4 j
  unfold ySt yP yF yDe yBa
  rw [r 0, r 1, r 2, r 3]
  exact ⟨yo_E e h1, ⟨yB_E e a1, yB_E e a2, yD_E e a3, yD_E e a4⟩, ⟨(own_E e a1.1).trans b1, (own_E e a2.1).trans b2, (own_E e a3.1).trans b3, (own_E e a4.1).trans b4⟩, c1, c2⟩
theorem ySv_E (e : Ey Λ S Λ' S') (h : ySv Λ S s v) : ySv Λ' S' s v := by
  obtain ⟨h1, ⟨a1, a2, a3⟩, ⟨b1, b2, b3, b4⟩, c1, c2⟩ := h
  have r : ∀ j, Λ'.2.1 4 j s = Λ.2.1 4 j s := fun j => ref_E e h1.1 4 j
  have i : ∀ j, yI S' 4 j s = yI S 4 j s := fun j => ((e s (tg_o h1.1)).2 4 j).2.1
  have hst := h1.2.1
  refine ⟨ySt_E e h1, ?_, ?_, ?_⟩
  · unfold yP yF
    rw [r 0, r 1, i 4]
    exact ⟨a1, yBv_E e hst.1.1 a2, yBv_E e hst.2.1.1 a3⟩
  · rw [i 5, i 6, i 7, i 8]; exact ⟨b1, b2, b3, b4⟩
  · unfold yDe yBa
    rw [r 2, r 3]
    exact ⟨yDv_E e hst.2.2.1.1 c1, yDv_E e hst.2.2.2.1 c2⟩
theorem ne_raw (h : yo Λ a c) (hb : (Λ.1 b).1 = 0) : a ≠ b := fun z => tg_o h (by rw [z]; exact hb)
theorem St_init_sp (R : Rq Λ f0 q 4 [.null, .null, .null, .null, .int 0, .int 0, .int 0, .int 0, .int 0] (fun _ => False)) (o : Nat) (hp : ∀ Λ' f0' S', Cq Λ f0 S q Λ' f0' S' → ySv Λ' S' q sv00 → own Λ' q = o → post none (yH Λ' f0' S')) : xSp xT0 (d + 2) j_St_init [.ref q] (yH Λ f0 S) post := by
  refine xSp_of (M := m_St_init) rfl (b_St_init_0 ⟨⟨by omega, by omega⟩, rN R.1 (fun b1 hb1 hn1 Rb1 => ⟨⟨by omega, by omega⟩, By_init_sp (n := 17) Rb1 (by omega) q (fun Λ1 f1 S1 C1 N1 => xvvI ?_)⟩)⟩)
  obtain ⟨R1, C1', -⟩ := Rq_ch R hb1 hn1 C1
  refine rF R1 (by show 0 < 9; omega) (fun f2 R2 C2 => ⟨⟨by omega, by omega⟩, rN R2.1 (fun b2 hb2 hn2 Rb2 => ⟨⟨by omega, by omega⟩, By_init_sp (n := 17) Rb2 (by omega) q (fun Λ3 f3 S3 C3 N3 => xvvI ?_)⟩)⟩)
  obtain ⟨R3, C3', -⟩ := Rq_ch R2 hb2 hn2 C3
  have hne1 : b1 ≠ b2 := ne_raw N1.1.1 hb2
  have N1 := NB_E C3'.2.1 (NB_E C2.2.1 N1)
  refine rF R3 (by show 1 < 9; omega) (fun f4 R4 C4 => ⟨⟨by omega, by omega⟩, rN R4.1 (fun b3 hb3 hn3 Rb3 => ⟨⟨by omega, by omega⟩, De_init_sp Rb3 q (fun Λ5 f5 S5 C5 N5 => xvvI ?_)⟩)⟩)
  obtain ⟨R5, C5', -⟩ := Rq_ch R4 hb3 hn3 C5
  have N1 := NB_E C5'.2.1 (NB_E C4.2.1 N1)
  have N3 := NB_E C5'.2.1 (NB_E C4.2.1 N3)
  refine rF R5 (by show 2 < 9; omega) (fun f6 R6 C6 => ⟨⟨by omega, by omega⟩, rN R6.1 (fun b4 hb4 hn4 Rb4 => ⟨⟨by omega, by omega⟩, De_init_sp Rb4 q (fun Λ7 f7 S7 C7 N7 => xvvI ?_)⟩)⟩)
  obtain ⟨R7, C7', -⟩ := Rq_ch R6 hb4 hn4 C7
  have hne2 : b3 ≠ b4 := ne_raw N5.1.1 hb4
  have N1 := NB_E C7'.2.1 (NB_E C6.2.1 N1)
  have N3 := NB_E C7'.2.1 (NB_E C6.2.1 N3)
  have N5 := ND_E C7'.2.1 (ND_E C6.2.1 N5)
  refine rF R7 (by show 3 < 9; omega) (fun f8 R8 C8 => rF R8 (by show 4 < 9; omega) (fun f9 R9 C9 => rF R9 (by show 5 < 9; omega) (fun f10 R10 C10 => rF R10 (by show 6 < 9; omega) (fun f11 R11 C11 => rF R11 (by show 7 < 9; omega) (fun f12 R12 C12 => rF R12 (by show 8 < 9; omega) (fun f13 R13 C13 => ⟨⟨by omega, by omega⟩, rP (K := fun f => post none f) R13 o rfl (fun Λ14 S14 C14 h14 ho hr hi _ => ?_)⟩))))))
  have hC := Cq_tr C1' (Cq_tr C2 (Cq_tr C3' (Cq_tr C4 (Cq_tr C5' (Cq_tr C6 (Cq_tr C7' (Cq_tr C8 (Cq_tr C9 (Cq_tr C10 (Cq_tr C11 (Cq_tr C12 (Cq_tr C13 C14))))))))))))
  have N1 := NB_E C14.2.1 N1
  have N3 := NB_E C14.2.1 N3
  have N5 := ND_E C14.2.1 N5
  have N7 := ND_E C14.2.1 N7
  have e0 : Λ14.2.1 4 0 q = b1 := hr 4 0
  have e1 : Λ14.2.1 4 1 q = b2 := hr 4 1
  have e2 : Λ14.2.1 4 2 q = b3 := hr 4 2
  have e3 : Λ14.2.1 4 3 q = b4 := hr 4 3
  refine hp Λ14 f13 S14 hC ⟨?_, ?_, ⟨hi 4 5, hi 4 6, hi 4 7, hi 4 8⟩, ?_⟩ ho
  · unfold ySt yP yF yDe yBa
    rw [e0, e1, e2, e3]
    exact ⟨h14, ⟨N1.1, N3.1, N5.1, N7.1⟩, ⟨N1.2.1, N3.2.1, N5.2.1, N7.2.1⟩, hne1, hne2⟩
  · unfold yP yF
    rw [e0, e1]
    exact ⟨hi 4 4, N1.2.2, N3.2.2⟩
  · unfold yDe yBa
    rw [e2, e3]
    exact ⟨N5.2.2, N7.2.2⟩
theorem yT_E (e : Ey Λ S Λ' S') (h : yT Λ t) : yT Λ' t := by
  obtain ⟨h1, h2, h3, h4, h5⟩ := h
  have r : ∀ j, Λ'.2.1 2 j t = Λ.2.1 2 j t := fun j => ref_E e h1 2 j
  unfold yT
  rw [r 0, r 1, r 2]
  exact ⟨yo_E e h1, yr_E e h2, yr_E e h3, yB_E e h4, (own_E e h4.1).trans h5⟩
theorem yTv_E (e : Ey Λ S Λ' S') {fl : List Fl} (h : yTv Λ S t fl) : yTv Λ' S' t fl := by
  obtain ⟨hT, P, C, ⟨p1, p2, p3, p4, p5⟩, h2, h3, h4, h5⟩ := h
  have r : ∀ j, Λ'.2.1 2 j t = Λ.2.1 2 j t := fun j => ref_E e hT.1 2 j
  have k := (e t (tg_o hT.1)).2
  refine ⟨yT_E e hT, P, C, ⟨fun i hi => ?_, p2, p3, p4, fun i hi => by rw [r 2]; exact p5 i hi⟩, h2, by rw [(k 2 3).2.1]; exact h3, by rw [r 2]; exact yBv_E e hT.2.2.2.1.1 h4, fun i hi => ?_⟩
  · obtain ⟨⟨a1, a2⟩, ⟨b1, b2⟩, c1, c2⟩ := p1 i hi
    exact ⟨⟨by rw [(k 2 0).2.2.2]; exact a1, by rw [(k 2 1).2.2.2]; exact a2⟩, ⟨yB_E e b1, yB_E e b2⟩, (own_E e b1.1).trans c1, (own_E e b2.1).trans c2⟩
  · obtain ⟨-, ⟨b1, b2⟩, -⟩ := p1 i (by omega)
    exact ⟨yBv_E e b1.1 (h5 i hi).1, yBv_E e b2.1 (h5 i hi).2⟩
theorem Tr_init_sp (R : Rq Λ f0 q 2 [.null, .null, .null, .int 0] (fun _ => False)) (o : Nat) (hp : ∀ Λ' f0' S', Cq Λ f0 S q Λ' f0' S' → yTv Λ' S' q [] → own Λ' q = o → post none (yH Λ' f0' S')) : xSp xT0 (d + 2) j_Tr_init [.ref q] (yH Λ f0 S) post := by
  refine xSp_of (M := m_Tr_init) rfl (b_Tr_init_0 ⟨⟨by omega, by omega⟩, rR R (by show 0 < 4; omega) id (fun r0 Λ1 f1 S1 C1 R1 n1 g1 q1 => ⟨⟨by omega, by omega⟩, rR R1 (by show 1 < 4; omega) (fun z => by rcases z with z | z; exact z; omega) (fun r1 Λ2 f2 S2 C2 R2 n2 g2 q2 => ?_)⟩)⟩)
  have hlo : ∀ k, k ≤ 10 → (∀ Λ3 f3 S3 P C, Cq Λ f0 S q Λ3 f3 S3 → Rq Λ3 f3 q 2 [.ref r0, .ref r1, .null, .int 0] (fun i => i < 2) → yr Λ3 r0 2 0 q 3 10 → yr Λ3 r1 2 1 q 3 10 → yR S3 2 0 q = Pk P k → yR S3 2 1 q = Pk C k → (∀ i, i < k → NB Λ3 S3 (P i) 17 q) → (∀ i, i < k → NB Λ3 S3 (C i) 48 q) → injP P k → injP C k → (∀ i j, i < k → j < k → P i ≠ C j) → xWp (xT0, xSp xT0 (d + 1), none, m_Tr_init, post) 24 [some (.ref q), some (.int (nI k))] [] (yH Λ3 f3 S3) (2 + 4 * k) (20 + 164 * k)) := by
    refine loopUp ?_ ?_
    · intro Λ3 f3 S3 P C C3 R3 n0 n1 g0 g1 hP hC iP iC iPC
      refine b_Tr_init_24 (brle (a := 10) (by omega) (by omega) (fun _ => ⟨⟨by omega, by omega⟩, rN R3.1 (fun b hb hbn Rb => ⟨⟨by omega, by omega⟩, By_init_sp (n := 0) Rb (by omega) q (fun Λ4 f4 S4 C4 N4 => xvvI ?_)⟩)⟩) (fun z => by omega))
      obtain ⟨R4, C4', k4⟩ := Rq_ch R3 hb hbn C4
      refine rF R4 (by show 2 < 4; omega) (fun f5 R5 C5 => rF R5 (by show 3 < 4; omega) (fun f6 R6 C6 => ⟨⟨by omega, by omega⟩, rP (K := fun f => post none f) R6 o rfl (fun Λ7 S7 C7 h7 ho hr hi hk => ?_)⟩))
      have e0 : Λ7.2.1 2 0 q = r0 := hr 2 0
      have e1 : Λ7.2.1 2 1 q = r1 := hr 2 1
      have e2 : Λ7.2.1 2 2 q = b := hr 2 2
      have E := Ey_tr C4'.2.1 C7.2.1
      have N4 := NB_E C7.2.1 N4
      refine hp Λ7 f6 S7 (Cq_tr C3 (Cq_tr C4' (Cq_tr C5 (Cq_tr C6 C7)))) ⟨?_, P, C, ⟨fun i hi => ?_, iP, iC, iPC, fun i hi => ?_⟩, Nat.zero_le _, hi 2 3, ?_, fun i hi => absurd hi (Nat.not_lt_zero _)⟩ ho
      · unfold yT
        rw [e0, e1, e2]
        exact ⟨h7, yr_E E n0, yr_E E n1, N4.1, N4.2.1⟩
      · have a1 := NB_E E (hP i hi)
        have a2 := NB_E E (hC i hi)
        refine ⟨⟨?_, ?_⟩, ⟨a1.1, a2.1⟩, a1.2.1, a2.2.1⟩
        · rw [(hk 2 0 q).2, (k4 2 0).2, g0]; exact if_pos hi
        · rw [(hk 2 1 q).2, (k4 2 1).2, g1]; exact if_pos hi
      · rw [e2]
        exact ⟨ne_raw (hP i hi).1.1 hb, ne_raw (hC i hi).1.1 hb⟩
      · rw [e2]; exact N4.2.2
    · intro k hk ih Λ3 f3 S3 P C C3 R3 n0 n1 g0 g1 hP hC iP iC iPC
      refine b_Tr_init_24 (brle (a := 10) (by omega) (by omega) (fun z => by omega) (fun _ => rG R3 r0 rfl ⟨⟨by omega, by omega⟩, rN R3.1 (fun b hb hbn Rb => ⟨⟨by omega, by omega⟩, By_init_sp (n := 17) Rb (by omega) q (fun Λ4 f4 S4 C4 N4 => xvvI ?_)⟩)⟩))
      obtain ⟨R4, C4', k4⟩ := Rq_ch R3 hb hbn C4
      have n0 := yr_E C4'.2.1 n0
      have n1 := yr_E C4'.2.1 n1
      refine rS (i := k) (g := Pk P k) R4 n0 hk (by omega) rfl N4.1.1 (by rw [(k4 2 0).2]; exact g0) (fun S5 C5 g5 q5 => rG R4 r1 rfl ⟨⟨by omega, by omega⟩, rN R4.1 (fun b' hb' hbn' Rb' => ⟨⟨by omega, by omega⟩, By_init_sp (n := 48) Rb' (by omega) q (fun Λ6 f6 S6 C6 N6 => xvvI ?_)⟩)⟩)
      obtain ⟨R6, C6', k6⟩ := Rq_ch R4 hb' hbn' C6
      have n0 := yr_E C6'.2.1 n0
      have n1 := yr_E C6'.2.1 n1
      have E45 := C5.2.1
      refine rS (i := k) (g := Pk C k) R6 n1 hk (by omega) rfl N6.1.1 (by rw [(k6 2 1).2, q5.1 2 1 (by omega), (k4 2 1).2]; exact g1) (fun S7 C7 g7 q7 => ?_)
      rw [nI_1 k]
      have E := Ey_tr C4'.2.1 (Ey_tr C5.2.1 (Ey_tr C6'.2.1 C7.2.1))
      have N4' := NB_E C7.2.1 (NB_E C6'.2.1 (NB_E C5.2.1 N4))
      have N6' := NB_E C7.2.1 N6
      have hbb : b ≠ b' := ne_raw (NB_E C5.2.1 N4).1.1 hb'
      have hCb : ∀ i, i < k → C i ≠ b' := fun i hi => ne_raw (NB_E (Ey_tr C4'.2.1 C5.2.1) (hC i hi)).1.1 hb'
      have hPb' : ∀ i, i < k → P i ≠ b' := fun i hi => ne_raw (NB_E (Ey_tr C4'.2.1 C5.2.1) (hP i hi)).1.1 hb'
      have := ih Λ6 f6 S7 (upP P k b) (upP C k b') (Cq_tr C3 (Cq_tr C4' (Cq_tr C5 (Cq_tr C6' C7)))) R6 n0 n1 (by rw [q7.1 2 0 (by omega), (k6 2 0).2, g5, va_Pk]) (by rw [g7, va_Pk]) (up_all (Q := fun x => NB Λ6 S7 x 17 q) (fun i hi => NB_E E (hP i hi)) N4') (up_all (Q := fun x => NB Λ6 S7 x 48 q) (fun i hi => NB_E E (hC i hi)) N6') (up_inj iP (fun i hi => ne_raw (hP i hi).1.1 hb)) (up_inj iC hCb) (fun i j hi hj => ?_)
      · rw [show 2 + 4 * (k + 1) = 2 + 4 * k + 4 by omega, show 20 + 164 * (k + 1) = 20 + 164 * k + 164 by omega] at this
        exact this
      · unfold upP
        by_cases c1 : i = k
        · rw [if_pos c1]
          by_cases c2 : j = k
          · rw [if_pos c2]; exact hbb
          · rw [if_neg c2]; exact fun z => ne_raw (hC j (by omega)).1.1 hb z.symm
        · rw [if_neg c1]
          by_cases c2 : j = k
          · rw [if_pos c2]; exact hPb' i (by omega)
          · rw [if_neg c2]; exact iPC i j (by omega) (by omega)
  refine hlo 0 (Nat.zero_le _) Λ2 f2 S2 (fun _ => 0) (fun _ => 0) (Cq_tr C1 C2) (Rq_w R2 (fun i z => by rcases z with (z | z) | z; exact z.elim; omega; omega)) (yr_E C2.2.1 n1) n2 ?_ (by rw [g2]; exact Pk_0 _) (fun i hi => absurd hi (Nat.not_lt_zero _)) (fun i hi => absurd hi (Nat.not_lt_zero _)) (fun i j hi => absurd hi (Nat.not_lt_zero _)) (fun i j hi => absurd hi (Nat.not_lt_zero _)) (fun i j hi => absurd hi (Nat.not_lt_zero _))
  rw [q2.1 2 0 (by omega), g1]
  exact Pk_0 _
end
