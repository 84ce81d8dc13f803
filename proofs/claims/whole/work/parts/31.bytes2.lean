/-! 31 Bytes, the rest -/
theorem ywA_A (S : yS) (c j o : Nat) (g g' : Nat → Int32) : ywA (ywA S c j o g) c j o g' = ywA S c j o g' := by
  unfold ywA
  refine congrArg (Prod.mk S.1) (congrArg (fun z => (z, S.2.2)) ?_)
  funext c' j' b
  by_cases h : c' = c ∧ j' = j ∧ b = o <;> simp [h, yA]
theorem ywI_I (S : yS) (c j o : Nat) (v v' : Int32) : ywI (ywI S c j o v) c j o v' = ywI S c j o v' := by
  unfold ywI
  refine congrArg (fun z => (z, S.2)) ?_
  funext c' j' b
  by_cases h : c' = c ∧ j' = j ∧ b = o <;> simp [h, yI]
theorem ywR_R (S : yS) (c j o : Nat) (g g' : Nat → Option Nat) : ywR (ywR S c j o g) c j o g' = ywR S c j o g' := by
  unfold ywR
  refine congrArg (fun z => (S.1, S.2.1, z)) ?_
  funext c' j' b
  by_cases h : c' = c ∧ j' = j ∧ b = o <;> simp [h, yR]
theorem yBw_w (S : yS) (a : Nat) (g g' : Nat → Int32) (v v' : Int32) : yBw (yBw S a g v) a g' v' = yBw S a g' v' := by
  have h : yBw (yBw S a g v) a g' v' = ywA (ywA (ywI (ywI S 1 1 a v) 1 1 a v') 1 0 a g) 1 0 a g' := rfl
  rw [h, ywA_A, ywI_I]
  rfl
theorem yBw_o (S : yS) (a : Nat) (g : Nat → Int32) (v : Int32) : ywA (ywI S 1 1 a v) 1 0 a g = yBw S a g v := rfl
theorem yBw_e (S : yS) (a : Nat) (v : Int32) : ywI S 1 1 a v = yBw S a (yA S 1 0 a) v := by
  unfold yBw
  have : ywA S 1 0 a (yA S 1 0 a) = S := by
    obtain ⟨s1, s2, s3⟩ := S
    unfold ywA
    refine congrArg (fun z => (s1, z, s3)) ?_
    funext c' j' b
    by_cases h : c' = 1 ∧ j' = 0 ∧ b = a
    · rw [if_pos h, h.1, h.2.1, h.2.2]
    · rw [if_neg h]
  rw [this]
theorem yBv_e {S : yS} {a cap : Nat} : yBv (ywI S 1 1 a 0) a cap [] := ⟨Nat.zero_le _, by show (if _ then _ else _) = _; rw [if_pos ⟨rfl, rfl, rfl⟩]; rfl, fun k hk => absurd hk (Nat.not_lt_zero _)⟩
theorem yBv_t {S : yS} {a cap k : Nat} {bs : List Nat} (hv : yBv S a cap bs) (hk : k ≤ bs.length) : yBv (ywI S 1 1 a (nI k)) a cap (bs.take k) := by
  have hl : (bs.take k).length = k := by rw [List.length_take]; omega
  refine ⟨by rw [hl]; have := hv.1; omega, ?_, fun j hj => ?_⟩
  · show (if _ then _ else _) = _
    rw [if_pos ⟨rfl, rfl, rfl⟩, hl]
  · rw [hl] at hj
    have := hv.2.2 j (by omega)
    rw [List.getD_eq_getElem?_getD, List.getElem?_take, if_pos hj, ← List.getD_eq_getElem?_getD]
    exact this
section
variable {Λ : yL} {f0 : xH} {S : yS} {a o cap capo d : Nat} {bs cs : List Nat} {x : Int32} {post : Option Value → xH → Prop}
theorem By_copyOf_loop (hW : yW Λ) (hB : yB Λ a cap) (hO : yB Λ o capo) (hne : o ≠ a) (hw : yBv S o capo cs) (hcs : cs.length ≤ cap) {E : Option Value → xH → Prop} (h : ∀ g, yBv (yBw S a g (nI cs.length)) a cap cs → E none (yH Λ f0 (yBw S a g (nI cs.length)))) : ∀ n k g, cs.length - k = n → k ≤ cs.length → (∀ j, j < k → g j = nI (cs.getD j 0)) → xWp (xT0, xSp xT0 d, none, m_By_copyOf, E) 18 [some (.ref a), some (.ref o), some (.int (nI k))] [] (yH Λ f0 (yBw S a g (nI cs.length))) 0 0 := by
  have hc := hB.2.2
  have hc2 := hO.2.2
  have e1 : ∀ g, yI (yBw S a g (nI cs.length)) 1 1 a = nI cs.length := fun g => by rw [yBw_I, if_pos ⟨rfl, rfl, rfl⟩]
  intro n
  induction n with
  | zero =>
    intro k g hn hk hg
    refine b_By_copyOf_18 (ygi hB.1 rfl ?_)
    rw [e1]
    refine ⟨fun c => h g ⟨hcs, e1 g, fun j hj => ?_⟩, fun c => absurd ((leI (by omega) (by omega)).mpr (by omega)) c⟩
    rw [yBw_A, if_pos ⟨rfl, rfl, rfl⟩]
    exact ⟨hg j (by omega), (hw.2.2 j hj).2⟩
  | succ n ih =>
    intro k g hn hk hg
    refine b_By_copyOf_18 (ygi hB.1 rfl ?_)
    rw [e1]
    refine ⟨fun c => absurd ((leI (by omega) (by omega)).mp c) (by omega), fun c => ?_⟩
    have hk1 : k < cs.length := by omega
    have hl2 := hw.1
    refine ygr hB.1 rfl (ygr hO.1 rfl (yal hO.2.1 (vp_in_nI (by omega) (by omega)) (yas hB.2.1 (yW_n hW hB.2.1) (vp_in_nI (by omega) (by omega)) ?_)))
    rw [nI_clamp (by omega)]
    have e2 : yA (yBw S a g (nI cs.length)) 1 0 o k = nI (cs.getD k 0) := by rw [yBw_A, if_neg (fun q => hne q.2.2)]; exact (hw.2.2 k hk1).1
    have e3 : ywA (yBw S a g (nI cs.length)) 1 0 a (upd (yA (yBw S a g (nI cs.length)) 1 0 a) k (nI (cs.getD k 0))) = yBw S a (upd g k (nI (cs.getD k 0))) (nI cs.length) := by
      have h1 : yA (yBw S a g (nI cs.length)) 1 0 a = g := by rw [yBw_A, if_pos ⟨rfl, rfl, rfl⟩]
      rw [h1]
      show ywA (ywA (ywI S 1 1 a (nI cs.length)) 1 0 a g) 1 0 a _ = _
      rw [ywA_A]
      rfl
    rw [e2, e3]
    have := ih (k + 1) (upd g k (nI (cs.getD k 0))) (by omega) (by omega) (fun j hj => by
      by_cases q : j = k
      · subst q; exact pk_us
      · rw [pk_un q]; exact hg j (by omega))
    rw [← nI_1] at this
    exact this
theorem By_copyOf_sp (hW : yW Λ) (hB : yB Λ a cap) (hO : yB Λ o capo) (hne : o ≠ a) (hw : yBv S o capo cs) (hcs : cs.length ≤ cap) (h : ∀ g, yBv (yBw S a g (nI cs.length)) a cap cs → post none (yH Λ f0 (yBw S a g (nI cs.length)))) : xSp xT0 (d + 1) j_By_copyOf [.ref a, .ref o] (yH Λ f0 S) post := by
  have hc := hB.2.2
  refine xSp_of (M := m_By_copyOf) rfl (b_By_copyOf_0 (ygi hO.1 rfl (ygr hB.1 rfl (yle hB.2.1 (ypf hB.1 rfl ?_)))))
  rw [hw.2.1]
  have e : (if Int32.ofNat cap < nI cs.length then Int32.ofNat cap else nI cs.length) = nI cs.length := if_neg (fun q => absurd ((ltI (a := cap) (b := cs.length) (by omega) (by omega)).mp q) (by omega))
  rw [e, yBw_e, ← nI_0]
  exact By_copyOf_loop hW hB hO hne hw hcs h _ 0 _ rfl (Nat.zero_le _) (fun j hj => absurd hj (Nat.not_lt_zero _))
/-- is xs ys up to a / -/
def abvB (xs ys : List Nat) : Bool := decide (xs.length < ys.length ∧ ys.getD xs.length 0 = 47 ∧ ys.take xs.length = xs)
theorem take_ext {xs ys : List Nat} (hl : xs.length ≤ ys.length) (h : ∀ k, k < xs.length → xs.getD k 0 = ys.getD k 0) : ys.take xs.length = xs := by
  apply List.ext_getElem?
  intro k
  rw [List.getElem?_take]
  by_cases hk : k < xs.length
  · rw [if_pos hk]
    have := h k hk
    rw [List.getD_eq_getElem?_getD, List.getD_eq_getElem?_getD, List.getElem?_eq_getElem hk, List.getElem?_eq_getElem (by omega : k < ys.length)] at this
    rw [List.getElem?_eq_getElem hk, List.getElem?_eq_getElem (by omega : k < ys.length)]
    exact congrArg some this.symm
  · rw [if_neg hk, List.getElem?_eq_none (by omega)]
theorem take_getD {xs ys : List Nat} (h : ys.take xs.length = xs) {k : Nat} (hk : k < xs.length) : xs.getD k 0 = ys.getD k 0 := by
  have h1 : (ys.take xs.length).getD k 0 = xs.getD k 0 := by rw [h]
  rw [← h1, List.getD_eq_getElem?_getD, List.getElem?_take, if_pos hk, ← List.getD_eq_getElem?_getD]
theorem By_isAbove_loop (hB : yB Λ a cap) (hO : yB Λ o capo) (hv : yBv S a cap bs) (hw : yBv S o capo cs) (hlt : bs.length < cs.length) (h47 : cs.getD bs.length 0 = 47) {E : Option Value → xH → Prop} (h : E (some (.int (if abvB bs cs = true then 1 else 0))) (yH Λ f0 S)) : ∀ n k, bs.length - k = n → k ≤ bs.length → (∀ j, j < k → bs.getD j 0 = cs.getD j 0) → xWp (xT0, xSp xT0 d, none, m_By_isAbove, E) 29 [some (.ref a), some (.ref o), some (.int (nI k))] [] (yH Λ f0 S) 0 0 := by
  have hc := hB.2.2
  have hc2 := hO.2.2
  have hl := hv.1
  have hl2 := hw.1
  intro n
  induction n with
  | zero =>
    intro k hn hk hg
    refine b_By_isAbove_29 (ygi hB.1 rfl ?_)
    rw [hv.2.1]
    refine ⟨fun c => ?_, fun c => absurd ((leI (by omega) (by omega)).mpr (by omega)) c⟩
    have ht : abvB bs cs = true := decide_eq_true ⟨hlt, h47, take_ext (by omega) (fun j hj => hg j (by omega))⟩
    rw [if_pos ht] at h
    exact h
  | succ n ih =>
    intro k hn hk hg
    have hk1 : k < bs.length := by omega
    refine b_By_isAbove_29 (ygi hB.1 rfl ?_)
    rw [hv.2.1]
    refine ⟨fun c => absurd ((leI (by omega) (by omega)).mp c) (by omega), fun c => ?_⟩
    refine ygr hB.1 rfl (yal hB.2.1 (vp_in_nI (by omega) (by omega)) (ygr hO.1 rfl (yal hO.2.1 (vp_in_nI (by omega) (by omega)) ?_)))
    rw [nI_clamp (by omega), (hv.2.2 k hk1).1, (hw.2.2 k (by omega)).1]
    have b1 := (hv.2.2 k hk1).2
    have b2 := (hw.2.2 k (by omega)).2
    refine ⟨fun c => ?_, fun c => ?_⟩
    · have e := (nI_eq (by omega) (by omega)).mp c
      have := ih (k + 1) (by omega) (by omega) (fun j hj => by
        by_cases q : j = k
        · subst q; exact e
        · exact hg j (by omega))
      rw [← nI_1] at this
      exact this
    · have ht : ¬ abvB bs cs = true := fun q => c (by rw [take_getD (of_decide_eq_true q).2.2 hk1])
      rw [if_neg ht] at h
      exact h
theorem By_isAbove_sp (hB : yB Λ a cap) (hO : yB Λ o capo) (hv : yBv S a cap bs) (hw : yBv S o capo cs) (h : post (some (.int (if abvB bs cs = true then 1 else 0))) (yH Λ f0 S)) : xSp xT0 (d + 1) j_By_isAbove [.ref a, .ref o] (yH Λ f0 S) post := by
  have hc := hB.2.2
  have hc2 := hO.2.2
  have hl := hv.1
  have hl2 := hw.1
  refine xSp_of (M := m_By_isAbove) rfl (b_By_isAbove_0 (ygi hB.1 rfl (ygi hO.1 rfl ?_)))
  rw [hv.2.1, hw.2.1]
  refine ⟨fun c => ?_, fun c => ?_⟩
  · have q := (leI (by omega) (by omega)).mp c
    have ht : ¬ abvB bs cs = true := fun z => by have := (of_decide_eq_true z).1; omega
    rw [if_neg ht] at h
    exact h
  · have hlt : bs.length < cs.length := by
      have : ¬ cs.length ≤ bs.length := fun q => c ((leI (by omega) (by omega)).mpr q)
      omega
    refine ygr hO.1 rfl (ygi hB.1 rfl ?_)
    rw [hv.2.1]
    refine yal hO.2.1 (vp_in_nI (by omega) (by omega)) ?_
    rw [nI_clamp (by omega), (hw.2.2 _ hlt).1]
    have b2 := (hw.2.2 _ hlt).2
    refine ⟨fun c => ?_, fun c => ?_⟩
    · have e : cs.getD bs.length 0 = 47 := (nI_eq (b := 47) (by omega) (by omega)).mp c
      rw [← nI_0]
      exact By_isAbove_loop hB hO hv hw hlt e h _ 0 rfl (Nat.zero_le _) (fun j hj => absurd hj (Nat.not_lt_zero _))
    · have ht : ¬ abvB bs cs = true := fun z => c (by rw [(of_decide_eq_true z).2.1]; rfl)
      rw [if_neg ht] at h
      exact h
theorem nI_xor (a b : Nat) : nI a ^^^ nI b = nI (a ^^^ b) := by
  apply Int32.toBitVec_inj.mp
  rw [Int32.toBitVec_xor]
  show BitVec.ofNat 32 a ^^^ BitVec.ofNat 32 b = BitVec.ofNat 32 (a ^^^ b)
  rw [BitVec.ofNat_xor]
def sumS (h b : Nat) : Nat := (33 * h ^^^ b) % 65536
def sumB (bs : List Nat) : Nat := bs.foldl sumS 5381
theorem sumS_lt (h b : Nat) : sumS h b < 65536 := Nat.mod_lt _ (by decide)
theorem sumI {h b : Nat} (hh : h < 65536) (hb : b < 256) : ((33 : Int32) * nI h ^^^ nI b) &&& 65535 = nI (sumS h b) := by
  have e : (33 : Int32) = nI 33 := rfl
  rw [e, pk_mul, nI_xor, pk_andN (m := 65535) (h := ?_) 16 rfl]
  · rfl
  · have : 33 * h ^^^ b < 2 ^ 32 := Nat.xor_lt_two_pow (by omega) (by omega)
    exact this
theorem By_sum_loop (hB : yB Λ a cap) (hv : yBv S a cap bs) {E : Option Value → xH → Prop} (h : E (some (.int (nI (sumB bs)))) (yH Λ f0 S)) : ∀ n k s, bs.length - k = n → k ≤ bs.length → s < 65536 → sumB bs = (bs.drop k).foldl sumS s → xWp (xT0, xSp xT0 d, none, m_By_sum, E) 6 [some (.ref a), some (.int (nI s)), some (.int (nI k))] [] (yH Λ f0 S) 0 0 := by
  have hc := hB.2.2
  have hl := hv.1
  intro n
  induction n with
  | zero =>
    intro k s hn hk hs he
    refine b_By_sum_6 (ygi hB.1 rfl ?_)
    rw [hv.2.1]
    refine ⟨fun c => ?_, fun c => absurd ((leI (by omega) (by omega)).mpr (by omega)) c⟩
    rw [List.drop_of_length_le (by omega)] at he
    rw [he] at h
    exact h
  | succ n ih =>
    intro k s hn hk hs he
    have hk1 : k < bs.length := by omega
    refine b_By_sum_6 (ygi hB.1 rfl ?_)
    rw [hv.2.1]
    refine ⟨fun c => absurd ((leI (by omega) (by omega)).mp c) (by omega), fun c => ?_⟩
    refine ygr hB.1 rfl (yal hB.2.1 (vp_in_nI (by omega) (by omega)) ?_)
    rw [nI_clamp (by omega), (hv.2.2 k hk1).1, sumI hs (hv.2.2 k hk1).2]
    rw [dropG hk1, List.foldl_cons] at he
    have := ih (k + 1) _ (by omega) (by omega) (sumS_lt s (bs.getD k 0)) he
    rw [← nI_1] at this
    exact this
theorem By_sum_sp (hB : yB Λ a cap) (hv : yBv S a cap bs) (h : post (some (.int (nI (sumB bs)))) (yH Λ f0 S)) : xSp xT0 (d + 1) j_By_sum [.ref a] (yH Λ f0 S) post := by
  refine xSp_of (M := m_By_sum) rfl (b_By_sum_0 ?_)
  exact By_sum_loop hB hv h _ 0 5381 rfl (Nat.zero_le _) (by decide) rfl
/-- how many names a PATH has; 0: it is none -/
def nmGo (n l : Nat) : List Nat → Nat
  | [] => if 0 < l then n else 0
  | b :: r => if 97 ≤ b ∧ b ≤ 122 ∧ l < 5 then nmGo n (l + 1) r else if b = 47 ∧ 0 < l ∧ n < 3 then nmGo (n + 1) 0 r else 0
def nmB (bs : List Nat) : Nat := nmGo 1 0 bs
theorem By_names_loop (hB : yB Λ a cap) (hv : yBv S a cap bs) {E : Option Value → xH → Prop} (h : E (some (.int (nI (nmB bs)))) (yH Λ f0 S)) : ∀ n k nm l, bs.length - k = n → k ≤ bs.length → nm ≤ 3 → l ≤ 5 → nmB bs = nmGo nm l (bs.drop k) → xWp (xT0, xSp xT0 d, none, m_By_names, E) 6 [some (.ref a), some (.int (nI nm)), some (.int (nI l)), some (.int (nI k))] [] (yH Λ f0 S) 0 0 := by
  have hc := hB.2.2
  have hl := hv.1
  intro n
  induction n with
  | zero =>
    intro k nm l hn hk h3 h5 he
    refine b_By_names_6 (ygi hB.1 rfl ?_)
    rw [hv.2.1]
    refine ⟨fun c => ?_, fun c => absurd ((leI (by omega) (by omega)).mpr (by omega)) c⟩
    rw [List.drop_of_length_le (by omega)] at he
    unfold nmGo at he
    rw [he] at h
    refine ⟨fun c => ?_, fun c => ?_⟩
    · rw [if_neg (by have := (leI (a := l) (b := 0) (by omega) (by omega)).mp c; omega)] at h
      exact h
    · rw [if_pos (by have : ¬ l ≤ 0 := fun q => c ((leI (b := 0) (by omega) (by omega)).mpr q); omega)] at h
      exact h
  | succ n ih =>
    intro k nm l hn hk h3 h5 he
    have hk1 : k < bs.length := by omega
    have b1 := (hv.2.2 k hk1).2
    rw [dropG hk1] at he
    unfold nmGo at he
    have h47 : ¬ (97 ≤ bs.getD k 0 ∧ bs.getD k 0 ≤ 122 ∧ l < 5) → xWp (xT0, xSp xT0 d, none, m_By_names, E) 47 [some (.ref a), some (.int (nI nm)), some (.int (nI l)), some (.int (nI k))] [] (yH Λ f0 S) 0 0 := by
      intro q
      rw [if_neg q] at he
      refine b_By_names_47 (ygr hB.1 rfl (yal hB.2.1 (vp_in_nI (by omega) (by omega)) ?_))
      rw [nI_clamp (by omega), (hv.2.2 k hk1).1]
      refine ⟨fun c => ?_, fun c => ⟨fun c2 => ?_, fun c2 => ⟨fun c3 => ?_, fun c3 => ?_⟩⟩⟩
      · rw [if_neg (fun z => c (by rw [z.1]; rfl))] at he
        rw [he] at h
        exact h
      · rw [if_neg (fun z => by have := (leI (a := l) (b := 0) (by omega) (by omega)).mp c2; omega)] at he
        rw [he] at h
        exact h
      · rw [if_neg (fun z => by have := (leI (a := 3) (b := nm) (by omega) (by omega)).mp c3; omega)] at he
        rw [he] at h
        exact h
      · have z1 : bs.getD k 0 = 47 := (nI_eq (b := 47) (by omega) (by omega)).mp (Classical.not_not.mp c)
        have z2 : ¬ l ≤ 0 := fun q => c2 ((leI (b := 0) (by omega) (by omega)).mpr q)
        have z3 : ¬ 3 ≤ nm := fun q => c3 ((leI (a := 3) (by omega) (by omega)).mpr q)
        rw [if_pos ⟨z1, by omega, by omega⟩] at he
        have := ih (k + 1) (nm + 1) 0 (by omega) (by omega) (by omega) (by omega) he
        rw [← nI_1, ← nI_1] at this
        exact this
    refine b_By_names_6 (ygi hB.1 rfl ?_)
    rw [hv.2.1]
    refine ⟨fun c => absurd ((leI (by omega) (by omega)).mp c) (by omega), fun c => ?_⟩
    refine ygr hB.1 rfl (yal hB.2.1 (vp_in_nI (by omega) (by omega)) ?_)
    rw [nI_clamp (by omega), (hv.2.2 k hk1).1]
    refine ⟨fun c1 => h47 (fun z => by have := (ltI (a := bs.getD k 0) (b := 97) (by omega) (by omega)).mp c1; omega), fun c1 => ?_⟩
    refine ygr hB.1 rfl (yal hB.2.1 (vp_in_nI (by omega) (by omega)) ?_)
    rw [nI_clamp (by omega), (hv.2.2 k hk1).1]
    refine ⟨fun c2 => h47 (fun z => by have := (ltI (a := 122) (b := bs.getD k 0) (by omega) (by omega)).mp c2; omega), fun c2 => ⟨fun c3 => h47 (fun z => by have := (leI (a := 5) (b := l) (by omega) (by omega)).mp c3; omega), fun c3 => ?_⟩⟩
    have z1 : ¬ bs.getD k 0 < 97 := fun q => c1 ((ltI (b := 97) (by omega) (by omega)).mpr q)
    have z2 : ¬ 122 < bs.getD k 0 := fun q => c2 ((ltI (a := 122) (by omega) (by omega)).mpr q)
    have z3 : ¬ 5 ≤ l := fun q => c3 ((leI (a := 5) (by omega) (by omega)).mpr q)
    rw [if_pos ⟨by omega, by omega, by omega⟩] at he
    have := ih (k + 1) nm (l + 1) (by omega) (by omega) (by omega) (by omega) he
    rw [← nI_1, ← nI_1] at this
    exact this
theorem By_names_sp (hB : yB Λ a cap) (hv : yBv S a cap bs) (h : post (some (.int (nI (nmB bs)))) (yH Λ f0 S)) : xSp xT0 (d + 1) j_By_names [.ref a] (yH Λ f0 S) post := by
  refine xSp_of (M := m_By_names) rfl (b_By_names_0 ?_)
  exact By_names_loop hB hv h _ 0 1 0 rfl (Nat.zero_le _) (by decide) (by decide) rfl
/-- the four bytes of a number, the highest first -/
def be4 (x : Int32) : List Nat := [x.toBitVec.toNat / 2 ^ 24 % 256, x.toBitVec.toNat / 2 ^ 16 % 256, x.toBitVec.toNat / 2 ^ 8 % 256, x.toBitVec.toNat / 2 ^ 0 % 256]
theorem byteI (x s : Int32) (k : Nat) (hs : ((s.toUInt32 &&& Int32.toUInt32 31).toBitVec % 32).toNat = k) : ((x.toUInt32 >>> (s.toUInt32 &&& Int32.toUInt32 31)).toInt32) &&& 255 = nI (x.toBitVec.toNat / 2 ^ k % 256) := by
  rw [pk_and _ (m := 255) 8 rfl, pk_ushr x s k hs]
theorem By_addNumber_step (hW : yW Λ) (hB : yB Λ a cap) (hv : yBv S a cap bs) (hlt : bs.length < cap) {s : Int32} {k : Nat} (hs0 : ¬ s < 0) (hs : ((s.toUInt32 &&& Int32.toUInt32 31).toBitVec % 32).toNat = k) {E : Option Value → xH → Prop} (h : ∀ g v, yBv (yBw S a g v) a cap (bs ++ [x.toBitVec.toNat / 2 ^ k % 256]) → xWp (xT0, xSp xT0 (d + 1), none, m_By_addNumber, E) 3 [some (.ref a), some (.int x), some (.int (s + (-8)))] [] (yH Λ f0 (yBw S a g v)) 0 0) : xWp (xT0, xSp xT0 (d + 1), none, m_By_addNumber, E) 3 [some (.ref a), some (.int x), some (.int s)] [] (yH Λ f0 S) 0 0 := by
  refine b_By_addNumber_3 ⟨fun c => absurd c hs0, fun c => ⟨yex hB.1, By_add_sp hW hB hv (fun hl => ?_) (fun hl => absurd hl (by omega))⟩⟩
  rw [byteI x s k hs]
  exact h _ _ (yBv_add hB.2.2 hv hlt (Nat.mod_lt _ (by decide)))
theorem By_addNumber_sp (hW : yW Λ) (hB : yB Λ a cap) (hv : yBv S a cap bs) (hlt : bs.length + 4 ≤ cap) (h : ∀ g v, yBv (yBw S a g v) a cap (bs ++ be4 x) → post none (yH Λ f0 (yBw S a g v))) : xSp xT0 (d + 2) j_By_addNumber [.ref a, .int x] (yH Λ f0 S) post := by
  refine xSp_of (M := m_By_addNumber) rfl (b_By_addNumber_0 ?_)
  refine By_addNumber_step hW hB hv (by omega) (by decide) (k := 24) (by decide) (fun g1 v1 h1 => ?_)
  refine By_addNumber_step hW hB h1 (by rw [List.length_append]; show bs.length + 1 < cap; omega) (s := 24 + -8) (by decide) (k := 16) (by decide) (fun g2 v2 h2 => ?_)
  rw [yBw_w] at h2 ⊢
  refine By_addNumber_step hW hB h2 (by rw [List.length_append, List.length_append]; show bs.length + 1 + 1 < cap; omega) (s := 24 + -8 + -8) (by decide) (k := 8) (by decide) (fun g3 v3 h3 => ?_)
  rw [yBw_w] at h3 ⊢
  refine By_addNumber_step hW hB h3 (by rw [List.length_append, List.length_append, List.length_append]; show bs.length + 1 + 1 + 1 < cap; omega) (s := 24 + -8 + -8 + -8) (by decide) (k := 0) (by decide) (fun g4 v4 h4 => ?_)
  rw [yBw_w] at h4 ⊢
  refine b_By_addNumber_3 ⟨fun c => h _ _ ?_, fun c => absurd (by decide) c⟩
  have e : bs ++ be4 x = bs ++ [x.toBitVec.toNat / 2 ^ 24 % 256] ++ [x.toBitVec.toNat / 2 ^ 16 % 256] ++ [x.toBitVec.toNat / 2 ^ 8 % 256] ++ [x.toBitVec.toNat / 2 ^ 0 % 256] := by
    simp [be4]
  rw [e]
  exact h4
end
