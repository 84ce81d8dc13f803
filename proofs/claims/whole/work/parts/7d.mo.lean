/-! 7d the other object: bytes with a sign, regions of arrays -/
def sb (b : Nat) : Int32 := (nI b).toInt8.toInt32
theorem sb_and {b : Nat} (h : b < 256) : sb b &&& 255 = nI b := by
  have : ∀ q : Fin 256, sb q.val &&& 255 = nI q.val := by decide +kernel
  exact this ⟨b, h⟩
theorem sb_lo {b : Nat} (h : b < 128) : sb b = nI b := by
  have : ∀ q : Fin 128, sb q.val = nI q.val := by decide +kernel
  exact this ⟨b, h⟩
theorem sb_inj {a b : Nat} (ha : a < 256) (hb : b < 256) (h : sb a = sb b) : a = b := by
  have e : nI a = nI b := by rw [← sb_and ha, ← sb_and hb, h]
  exact (nI_eq (by omega) (by omega)).mp e
theorem sb_id (b : Nat) : (sb b).toInt8.toInt32 = sb b := by
  unfold sb
  rw [Int8.toInt8_toInt32]
theorem sb_lt {a b : Nat} (ha : a < 128) (hb : b < 128) : sb a < sb b ↔ a < b := by rw [sb_lo ha, sb_lo hb]; exact ltI (by omega) (by omega)
/-- bytes that stand in an array, from a place on -/
def rg (A : Nat → Int32) (p : Nat) (bs : List Nat) : Prop := ∀ k, k < bs.length → A (p + k) = sb (bs.getD k 0) ∧ bs.getD k 0 < 256
theorem rg_take {A : Nat → Int32} {p n : Nat} {bs : List Nat} (h : rg A p bs) : rg A p (bs.take n) := fun k hk => by
  rw [List.length_take] at hk
  rw [List.getD_eq_getElem?_getD, List.getElem?_take, if_pos (by omega), ← List.getD_eq_getElem?_getD]
  exact h k (by omega)
theorem rg_e {A A' : Nat → Int32} {p : Nat} {bs : List Nat} (h : rg A p bs) (he : ∀ k, k < bs.length → A' (p + k) = A (p + k)) : rg A' p bs := fun k hk => ⟨(he k hk).trans (h k hk).1, (h k hk).2⟩
theorem rg_cpy {A A' : Nat → Int32} {p q n : Nat} {bs : List Nat} (h : rg A p bs) (hn : bs.length ≤ n) : rg (va_cpy A A' p q n) q bs := fun k hk => by
  rw [pk_cpy_in (by omega) (by omega), show q + k - q = k by omega]
  exact h k hk
def ordM : List Nat → List Nat → Int32
  | [], [] => 0
  | [], _ :: _ => -1
  | _ :: _, [] => 1
  | x :: xs, y :: ys => if x = y then ordM xs ys else if sb y ≤ sb x then 1 else -1
theorem ordM_c (x y : Nat) (xs ys : List Nat) : ordM (x :: xs) (y :: ys) = if x = y then ordM xs ys else if sb y ≤ sb x then 1 else -1 := rfl
theorem ordM_0 : ∀ {xs ys : List Nat}, ordM xs ys = 0 ↔ xs = ys
  | [], [] => ⟨fun _ => rfl, fun _ => rfl⟩
  | [], _ :: _ => ⟨fun h => absurd h (by show ¬ (-1 : Int32) = 0; decide), fun h => by cases h⟩
  | _ :: _, [] => ⟨fun h => absurd h (by show ¬ (1 : Int32) = 0; decide), fun h => by cases h⟩
  | x :: xs, y :: ys => by
    rw [ordM_c]
    by_cases c : x = y
    · rw [if_pos c, ordM_0, c]
      exact ⟨fun h => by rw [h], fun h => (List.cons.inj h).2⟩
    · rw [if_neg c]
      refine ⟨fun h => ?_, fun h => absurd (List.cons.inj h).1 c⟩
      split at h
      · exact absurd h (by decide)
      · exact absurd h (by decide)
def okP (bs : List Nat) : Prop := ∀ b, b ∈ bs → b < 128
theorem ordM_p : ∀ {xs ys : List Nat}, okP xs → okP ys → (0 < ordM xs ys ↔ ordV ys xs < 0)
  | [], [], _, _ => ⟨fun h => absurd h (by show ¬ (0 : Int32) < 0; decide), fun h => absurd h (by simp [ordV])⟩
  | [], y :: ys, _, _ => ⟨fun h => absurd h (by show ¬ (0 : Int32) < -1; decide), fun h => absurd h (by simp [ordV]; omega)⟩
  | x :: xs, [], _, _ => ⟨fun _ => by simp [ordV], fun _ => by show (0 : Int32) < 1; decide⟩
  | x :: xs, y :: ys, h1, h2 => by
    have hx := h1 x (List.mem_cons_self ..)
    have hy := h2 y (List.mem_cons_self ..)
    rw [ordM_c, ordV_cons]
    by_cases c : x = y
    · rw [if_pos c, if_pos c.symm]
      exact ordM_p (fun b hb => h1 b (List.mem_cons_of_mem _ hb)) (fun b hb => h2 b (List.mem_cons_of_mem _ hb))
    · rw [if_neg c, if_neg (show ¬ y = x from fun z => c z.symm), sb_lo hx, sb_lo hy]
      by_cases c2 : y ≤ x
      · rw [if_pos ((leI (by omega) (by omega)).mpr c2)]
        exact ⟨fun _ => by omega, fun _ => by decide⟩
      · rw [if_neg (fun z => c2 ((leI (by omega) (by omega)).mp z))]
        exact ⟨fun z => absurd z (by decide), fun z => by omega⟩
/-- 'in' -/
theorem in_L {x : Int32} {n : Nat} {L : Int64} (hn : n < 2 ^ 31) (hL : L.toInt = (n : Int) - 1) : ((0 : Int64) ≤ x.toInt64 ∧ x.toInt64 ≤ L) ↔ ∃ i, i < n ∧ x = nI i := by
  rw [Int64.le_iff_toInt_le, Int64.le_iff_toInt_le, Int32.toInt_toInt64, hL, show (0 : Int64).toInt = 0 from rfl]
  rcases pk_ix x (n := n) hn with q | q | ⟨k, hk, e⟩
  · have q2 := Int32.lt_iff_toInt_lt.mp q
    rw [show (0 : Int32).toInt = 0 from rfl] at q2
    refine ⟨fun z => by omega, fun ⟨i, hi, e⟩ => absurd q (by rw [e]; exact nI_pos (by omega))⟩
  · have q2 := Int32.le_iff_toInt_le.mp q
    rw [nI_toInt hn] at q2
    refine ⟨fun z => by omega, fun ⟨i, hi, e⟩ => absurd q (by rw [e]; exact fun z => absurd ((leI (by omega) (by omega)).mp z) (by omega))⟩
  · refine ⟨fun _ => ⟨k, hk, e⟩, fun _ => ?_⟩
    rw [e, nI_toInt (by omega)]
    omega
theorem brT {x : Int32} {n : Nat} {L : Int64} {A B : Prop} (hn : n < 2 ^ 31) (hL : L.toInt = (n : Int) - 1) (f : tIx n x = none → A) (g : ∀ i, i < n → x = nI i → tIx n x = some i → B) : xbr ((if (0 : Int64) ≤ x.toInt64 ∧ x.toInt64 ≤ L then (1 : Int32) else 0) = 0) A B := by
  by_cases c : (0 : Int64) ≤ x.toInt64 ∧ x.toInt64 ≤ L
  · rw [if_pos c]
    obtain ⟨i, hi, e⟩ := (in_L hn hL).mp c
    exact ⟨fun z => absurd z (by decide), fun _ => g i hi e (by rw [e]; exact tIx_s hn hi)⟩
  · rw [if_neg c]
    refine ⟨fun _ => f ?_, fun z => absurd rfl z⟩
    rcases tIx_c n hn x with q | ⟨i, hi, e, _⟩
    · exact q.1
    · exact absurd ((in_L hn hL).mpr ⟨i, hi, e⟩) c
theorem brTn {x : Int32} {n : Nat} {L : Int64} {A B : Prop} (hn : n < 2 ^ 31) (hL : L.toInt = (n : Int) - 1) (f : tIx n x = none → B) (g : ∀ i, i < n → x = nI i → tIx n x = some i → A) : xbr (¬ (if (0 : Int64) ≤ x.toInt64 ∧ x.toInt64 ≤ L then (1 : Int32) else 0) = 0) A B := by
  have := brT (x := x) (n := n) (L := L) (A := B) (B := A) hn hL f g
  exact ⟨fun c => this.2 c, fun c => this.1 (Classical.not_not.mp c)⟩
theorem L_n {n : Nat} (hn : n < 2 ^ 30) : (nI n - 1).toInt64.toInt = (n : Int) - 1 := by
  rw [Int32.toInt_toInt64]
  exact pk_sub_toInt (b := 1) hn (by omega)
section
variable {Λ : yL} {f0 : xH} {S S' : yS} {r q d p1 p2 n1 n2 c1 c2 j1 j2 o1 o2 : Nat} {xs ys : List Nat} {post : Option Value → xH → Prop}
theorem Mo_at_sp {t i : Nat} (hp : post (some (.int (nI (10 * t + i)))) (yH Λ f0 S)) : xSp xT0 (d + 1) j_Mo_at [.int (nI t), .int (nI i)] (yH Λ f0 S) post := by
  refine xSp_of (M := m_Mo_at) rfl (b_Mo_at_0 ?_)
  have e : (10 : Int32) * nI t + nI i = nI (10 * t + i) := by
    have : (10 : Int32) * nI t = nI (10 * t) := pk_mul 10 t
    rw [this, nI_add]
  unfold B_Mo_at_0
  rw [e]
  exact hp
theorem Mo_order_sp (h1 : yn Λ r c1 j1 o1 2 n1) (h2 : yn Λ q c2 j2 o2 2 n2) (g1 : rg (yA S c1 j1 o1) p1 xs) (g2 : rg (yA S c2 j2 o2) p2 ys) (b1 : p1 + xs.length ≤ n1) (b2 : p2 + ys.length ≤ n2) (m1 : n1 < 2 ^ 30) (m2 : n2 < 2 ^ 30) (hp : post (some (.int (ordM xs ys))) (yH Λ f0 S)) : xSp xT0 (d + 1) j_Mo_order [.ref r, .int (nI p1), .int (nI xs.length), .ref q, .int (nI p2), .int (nI ys.length)] (yH Λ f0 S) post := by
  have h60 : ∀ k, k = min xs.length ys.length → ordM xs ys = ordM (xs.drop k) (ys.drop k) → xWp (xT0, xSp xT0 d, none, m_Mo_order, post) 60 [some (.ref r), some (.int (nI p1)), some (.int (nI xs.length)), some (.ref q), some (.int (nI p2)), some (.int (nI ys.length)), some (.int (nI k))] [] (yH Λ f0 S) 0 0 := by
    intro k hk e
    refine b_Mo_order_60 (brne (by omega) (by omega) (fun c => brle (by omega) (by omega) (fun c3 => ?_) (fun c3 => ?_)) (fun c => ?_))
    · rw [e, List.drop_of_length_le (l := ys) (by omega), dropG (bs := xs) (by omega)] at hp
      exact hp
    · rw [e, List.drop_of_length_le (l := xs) (by omega), dropG (bs := ys) (by omega)] at hp
      exact hp
    · rw [e, List.drop_of_length_le (l := xs) (by omega), List.drop_of_length_le (l := ys) (by omega)] at hp
      exact hp
  refine xSp_of (M := m_Mo_order) rfl (b_Mo_order_0 ?_)
  have hlo : ∀ k, k ≤ min xs.length ys.length → (ordM xs ys = ordM (xs.drop k) (ys.drop k) → xWp (xT0, xSp xT0 d, none, m_Mo_order, post) 3 [some (.ref r), some (.int (nI p1)), some (.int (nI xs.length)), some (.ref q), some (.int (nI p2)), some (.int (nI ys.length)), some (.int (nI k))] [] (yH Λ f0 S) 0 0) := by
    refine loopUp ?_ ?_
    · intro e
      exact b_Mo_order_3 (brle (by omega) (by omega) (fun _ => h60 _ rfl e) (fun c => brle (by omega) (by omega) (fun _ => h60 _ rfl e) (fun c2 => by omega)))
    · intro k hk ih e
      have hx := g1 k (by omega)
      have hy := g2 k (by omega)
      rw [dropG (bs := xs) (by omega), dropG (bs := ys) (by omega), ordM_c] at e
      refine b_Mo_order_3 (brle (by omega) (by omega) (fun c => by omega) (fun _ => brle (by omega) (by omega) (fun c => by omega) (fun _ => ?_)))
      rw [nI_add, nI_add, nI_1]
      refine yal h1 (vp_in_nI (by omega) (by omega)) (yal h2 (vp_in_nI (by omega) (by omega)) ?_)
      rw [nI_clamp (by omega), nI_clamp (by omega), hx.1, hy.1]
      by_cases c : xs.getD k 0 = ys.getD k 0
      · rw [if_pos c] at e
        rw [c]
        exact ⟨fun _ => ih e, fun z => absurd rfl z⟩
      · rw [if_neg c] at e
        refine ⟨fun z => absurd (sb_inj hx.2 hy.2 z) c, fun _ => yal h1 (vp_in_nI (by omega) (by omega)) (yal h2 (vp_in_nI (by omega) (by omega)) ?_)⟩
        rw [nI_clamp (by omega), nI_clamp (by omega), hx.1, hy.1]
        rw [e] at hp
        refine ⟨fun z => ?_, fun z => ?_⟩
        · rw [if_pos z] at hp; exact hp
        · rw [if_neg z] at hp; exact hp
  exact hlo 0 (Nat.zero_le _) rfl
theorem Mo_isUpTo_sp (h1 : yn Λ r c1 j1 o1 2 n1) (h2 : yn Λ q c2 j2 o2 2 n2) (g1 : rg (yA S c1 j1 o1) p1 xs) (g2 : rg (yA S c2 j2 o2) p2 ys) (b1 : p1 + xs.length ≤ n1) (b2 : p2 + ys.length ≤ n2) (m1 : n1 < 2 ^ 30) (m2 : n2 < 2 ^ 30) (hp : post (some (.int (bI (abvB xs ys)))) (yH Λ f0 S)) : xSp xT0 (d + 2) j_Mo_isUpTo [.ref r, .int (nI p1), .int (nI xs.length), .ref q, .int (nI p2), .int (nI ys.length)] (yH Λ f0 S) post := by
  unfold abvB at hp
  refine xSp_of (M := m_Mo_isUpTo) rfl (b_Mo_isUpTo_0 (brle (by omega) (by omega) (fun c => ?_) (fun c => ?_)))
  · rw [decide_eq_false (fun z => by omega)] at hp; exact hp
  · have hy := g2 xs.length c
    rw [nI_add]
    refine yal h2 (vp_in_nI (by omega) (by omega)) ?_
    rw [nI_clamp (by omega), hy.1]
    refine ⟨fun c2 => ?_, fun c2 => ?_⟩
    · rw [decide_eq_false (fun z => c2 (by rw [z.2.1]; decide +kernel))] at hp; exact hp
    · have c2 : sb (ys.getD xs.length 0) = 47 := Classical.not_not.mp c2
      have e47 : ys.getD xs.length 0 = 47 := sb_inj hy.2 (by omega) (by rw [c2]; decide +kernel)
      have hl : (ys.take xs.length).length = xs.length := by rw [List.length_take]; omega
      have := Mo_order_sp (d := d) (f0 := f0) (post := fun w2 f3 => xvi w2 (fun v4 => xbr (¬ v4 = 0) (post (some (.int 0)) f3) (post (some (.int 1)) f3))) h1 h2 g1 (rg_take (n := xs.length) g2) b1 (by omega) m1 m2 (xviI ⟨fun c3 => ?_, fun c3 => ?_⟩)
      · rw [hl] at this
        exact this
      · rw [decide_eq_false (fun z => c3 (ordM_0.mpr z.2.2.symm))] at hp; exact hp
      · rw [decide_eq_true ⟨c, e47, (ordM_0.mp (Classical.not_not.mp c3)).symm⟩] at hp; exact hp
theorem Mo_isInTheWay_sp (h1 : yn Λ r c1 j1 o1 2 n1) (h2 : yn Λ q c2 j2 o2 2 n2) (g1 : rg (yA S c1 j1 o1) p1 xs) (g2 : rg (yA S c2 j2 o2) p2 ys) (b1 : p1 + xs.length ≤ n1) (b2 : p2 + ys.length ≤ n2) (m1 : n1 < 2 ^ 30) (m2 : n2 < 2 ^ 30) (hp : post (some (.int (bI (abvB xs ys || abvB ys xs)))) (yH Λ f0 S)) : xSp xT0 (d + 3) j_Mo_isInTheWay [.ref r, .int (nI p1), .int (nI xs.length), .ref q, .int (nI p2), .int (nI ys.length)] (yH Λ f0 S) post := by
  refine xSp_of (M := m_Mo_isInTheWay) rfl (b_Mo_isInTheWay_0 (Mo_isUpTo_sp h1 h2 g1 g2 b1 b2 m1 m2 (xviI (brBn (fun e => ?_) (fun e => Mo_isUpTo_sp h2 h1 g2 g1 b2 b1 m2 m1 (xviI (brB (fun e2 => ?_) (fun e2 => ?_))))))))
  · rw [e] at hp; exact hp
  · rw [e, e2] at hp; exact hp
  · rw [e, e2] at hp; exact hp
theorem Mo_sum_sp (h1 : yn Λ r c1 j1 o1 2 n1) (g1 : rg (yA S c1 j1 o1) p1 xs) (b1 : p1 + xs.length ≤ n1) (m1 : n1 < 2 ^ 30) (hp : post (some (.int (nI (sumB xs)))) (yH Λ f0 S)) : xSp xT0 (d + 1) j_Mo_sum [.ref r, .int (nI p1), .int (nI xs.length)] (yH Λ f0 S) post := by
  refine xSp_of (M := m_Mo_sum) rfl (b_Mo_sum_0 ?_)
  have hlo : ∀ k, k ≤ xs.length → (∀ s, s < 65536 → sumB xs = (xs.drop k).foldl sumS s → xWp (xT0, xSp xT0 d, none, m_Mo_sum, post) 7 [some (.ref r), some (.int (nI p1)), some (.int (nI xs.length)), some (.int (nI s)), some (.int (nI k))] [] (yH Λ f0 S) 0 0) := by
    refine loopUp ?_ ?_
    · intro s hs e
      refine b_Mo_sum_7 (brle (by omega) (by omega) (fun _ => ?_) (fun c => by omega))
      rw [List.drop_of_length_le (Nat.le_refl _)] at e
      have e : sumB xs = s := e
      rw [e] at hp
      exact hp
    · intro k hk ih s hs e
      have hx := g1 k hk
      rw [dropG hk] at e
      refine b_Mo_sum_7 (brle (by omega) (by omega) (fun c => by omega) (fun _ => ?_))
      rw [nI_add, nI_1]
      refine yal h1 (vp_in_nI (by omega) (by omega)) ?_
      rw [nI_clamp (by omega), hx.1, sb_and hx.2, sumI hs hx.2]
      exact ih _ (sumS_lt _ _) e
  exact hlo 0 (Nat.zero_le _) 5381 (by omega) rfl
/-- n bytes from one place to another -/
theorem Mo_move_sp (hW : yW Λ) (h1 : yn Λ r c1 j1 o1 2 n1) (h2 : yn Λ q c2 j2 o2 2 n2) {n : Nat} (g1 : ∀ k, k < n → (yA S c1 j1 o1 (p1 + k)).toInt8.toInt32 = yA S c1 j1 o1 (p1 + k)) (b1 : p1 + n ≤ n1) (b2 : p2 + n ≤ n2) (m1 : n1 < 2 ^ 30) (m2 : n2 < 2 ^ 30) (hd : ¬ (c1 = c2 ∧ j1 = j2 ∧ o1 = o2) ∨ p1 + n ≤ p2 ∨ p2 + n ≤ p1) (hp : post none (yH Λ f0 (ywA S c2 j2 o2 (va_cpy (yA S c1 j1 o1) (yA S c2 j2 o2) p1 p2 n)))) : xSp xT0 (d + 1) j_Mo_move [.ref r, .int (nI p1), .ref q, .int (nI p2), .int (nI n)] (yH Λ f0 S) post := by
  refine xSp_of (M := m_Mo_move) rfl (b_Mo_move_0 ?_)
  have hlo : ∀ k, k ≤ n → xWp (xT0, xSp xT0 d, none, m_Mo_move, post) 3 [some (.ref r), some (.int (nI p1)), some (.ref q), some (.int (nI p2)), some (.int (nI n)), some (.int (nI k))] [] (yH Λ f0 (ywA S c2 j2 o2 (va_cpy (yA S c1 j1 o1) (yA S c2 j2 o2) p1 p2 k))) 0 0 := by
    refine loopUp ?_ ?_
    · exact b_Mo_move_3 (brle (by omega) (by omega) (fun _ => hp) (fun c => by omega))
    · intro k hk ih
      refine b_Mo_move_3 (brle (by omega) (by omega) (fun c => by omega) (fun _ => ?_))
      rw [nI_add, nI_add, nI_1]
      have e : yA (ywA S c2 j2 o2 (va_cpy (yA S c1 j1 o1) (yA S c2 j2 o2) p1 p2 k)) c1 j1 o1 (p1 + k) = yA S c1 j1 o1 (p1 + k) := by
        by_cases c : c1 = c2 ∧ j1 = j2 ∧ o1 = o2
        · obtain ⟨rfl, rfl, rfl⟩ := c
          have hd : p1 + n ≤ p2 ∨ p2 + n ≤ p1 := hd.resolve_left (fun z => z ⟨rfl, rfl, rfl⟩)
          rw [yA_s, pk_cpy_out (by omega)]
        · rw [yA_n _ _ c]
      refine yal h1 (vp_in_nI (by omega) (by omega)) (yas h2 (yW_n hW h2) (vp_in_nI (by omega) (by omega)) ?_)
      rw [nI_clamp (by omega), nI_clamp (by omega), e, g1 k hk, yA_s, ywA_A]
      have e2 : upd (va_cpy (yA S c1 j1 o1) (yA S c2 j2 o2) p1 p2 k) (p2 + k) (yA S c1 j1 o1 (p1 + k)) = va_cpy (yA S c1 j1 o1) (yA S c2 j2 o2) p1 p2 (k + 1) := by
        funext z
        by_cases hz : z = p2 + k
        · rw [hz, pk_us, pk_cpy_in (by omega) (by omega), show p2 + k - p2 = k by omega]
        · rw [pk_un hz]
          by_cases hz2 : p2 ≤ z ∧ z < p2 + k
          · rw [pk_cpy_in hz2.1 hz2.2, pk_cpy_in (by omega) (by omega)]
          · rw [pk_cpy_out (by omega), pk_cpy_out (by omega)]
      rw [e2]
      exact ih
  have h0 := hlo 0 (Nat.zero_le _)
  have e0 : va_cpy (yA S c1 j1 o1) (yA S c2 j2 o2) p1 p2 0 = yA S c2 j2 o2 := by
    funext z
    exact pk_cpy_out (by omega)
  rw [e0, ywA_same] at h0
  exact h0
end
