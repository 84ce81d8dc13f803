/-! 7zy the law -/
section
variable {Λ : yL} {f0 : xH} {S S' S1 S2 : yS} {x m d : Nat} {T P C Lx : Nat → Nat} {PL : Nat → Nat → Nat} {B : Ab} {E0 : yS × Nat}
theorem mQ_e (hI : ∀ j, yI S' 11 j m = yI S 11 j m) (hA : ∀ j, yA S' 11 j m = yA S 11 j m) (q : mQ Λ S m B) : mQ Λ S' m B := by
  obtain ⟨q0, q1, q2, q3, q4, q5, q6⟩ := q
  refine ⟨q0, ?_, ?_, ?_, ?_, ?_, ?_⟩
  · unfold mTa; rw [hI, hA]; exact q1
  · unfold mHa; rw [hI, hA]; exact q2
  · refine ⟨q3.1, by rw [hI]; exact q3.2.1, fun t ht => ?_⟩
    obtain ⟨a, b, c⟩ := q3.2.2 t ht
    exact ⟨a, by rw [hA]; exact b, fun i hi => by unfold mF; rw [hA, hA, hA, hA]; exact c i hi⟩
  · refine ⟨q4.1, by rw [hI]; exact q4.2.1, fun t ht => ?_⟩
    obtain ⟨a, b, c⟩ := q4.2.2 t ht
    exact ⟨a, by rw [hA]; exact b, fun i hi => by unfold mS; rw [hA, hA, hA, hA, hA, hA, hA, hA, hA, hA, hA]; exact c i hi⟩
  · exact ⟨q5.1, by rw [hI]; exact q5.2.1, fun k hk => by rw [hA, hA]; exact q5.2.2 k hk⟩
  · obtain ⟨d1, d2, d3, d4, d5, d6, d7⟩ := q6
    refine ⟨fun s hs => ?_, fun i hi => ?_, d3, by rw [hI]; exact d4, by rw [hI]; exact d5, by rw [hI]; exact d6, by rw [hI]; exact d7⟩
    · have := d1 s hs
      unfold mSl at this ⊢
      split
      · rename_i h0
        rw [h0] at this
        rw [hA]; exact this
      · rename_i b h0
        rw [h0] at this
        rw [hA, hA]; exact this
    · obtain ⟨a, b, c⟩ := d2 i hi
      refine ⟨a, by rw [hA]; exact b, fun k hk => ?_⟩
      unfold mLe
      rw [hA, hA, hA]
      exact c k hk
theorem yQ_11 (k : yFr (A11 m) S S') (hm : yo Λ m 11 ∧ own Λ m = m) (h : yQ Λ E0 S x T P C Lx PL B) : yQ Λ (S', m) S' x T P C Lx PL B := by
  have n : ∀ {c a}, c ≠ 11 → ¬ A11 m c a := fun hc z => hc z.1
  obtain ⟨h1, h2, h3, h4, h5, h6, ⟨⟨a1, a2, a3, a4, a5⟩, b, c, f⟩, h8⟩ := h
  refine ⟨h1, ⟨yFr_Bv k (n (by decide)) h2.1, yFr_Bv k (n (by decide)) h2.2⟩, ⟨fun t ht => ⟨?_, ?_⟩, h3.2.1, ?_, fun t ht => ?_⟩, ⟨fun t ht => ⟨?_, ?_⟩, h4.2.1, ?_, fun t ht => ?_⟩, fun j hj => ?_, yCf_fr k (n (by decide)) h6, ⟨⟨a1, fun s hs => ⟨?_, (a2 s hs).2⟩, a3, fun i hi => ⟨?_, (a4 i hi).2⟩, a5⟩, fun s hs => ⟨?_, ?_⟩, fun i hi => ?_, ?_⟩, hm.1, hm.2, fun _ => ⟨rfl, rfl⟩⟩
  · rw [(k 0 2 x (n (by decide))).2.2]; exact (h3.1 t ht).1
  · exact (h3.1 t ht).2.imp (fun fs hf => yFr_Tv k (n (by decide)) (fun _ _ _ _ => n (by decide)) hf)
  · rw [(k 0 7 x (n (by decide))).1]; exact h3.2.2.1
  · exact yFr_Tv k (n (by decide)) (fun _ _ _ _ => n (by decide)) (h3.2.2.2 t ht)
  · rw [(k 0 3 x (n (by decide))).2.2]; exact (h4.1 t ht).1
  · obtain ⟨vs, Q, hq⟩ := (h4.1 t ht).2
    exact ⟨vs, Q, yFr_Pq k (n (by decide)) (fun _ _ => n (by decide)) (fun _ _ => ⟨n (by decide), n (by decide)⟩) hq⟩
  · rw [(k 0 8 x (n (by decide))).1]; exact h4.2.2.1
  · exact (h4.2.2.2 t ht).imp (fun Q hq => yFr_Pq k (n (by decide)) (fun _ _ => n (by decide)) (fun _ _ => ⟨n (by decide), n (by decide)⟩) hq)
  · obtain ⟨r, e1, e2⟩ := h5 j hj
    exact ⟨r, by rw [(k 7 3 _ (n (by decide))).2.2]; exact e1, e2⟩
  · rw [(k 10 0 _ (n (by decide))).2.2]; exact (a2 s hs).1
  · rw [(k 10 2 _ (n (by decide))).2.2]; exact (a4 i hi).1
  · exact yFr_Bv k (n (by decide)) (b s hs).1
  · rw [(k 10 1 _ (n (by decide))).2.1]; exact (b s hs).2
  · exact yLv_fr k (n (by decide)) (fun _ _ _ _ => n (by decide)) (c i hi)
  · refine ⟨f.1, ?_, ?_, ?_, ?_⟩
    · rw [(k 10 4 _ (n (by decide))).1]; exact f.2.1
    · rw [(k 10 5 _ (n (by decide))).1]; exact f.2.2.1
    · rw [(k 10 6 _ (n (by decide))).1]; exact f.2.2.2.1
    · rw [(k 10 7 _ (n (by decide))).1]; exact f.2.2.2.2
/-- both objects stand for one state -/
def JQ (Λ : yL) (S : yS) (x m : Nat) (T P C Lx : Nat → Nat) (PL : Nat → Nat → Nat) (B : Ab) : Prop := yQ Λ (S, m) S x T P C Lx PL B ∧ mQ Λ S m B ∧ okB B
theorem JQ_m (h : JQ Λ S x m T P C Lx PL B) {B' : Ab} (h1 : yQ Λ (S, m) S1 x T P C Lx PL B') : mQ Λ S1 m B := mQ_e (fun j => (h1.2.2.2.2.2.2.2.2.2 j).1) (fun j => (h1.2.2.2.2.2.2.2.2.2 j).2) h.2.1
theorem JQ_n (h : JQ Λ S x m T P C Lx PL B) {B' : Ab} (h1 : yQ Λ (S, m) S1 x T P C Lx PL B') (k : yFr (A11 m) S1 S2) (q : mQ Λ S2 m B') (ho : okB B') : JQ Λ S2 x m T P C Lx PL B' := ⟨yQ_11 k ⟨h.2.1.1.2.1, h.2.1.1.2.2.1⟩ h1, q, ho⟩
theorem nI_m6 {L i : Nat} (hL : L ≤ 3072) (hi : i ≤ 4000) : nI L - 6 < nI i ↔ L < i + 6 := by
  rw [Int32.lt_iff_toInt_lt]
  have e1 : (nI i).toInt = i := nI_toInt (by omega)
  have e2 : (nI L - 6).toInt = (L : Int) - 6 := by
    have : (nI L).toInt = L := nI_toInt (by omega)
    rw [Int32.toInt_sub, this]
    show ((L : Int) - 6).bmod (2 ^ 32) = _
    rw [Int.bmod_eq_of_le (by omega) (by omega)]
  rw [e1, e2]
  omega

theorem law_loop {L b : Nat} {xs : Nat → Int32} (hL : L ≤ 3072) {cu su : Nat} (hf : cu ≤ 600000 ∧ su ≤ 7302250) : ∀ n i, i ≤ 4000 → L + 6 ≤ i + n → ∀ S B, JQ Λ S x m T P C Lx PL B → xWp (xT0, xSp xT0 9, some (b, L, xs), m_law, fun v _ => v = some (.int 1)) 18 [some (.ref b), some (.ref x), some (.ref m), some (.int (nI i))] [] (yH Λ f0 S) cu su := by
  intro n
  induction n with
  | zero =>
    intro i hi4 hn S B h
    exact b_law_18 hf ⟨fun _ => rfl, fun z => absurd ((nI_m6 hL hi4).mpr (by omega)) z⟩
  | succ n ihn =>
    intro i hi4 hn S B h
    by_cases hx : L < i + 6
    · exact b_law_18 hf ⟨fun _ => rfl, fun z => absurd ((nI_m6 hL hi4).mpr hx) z⟩
    · have ih : ∀ S B, JQ Λ S x m T P C Lx PL B → xWp (xT0, xSp xT0 9, some (b, L, xs), m_law, fun v _ => v = some (.int 1)) 18 [some (.ref b), some (.ref x), some (.ref m), some (.int (nI i + 6))] [] (yH Λ f0 S) cu su := fun S B h => by
        rw [show nI i + 6 = nI (i + 6) from nI_add i 6]
        exact ihn (i + 6) (by omega) (by omega) S B h
      have v0 : vp_in (nI i) L := vp_in_nI (by omega) (by omega)
      have v1 : vp_in (nI i + 1) L := by rw [show nI i + 1 = nI (i + 1) from nI_add i 1]; exact vp_in_nI (by omega) (by omega)
      have v2 : vp_in (nI i + 2) L := by rw [show nI i + 2 = nI (i + 2) from nI_add i 2]; exact vp_in_nI (by omega) (by omega)
      have v3 : vp_in (nI i + 3) L := by rw [show nI i + 3 = nI (i + 3) from nI_add i 3]; exact vp_in_nI (by omega) (by omega)
      have v4 : vp_in (nI i + 4) L := by rw [show nI i + 4 = nI (i + 4) from nI_add i 4]; exact vp_in_nI (by omega) (by omega)
      have v5 : vp_in (nI i + 5) L := by rw [show nI i + 5 = nI (i + 5) from nI_add i 5]; exact vp_in_nI (by omega) (by omega)
      have ox := h.1.1.2.1.1
      have om := h.2.1.1.2.1
      have h666 : ∀ (st : Bool), (st = true ↔ ¬ xs (nI i + 3).toNatClampNeg = 0) → xWp (xT0, xSp xT0 9, some (b, L, xs), m_law, fun v _ => v = some (.int 1)) 666 [some (.ref b), some (.ref x), some (.ref m), some (.int (nI i))] [.int (bI st), .int (xs (nI i + 2).toNatClampNeg), .int (xs (nI i + 1).toNatClampNeg), .ref x] (yH Λ f0 S) cu su := fun st hst => by
        refine b_law_666 hf ⟨yex ox, X_apply h.1 (fun S1 h1 => xviI ⟨v1, v2, v3, fun c0 => ?_, fun c0 => ?_⟩)⟩
        · have e : st = false := Bool.eq_false_iff.mpr (fun z => hst.mp z c0)
          subst e
          exact ⟨yex om, M_apply (st := false) (JQ_m h h1) h.2.2.1 (okB_ov h.2.2) (okB_dis h.2.2) (fun S2 k2 q2 => xviI ⟨fun _ => ih S2 _ (JQ_n h h1 k2 q2 (okB_apply h.2.1 h.2.2)), fun z => absurd rfl z⟩)⟩
        · have e : st = true := hst.mpr c0
          subst e
          exact ⟨yex om, M_apply (st := true) (JQ_m h h1) h.2.2.1 (okB_ov h.2.2) (okB_dis h.2.2) (fun S2 k2 q2 => xviI ⟨fun _ => ih S2 _ (JQ_n h h1 k2 q2 (okB_apply h.2.1 h.2.2)), fun z => absurd rfl z⟩)⟩
      refine b_law_18 hf ⟨fun z => absurd ((nI_m6 hL hi4).mp z) hx, fun _ => ⟨v0, ?_⟩⟩
      refine ⟨fun _ => ⟨v1, v2, v3, v4, v5, yex ox, X_feed h.1 (fun S1 h1 => xviI ⟨v1, v2, v3, v4, v5, yex om, M_feed (JQ_m h h1) (fun S2 k2 q2 => xviI ⟨fun _ => ih S2 _ (JQ_n h h1 k2 q2 (okB_feed h.2.2)), fun z => absurd rfl z⟩)⟩)⟩, fun _ => ?_⟩
      refine ⟨fun _ => ⟨v1, yex ox, X_end h.1 (fun S1 h1 => xviI ⟨v1, yex om, M_end (JQ_m h h1) (fun S2 k2 q2 => xviI ⟨fun _ => ih S2 _ (JQ_n h h1 k2 q2 (okB_end h.2.2)), fun z => absurd rfl z⟩)⟩)⟩, fun _ => ?_⟩
      refine ⟨fun _ => ⟨yex ox, X_path h.1 (fun S1 h1 => xviI ⟨yex om, M_path (JQ_m h h1) (fun S2 k2 q2 => xviI ⟨fun _ => ih S2 _ (JQ_n h h1 k2 q2 (okB_path h.2.2)), fun z => absurd rfl z⟩)⟩)⟩, fun _ => ?_⟩
      refine ⟨fun _ => ⟨v1, yex ox, X_tree h.1 (fun S1 h1 => xviI ⟨v1, yex om, M_tree (JQ_m h h1) (fun S2 k2 q2 => xviI ⟨fun _ => ih S2 _ (JQ_n h h1 k2 q2 (okB_tree h.2.2)), fun z => absurd rfl z⟩)⟩)⟩, fun _ => ?_⟩
      refine ⟨fun _ => ⟨v1, yex ox, X_put h.1 (fun S1 h1 => xviI ⟨v1, yex om, M_put (JQ_m h h1) h.2.2.1 h.2.2.2.1 (fun S2 k2 q2 => xviI ⟨fun _ => ih S2 _ (JQ_n h h1 k2 q2 (okB_put h.2.2)), fun z => absurd rfl z⟩)⟩)⟩, fun _ => ?_⟩
      refine ⟨fun _ => ⟨v1, yex ox, X_drop h.1 (fun S1 h1 => xviI ⟨v1, yex om, M_drop (JQ_m h h1) (fun S2 k2 q2 => xviI ⟨fun _ => ih S2 _ (JQ_n h h1 k2 q2 (okB_drop h.2.2)), fun z => absurd rfl z⟩)⟩)⟩, fun _ => ?_⟩
      refine ⟨fun _ => ⟨v1, v2, v3, yex ox, X_file h.1 (xviI ⟨v1, v2, v3, yex om, M_file h.2.1 (fun S2 k2 q2 => xviI ⟨fun _ => ih S2 _ (JQ_n h h.1 k2 q2 (h.2.2)), fun z => absurd rfl z⟩)⟩)⟩, fun _ => ?_⟩
      refine ⟨fun _ => ⟨v1, v2, v3, v4, yex ox, X_byteOf h.1 (xviI ⟨v1, v2, v3, v4, yex om, M_byteOf h.2.1 h.2.2.1 (fun S2 k2 q2 => xviI ⟨fun _ => ih S2 _ (JQ_n h h.1 k2 q2 (h.2.2)), fun z => absurd rfl z⟩)⟩)⟩, fun _ => ?_⟩
      refine ⟨fun _ => ⟨v1, v2, yex ox, X_same h.1 (xviI ⟨v1, v2, yex om, M_same h.2.1 (fun S2 k2 q2 => xviI ⟨fun _ => ih S2 _ (JQ_n h h.1 k2 q2 (h.2.2)), fun z => absurd rfl z⟩)⟩)⟩, fun _ => ?_⟩
      refine ⟨fun _ => ⟨yex ox, X_clear h.1 (fun S1 h1 => xviI ⟨yex om, M_clear (JQ_m h h1) (fun S2 k2 q2 => xviI ⟨fun _ => ih S2 _ (JQ_n h h1 k2 q2 (okB_clear h.2.2)), fun z => absurd rfl z⟩)⟩)⟩, fun _ => ?_⟩
      refine ⟨fun _ => ⟨v1, v2, yex ox, X_patch h.1 (fun S1 h1 => xviI ⟨v1, v2, yex om, M_patch (JQ_m h h1) h.2.2.1 (okB_dif h.2.1 h.2.2) (fun S2 k2 q2 => xviI ⟨fun _ => ih S2 _ (JQ_n h h1 k2 q2 (okB_patch h.2.1 h.2.2)), fun z => absurd rfl z⟩)⟩)⟩, fun _ => ?_⟩
      refine ⟨fun _ => ⟨v1, v2, v3, yex ox, X_step h.1 (xviI ⟨v1, v2, v3, yex om, M_step h.2.1 (okB_ov h.2.2) (fun S2 k2 q2 => xviI ⟨fun _ => ih S2 _ (JQ_n h h.1 k2 q2 (h.2.2)), fun z => absurd rfl z⟩)⟩)⟩, fun _ => ?_⟩
      refine ⟨fun _ => ⟨v1, v2, v3, v4, yex ox, X_stepByte h.1 (xviI ⟨v1, v2, v3, v4, yex om, M_stepByte h.2.1 (okB_ov h.2.2) (fun S2 k2 q2 => xviI ⟨fun _ => ih S2 _ (JQ_n h h.1 k2 q2 (h.2.2)), fun z => absurd rfl z⟩)⟩)⟩, fun _ => ?_⟩
      refine ⟨fun _ => ⟨v1, v2, v3, v4, v5, yex ox, X_piece h.1 (xviI ⟨v1, v2, v3, v4, v5, yex om, M_piece h.2.1 (okB_ov h.2.2) (fun S2 k2 q2 => xviI ⟨fun _ => ih S2 _ (JQ_n h h.1 k2 q2 (h.2.2)), fun z => absurd rfl z⟩)⟩)⟩, fun _ => ?_⟩
      refine ⟨fun _ => ⟨v1, v2, v3, fun c0 => h666 false ⟨fun z => absurd z (by decide), fun z => absurd c0 z⟩, fun c0 => h666 true ⟨fun _ => c0, fun _ => rfl⟩⟩, fun _ => ?_⟩
      refine ⟨fun _ => ⟨v1, v2, yex ox, X_conflict h.1 (xviI ⟨v1, v2, yex om, M_conflict h.2.1 (fun S2 k2 q2 => xviI ⟨fun _ => ih S2 _ (JQ_n h h.1 k2 q2 (h.2.2)), fun z => absurd rfl z⟩)⟩)⟩, fun _ => ?_⟩
      refine ⟨fun _ => ⟨v1, yex ox, X_inverse h.1 (fun S1 h1 => xviI ⟨v1, yex om, M_inverse (JQ_m h h1) (okB_ov h.2.2) (fun S2 k2 q2 => xviI ⟨fun _ => ih S2 _ (JQ_n h h1 k2 q2 (okB_inverse h.2.1 h.2.2)), fun z => absurd rfl z⟩)⟩)⟩, fun _ => ?_⟩
      refine ⟨fun _ => ⟨v1, v2, yex ox, X_chain h.1 (fun S1 h1 => xviI ⟨v1, v2, yex om, M_chain (JQ_m h h1) (okB_ov h.2.2) (okB_ch h.2.2) (fun S2 k2 q2 => xviI ⟨fun _ => ih S2 _ (JQ_n h h1 k2 q2 (okB_chain h.2.1 h.2.2)), fun z => absurd rfl z⟩)⟩)⟩, fun _ => ?_⟩
      refine ⟨fun _ => ⟨v1, yex ox, X_power h.1 (fun S1 h1 => xviI ⟨v1, yex om, M_power (JQ_m h h1) (fun S2 k2 q2 => xviI ⟨fun _ => ih S2 _ (JQ_n h h1 k2 q2 (okB_power h.2.2)), fun z => absurd rfl z⟩)⟩)⟩, fun _ => ?_⟩
      refine ⟨fun _ => ⟨v1, yex ox, X_install h.1 (fun S1 h1 => xviI ⟨v1, yex om, M_install (JQ_m h h1) h.2.2.2.2.2 (fun S2 k2 q2 => xviI ⟨fun _ => ih S2 _ (JQ_n h h1 k2 q2 (okB_install h.2.1 h.2.2)), fun z => absurd rfl z⟩)⟩)⟩, fun _ => ?_⟩
      refine ⟨fun _ => ⟨yex ox, X_opn h.1 (fun S1 h1 => xviI ⟨yex om, M_opn (JQ_m h h1) h.2.2.2.2.2 (fun S2 k2 q2 => xviI ⟨fun _ => ih S2 _ (JQ_n h h1 k2 q2 (okB_opn h.2.1 h.2.2)), fun z => absurd rfl z⟩)⟩)⟩, fun _ => ?_⟩
      refine ⟨fun _ => ⟨v1, v2, yex ox, X_slot h.1 (xviI ⟨v1, v2, yex om, M_slot h.2.1 (fun S2 k2 q2 => xviI ⟨fun _ => ih S2 _ (JQ_n h h.1 k2 q2 (h.2.2)), fun z => absurd rfl z⟩)⟩)⟩, fun _ => ?_⟩
      refine ⟨fun _ => ⟨v1, yex ox, X_count h.1 (xviI ⟨v1, yex om, M_count h.2.1 (fun S2 k2 q2 => xviI ⟨fun _ => ih S2 _ (JQ_n h h.1 k2 q2 (h.2.2)), fun z => absurd rfl z⟩)⟩)⟩, fun _ => ?_⟩
      exact ih S B h
theorem okB_0 : okB B00 := ⟨fun t ht => absurd ht (Nat.not_lt_zero _), fun b hb => absurd hb (List.not_mem_nil), fun p hp => absurd hp (Nat.not_lt_zero _), fun k hk => absurd hk (Nat.not_lt_zero _), fun k hk => absurd hk (Nat.not_lt_zero _), fun k l hk => absurd hk (Nat.not_lt_zero _), fun k l hk => absurd hk (Nat.not_lt_zero _)⟩
theorem NX_E {Λ' : yL} (e : Ey Λ S Λ' S') (hw : yW Λ') (h : NX Λ S x T P C Lx PL) : NX Λ' S' x T P C Lx PL := by
  obtain ⟨⟨l1, ⟨l2, l2'⟩, ⟨l3, l3', l3''⟩, ⟨l4, l4', l4''⟩, l5, ⟨l6, l6'⟩, ⟨l7, l7', l7''⟩, ⟨l8, l8', l8''⟩, ⟨l9, l9', l9''⟩, l10, l11, l12, l13⟩, h2, h3, h4, h5, h6, h7⟩ := h
  have r : ∀ j, Λ'.2.1 0 j x = Λ.2.1 0 j x := fun j => ref_E e l2 0 j
  have k := (e x (tg_o l2)).2
  have h7' := yKv_E e h7
  refine ⟨?_, ?_, ⟨fun t ht => ⟨?_, ?_⟩, h3.2.1, by rw [(k 0 7).2.1]; exact h3.2.2.1, fun t ht => absurd ht (Nat.not_lt_zero _)⟩, ⟨fun t ht => ⟨?_, ?_⟩, h4.2.1, by rw [(k 0 8).2.1]; exact h4.2.2.1, fun t ht => absurd ht (Nat.not_lt_zero _)⟩, ?_, ?_, ?_⟩
  · unfold yLay xq0 xq1 xq4 xq5 xq6
    rw [r 0, r 1, r 2, r 3, r 4, r 5, r 6]
    refine ⟨hw, ⟨yo_E e l2, (own_E e l2).trans l2'⟩, ⟨yB_E e l3, (own_E e l3.1).trans l3', l3''⟩, ⟨yB_E e l4, (own_E e l4.1).trans l4', l4''⟩, l5, ⟨yr_E e l6, yr_E e l6'⟩, ⟨yDf_E e l7, (own_E e l7.1).trans l7', l7''⟩, ⟨yAp_E e l8, (own_E e l8.1).trans l8', l8''⟩, ⟨h7'.1.1, (own_E e l9.1).trans l9', l9''⟩, fun t ht => ⟨⟨(own_E e (l10 t ht).2).trans (l10 t ht).1.1, (l10 t ht).1.2⟩, yo_E e (l10 t ht).2⟩, l11, fun t ht => ⟨⟨(own_E e (l12 t ht).2).trans (l12 t ht).1.1, (l12 t ht).1.2⟩, yo_E e (l12 t ht).2⟩, l13⟩
  · unfold QB xq0 xq1
    rw [r 0, r 1]
    exact ⟨yBv_E e l3.1 h2.1, yBv_E e l4.1 h2.2⟩
  · rw [(k 0 2).2.2.2]; exact (h3.1 t ht).1
  · exact (h3.1 t ht).2.imp (fun fs hf => yTv_E e hf)
  · rw [(k 0 3).2.2.2]; exact (h4.1 t ht).1
  · obtain ⟨vs, Q, hq⟩ := (h4.1 t ht).2
    exact ⟨vs, Q, yPq_E e hq⟩
  · unfold xq4; rw [r 4]; exact yDl_E e l7.1 h5
  · unfold xq5; rw [r 5]; exact yCf_E e l8.1 h6
  · unfold xq6; rw [r 6]; exact h7'
def Λ00 : yL := (fun _ => (0, 0, 0, 0), fun _ _ _ => 0, fun _ => 0, fun _ => 0)
def S00 : yS := (fun _ _ _ => 0, fun _ _ _ _ => 0, fun _ _ _ _ => none)
theorem law_pure0 (b L : Nat) (xs : Nat → Int32) (hL : L ≤ 3072) : xWp (xT0, xSp xT0 9, some (b, L, xs), m_law, fun v _ => v = some (.int 1)) 0 (xen [.ref b] 4) [] (fun _ => none) 0 0 := by
  have hw0 : wfL Λ00 (fun _ => none) := ⟨fun r r' h => by rcases h with h | h <;> exact absurd (show (0 : Nat) = _ from h) (by decide), fun b => Nat.zero_le _, fun b hb => absurd hb (by show ¬ 2 ≤ 0; omega)⟩
  have h0 : (fun _ => none : xH) = yH Λ00 (fun _ => none) S00 := rfl
  rw [h0]
  refine b_law_0 ⟨⟨by omega, by omega⟩, rN hw0 (fun x hx hxn Rx => ⟨⟨by omega, by omega⟩, PC_init_sp Rx (fun Λ1 f1 S1 T P C Lx PL C1 N1 => xvvI ⟨⟨by omega, by omega⟩, rN C1.1 (fun m hm hmn Rm => ⟨⟨by omega, by omega⟩, Mo_init_sp Rm (fun Λ2 f2 S2 C2 q2 => xvvI ?_)⟩)⟩)⟩)⟩
  have N2 := NX_E C2.2.1 C2.1.1 N1
  exact law_loop (b := b) (xs := xs) hL ⟨by omega, by omega⟩ (L + 6) 0 (by omega) (by omega) S2 B00 ⟨⟨N2.1, N2.2.1, N2.2.2.1, N2.2.2.2.1, N2.2.2.2.2.1, N2.2.2.2.2.2.1, N2.2.2.2.2.2.2, q2.1.2.1, q2.1.2.2.1, fun _ => ⟨rfl, rfl⟩⟩, q2, okB_0⟩
end
