/-! 14 the reference's in(x, l, h), over the machine itself -/
theorem d_in_0 : decode bI0 0 = .ok (.lload_n 0, 1) := by decide +kernel
theorem d_in_1 : decode bI0 1 = .ok (.lload_n 2, 1) := by decide +kernel
theorem d_in_2 : decode bI0 2 = .ok (.lcmp, 1) := by decide +kernel
theorem d_in_3 : decode bI0 3 = .ok (.ifCond .lt 14, 3) := by decide +kernel
theorem d_in_6 : decode bI0 6 = .ok (.lload_n 0, 1) := by decide +kernel
theorem d_in_7 : decode bI0 7 = .ok (.lload 4, 2) := by decide +kernel
theorem d_in_9 : decode bI0 9 = .ok (.lcmp, 1) := by decide +kernel
theorem d_in_10 : decode bI0 10 = .ok (.ifCond .gt 7, 3) := by decide +kernel
theorem d_in_13 : decode bI0 13 = .ok (.iconst 1, 1) := by decide +kernel
theorem d_in_14 : decode bI0 14 = .ok (.goto 4, 3) := by decide +kernel
theorem d_in_17 : decode bI0 17 = .ok (.iconst 0, 1) := by decide +kernel
theorem d_in_18 : decode bI0 18 = .ok (.ireturn, 1) := by decide +kernel
set_option maxHeartbeats 1000000 in
theorem c_in (l : Launch) (x lo hi : Int64) : Met l yI0 (Cond.code yI0 bI0 6 (some .boolean) :: xB) { frames := 0, cells := 0, slots := 0, locals := 0 } (va_Pc [.long x, .long lo, .long hi] (fun _ => True)) (fun _ st oc t => oc = .returned (some (.int (if lo ≤ x ∧ x ≤ hi then 1 else 0))) ∧ t.heap = st.heap) 0 0 (fun _ => False) := by
  refine Met.ofW (cc := bI0) (maxL := 6) (ret := some .boolean) (by decide) rfl ?_
  intro p e s m args below meth c s₁ B hml hv
  obtain ⟨rfl, -⟩ := hv
  have hx := B.exec
  have hb := B.bytes
  have hr := B.returns
  have hlocks := B.notSynchronized
  have hl := lv_entry ([.long x, .long lo, .long hi]) (n := 6) (Nat.le_of_ble_eq_true rfl)
  rw [lg_entry_eq]
  generalize (lg_sl ([.long x, .long lo, .long hi]) ++ List.replicate (6 - (lg_sl ([.long x, .long lo, .long hi])).length) Slot.unset).toArray = ls at hl ⊢
  have hl : lv_has ls 6 [(0, .long x), (2, .long lo), (4, .long hi)] := hl
  have hend : ∀ v : Int32, narrow .boolean (.int v) = .int v → v = (if lo ≤ x ∧ x ≤ hi then 1 else 0) → W p l e (headSpec (Cond.code yI0 bI0 6 (some .boolean) :: xB) { frames := 0, cells := 0, slots := 0, locals := 0 }).room s m #[Value.long x, Value.long lo, Value.long hi] below meth c s.heap [] 0 0 (MQ below (fun _ st oc t => oc = .returned (some (.int (if lo ≤ x ∧ x ≤ hi then 1 else 0))) ∧ t.heap = st.heap) #[Value.long x, Value.long lo, Value.long hi] s 0 0 (fun _ => False)) (F0 m 18 ls [.int v]) := fun v h1 h2 => W.zret (ty := .boolean) hx hb hr h1 (fun t ht _ => ⟨by rw [h2], ht⟩) (fun _ h => by cases h) d_in_18
  refine lv_lload_n hx hb d_in_0 rfl (lv_at hl 0 rfl) ?_
  refine lv_lload_n hx hb d_in_1 rfl (lv_at hl 1 rfl) ?_
  refine W.lcmp hx hb d_in_2 ?_
  refine lv_if_lt (tgt := 17) hx hb d_in_3 (by decide) (fun h1 => ?_) (fun h1 => ?_)
  · refine lv_iconst (v := 0) hx hb d_in_17 (by decide) ?_
    have h2 : ¬ (lo ≤ x ∧ x ≤ hi) := fun q => by
      have h3 := (lg_cmp_lt x lo).mp h1
      have h4 := Int64.lt_iff_toInt_lt.mp h3
      have h5 := Int64.le_iff_toInt_le.mp q.1
      omega
    exact hend 0 (by decide) (by rw [if_neg h2])
  · refine lv_lload_n hx hb d_in_6 rfl (lv_at hl 0 rfl) ?_
    refine lv_lload hx hb d_in_7 (lv_at hl 2 rfl) ?_
    refine W.lcmp hx hb d_in_9 ?_
    refine lv_if_gt (tgt := 17) hx hb d_in_10 (by decide) (fun h2 => ?_) (fun h2 => ?_)
    · refine lv_iconst (v := 0) hx hb d_in_17 (by decide) ?_
      have h3 : ¬ (lo ≤ x ∧ x ≤ hi) := fun q => by
        have h4 := Int64.lt_iff_toInt_lt.mp ((lg_cmp_gt x hi).mp h2)
        have h5 := Int64.le_iff_toInt_le.mp q.2
        omega
      exact hend 0 (by decide) (by rw [if_neg h3])
    · refine lv_iconst (v := 1) hx hb d_in_13 (by decide) ?_
      refine lv_goto (tgt := 18) hx hb d_in_14 (by decide) ?_
      have h3 : lo ≤ x ∧ x ≤ hi := by
        have h4 : ¬ x < lo := fun q => h1 ((lg_cmp_lt x lo).mpr q)
        have h5 : ¬ hi < x := fun q => h2 ((lg_cmp_gt x hi).mpr q)
        rw [Int64.lt_iff_toInt_lt] at h4 h5
        exact ⟨Int64.le_iff_toInt_le.mpr (by omega), Int64.le_iff_toInt_le.mpr (by omega)⟩
      exact hend 1 (by decide) (by rw [if_pos h3])
