/-! the claim out of one statement of the law -/
theorem okL_app {l r : List xE} {P : xE → Bool} (h : l.all P = true) (h2 : r.all P = true) : (l ++ r).all P = true := by rw [List.all_append, h, h2]; rfl
theorem ok_law : (xm_cd m_law).all (xcE xB xcs xtl xT0 xkd "PatchChains" yI0 xol m_law) = true := okL_app okL_0 (okL_app okL_1 (okL_app okL_2 (okL_app okL_3 (okL_app okL_4 (okL_app okL_5 (okL_app okL_6 (okL_app okL_7 (okL_app okL_8 (okL_app okL_9 (okL_app okL_10 (okL_app okL_11 (okL_app okL_12 (okL_app okL_13 (okL_14))))))))))))))
theorem law_E : ∀ q ∈ xm_cd m_law, decode (xm_by m_law) q.1 = .ok (q.2.1, q.2.2.1) ∧ (q.2.2.1 = xlen q.2.1 ∨ (∃ d lo hi os, q.2.1 = .tableswitch d lo hi os) ∨ ∃ d ps, q.2.1 = .lookupswitch d ps) ∧ xlink xol yI0 xB xcs xtl xT0 "PatchChains" m_law q.1 q.2.1 q.2.2.2 := by
  intro e he
  have h8 := List.all_eq_true.mp ok_law e he
  unfold xcE at h8
  obtain ⟨g1, g2⟩ := (Bool.and_eq_true _ _).mp h8
  obtain ⟨g3, g4⟩ := (Bool.and_eq_true _ _).mp g2
  exact ⟨of_decide_eq_true g1, xcLen_ok g3, xcL_ok xlib_ok xkf_ok g4⟩
theorem law_ao {s : State} {A : Array Value} (hts : ∀ w ∈ lw_tbl, w.before A s = true) : xao xol s := ⟨List.forall_mem_cons.mpr ⟨Or.inl ⟨"PatchChains$Tree", rfl, hts (.arrayOver (.object "PatchChains$Tree")) (List.mem_of_getElem? (i := 117) (by decide +kernel))⟩, List.forall_mem_cons.mpr ⟨Or.inl ⟨"PatchChains$Bytes", rfl, hts (.arrayOver (.object "PatchChains$Bytes")) (List.mem_of_getElem? (i := 124) (by decide +kernel))⟩, List.forall_mem_cons.mpr ⟨Or.inl ⟨"PatchChains$Patch", rfl, hts (.arrayOver (.object "PatchChains$Patch")) (List.mem_of_getElem? (i := 140) (by decide +kernel))⟩, List.forall_mem_cons.mpr ⟨Or.inl ⟨"PatchChains$Step", rfl, hts (.arrayOver (.object "PatchChains$Step")) (List.mem_of_getElem? (i := 147) (by decide +kernel))⟩, List.forall_mem_cons.mpr ⟨Or.inr ⟨.int, rfl, hts (.arrayOver (.array .int)) (List.mem_of_getElem? (i := 243) (by decide +kernel))⟩, List.forall_mem_cons.mpr ⟨Or.inl ⟨"PatchChains$Listing", rfl, hts (.arrayOver (.object "PatchChains$Listing")) (List.mem_of_getElem? (i := 294) (by decide +kernel))⟩, fun _ h => absurd h List.not_mem_nil⟩⟩⟩⟩⟩⟩, List.forall_mem_cons.mpr ⟨⟨⟨_, _, _, _, _, _, rfl⟩, va_Nw.of rfl (hts _ (List.mem_of_getElem? (i := 107) (by decide +kernel)))⟩, List.forall_mem_cons.mpr ⟨⟨⟨_, _, _, _, _, _, rfl⟩, va_Nw.of rfl (hts _ (List.mem_of_getElem? (i := 109) (by decide +kernel)))⟩, List.forall_mem_cons.mpr ⟨⟨⟨_, _, _, _, _, _, rfl⟩, va_Nw.of rfl (hts _ (List.mem_of_getElem? (i := 169) (by decide +kernel)))⟩, List.forall_mem_cons.mpr ⟨⟨⟨_, _, _, _, _, _, rfl⟩, va_Nw.of rfl (hts _ (List.mem_of_getElem? (i := 170) (by decide +kernel)))⟩, List.forall_mem_cons.mpr ⟨⟨⟨_, _, _, _, _, _, rfl⟩, va_Nw.of rfl (hts _ (List.mem_of_getElem? (i := 171) (by decide +kernel)))⟩, List.forall_mem_cons.mpr ⟨⟨⟨_, _, _, _, _, _, rfl⟩, va_Nw.of rfl (hts _ (List.mem_of_getElem? (i := 173) (by decide +kernel)))⟩, List.forall_mem_cons.mpr ⟨⟨⟨_, _, _, _, _, _, rfl⟩, va_Nw.of rfl (hts _ (List.mem_of_getElem? (i := 174) (by decide +kernel)))⟩, List.forall_mem_cons.mpr ⟨⟨⟨_, _, _, _, _, _, rfl⟩, va_Nw.of rfl (hts _ (List.mem_of_getElem? (i := 175) (by decide +kernel)))⟩, List.forall_mem_cons.mpr ⟨⟨⟨_, _, _, _, _, _, rfl⟩, va_Nw.of rfl (hts _ (List.mem_of_getElem? (i := 177) (by decide +kernel)))⟩, List.forall_mem_cons.mpr ⟨⟨⟨_, _, _, _, _, _, rfl⟩, va_Nw.of rfl (hts _ (List.mem_of_getElem? (i := 178) (by decide +kernel)))⟩, List.forall_mem_cons.mpr ⟨⟨⟨_, _, _, _, _, _, rfl⟩, va_Nw.of rfl (hts _ (List.mem_of_getElem? (i := 179) (by decide +kernel)))⟩, List.forall_mem_cons.mpr ⟨⟨⟨_, _, _, _, _, _, rfl⟩, va_Nw.of rfl (hts _ (List.mem_of_getElem? (i := 181) (by decide +kernel)))⟩, List.forall_mem_cons.mpr ⟨⟨⟨_, _, _, _, _, _, rfl⟩, va_Nw.of rfl (hts _ (List.mem_of_getElem? (i := 182) (by decide +kernel)))⟩, List.forall_mem_cons.mpr ⟨⟨⟨_, _, _, _, _, _, rfl⟩, va_Nw.of rfl (hts _ (List.mem_of_getElem? (i := 184) (by decide +kernel)))⟩, List.forall_mem_cons.mpr ⟨⟨⟨_, _, _, _, _, _, rfl⟩, va_Nw.of rfl (hts _ (List.mem_of_getElem? (i := 185) (by decide +kernel)))⟩, List.forall_mem_cons.mpr ⟨⟨⟨_, _, _, _, _, _, rfl⟩, va_Nw.of rfl (hts _ (List.mem_of_getElem? (i := 190) (by decide +kernel)))⟩, List.forall_mem_cons.mpr ⟨⟨⟨_, _, _, _, _, _, rfl⟩, va_Nw.of rfl (hts _ (List.mem_of_getElem? (i := 303) (by decide +kernel)))⟩, List.forall_mem_cons.mpr ⟨⟨⟨_, _, _, _, _, _, rfl⟩, va_Nw.of rfl (hts _ (List.mem_of_getElem? (i := 305) (by decide +kernel)))⟩, fun _ h => absurd h List.not_mem_nil⟩⟩⟩⟩⟩⟩⟩⟩⟩⟩⟩⟩⟩⟩⟩⟩⟩⟩⟩
theorem xB_hts {s : State} {A : Array Value} (hts : ∀ w ∈ lw_tbl, w.before A s = true) : ∀ w ∈ xB, w.before A s = true := fun w h => hts w (List.mem_filter.mp h).1
theorem law_arr {s : State} {A : Array Value} {ty : FieldType} (hn : ∀ C, ty ≠ .object C) (h : (Cond.arrayClass ty).before A s = true) : ∃ cA, ArrOfT s cA ty ∧ va_RA s cA ty := by
  obtain ⟨c, k, comp, h1, h2, h3⟩ := Cond.arrayClass_spec h
  refine ⟨c, fun n z => ⟨(fun k h => by cases h), k, h2, comp, h3⟩, ?_⟩
  cases ty with
  | object C => exact absurd rfl (hn C)
  | _ => exact h1
theorem law_arrO {s : State} {C : String} (h : va_AO C s) : ∃ cA, ArrOfT s cA (.object C) ∧ va_RA s cA (.object C) := by
  obtain ⟨comp, c, k, h1, h2, h3, h4, h5⟩ := Cond.arrayOver_spec h
  exact ⟨c, fun n z => ⟨(fun k h => by cases h), k, h3, comp, h4⟩, k, comp, h3, h4, h1, h5⟩
theorem law_arrA {s : State} {t : FieldType} (h : va_AOA t s) : ∃ cA, ArrOfT s cA (.array t) ∧ va_RA s cA (.array t) := by
  obtain ⟨comp, c, k, h1, h2, h3, h4, h5⟩ := arrayOverA_spec h
  exact ⟨c, fun n z => ⟨(fun k h => by cases h), k, h3, comp, h4⟩, h5⟩
theorem law_tys {s : State} {A : Array Value} (hts : ∀ w ∈ lw_tbl, w.before A s = true) : ∃ dA : Nat → ClassId, ∀ (k : Nat) (q : ClassId × FieldType), (xty dA xtl)[k]? = some q → ArrOfT s q.1 q.2 ∧ va_RA s q.1 q.2 := by
  have hao := law_ao hts
  have h : ∀ t : Nat, ∃ cA : ClassId, ∀ ty : FieldType, xtl[t]? = some ty → ArrOfT s cA ty ∧ va_RA s cA ty := by
    intro t
    match t with
    | 0 => exact (law_arr (ty := .int) (by intro C h; cases h) (xB_hts hts _ (List.mem_of_getElem? (i := 110) (by decide +kernel)))).imp (fun cA h ty hty => by cases hty; exact h)
    | 1 => exact (law_arr (ty := .boolean) (by intro C h; cases h) (xB_hts hts _ (List.mem_of_getElem? (i := 204) (by decide +kernel)))).imp (fun cA h ty hty => by cases hty; exact h)
    | 2 => exact (law_arr (ty := .byte) (by intro C h; cases h) (xB_hts hts _ (List.mem_of_getElem? (i := 945) (by decide +kernel)))).imp (fun cA h ty hty => by cases hty; exact h)
    | 3 => exact (law_arrO (C := "PatchChains$Bytes") (xao_o hao (by decide))).imp (fun cA h ty hty => by cases hty; exact h)
    | 4 => exact (law_arrO (C := "PatchChains$Tree") (xao_o hao (by decide))).imp (fun cA h ty hty => by cases hty; exact h)
    | 5 => exact (law_arrO (C := "PatchChains$Step") (xao_o hao (by decide))).imp (fun cA h ty hty => by cases hty; exact h)
    | 6 => exact (law_arrO (C := "PatchChains$Patch") (xao_o hao (by decide))).imp (fun cA h ty hty => by cases hty; exact h)
    | 7 => exact (law_arrO (C := "PatchChains$Listing") (xao_o hao (by decide))).imp (fun cA h ty hty => by cases hty; exact h)
    | 8 => exact (law_arrA (t := .int) (xao_a hao (by decide))).imp (fun cA h ty hty => by cases hty; exact h)
    | t + 9 => exact ⟨0, fun ty hty => by simp [xtl] at hty⟩
  refine ⟨fun t => (h t).choose, fun k q hq => ?_⟩
  unfold xty at hq
  rw [List.getElem?_mapIdx] at hq
  cases hk : xtl[k]? with
  | none => rw [hk] at hq; cases hq
  | some ty =>
    rw [hk] at hq
    cases hq
    exact (h k).choose_spec ty hk
theorem law_cls {s : State} {A : Array Value} (hts : ∀ w ∈ lw_tbl, w.before A s = true) : ∃ D : va_G, ∀ (k : Nat) (q : vw_C), xcs[k]? = some q → u_Kn s q.1 q.2.1 q.2.2 (D.1 k) (D.2 k) := by
  have h : ∀ k : Nat, ∃ (cC : ClassId) (iS : Nat → Nat), ∀ q : vw_C, xcs[k]? = some q → u_Kn s q.1 q.2.1 q.2.2 cC iS := by
    intro k
    match k with
    | 0 =>
      obtain ⟨cC, iS, h⟩ := u_known (C := "PatchChains") (T := F_PC) (N := 9) (n := 9) (xB_hts hts) (xcC_ok xcC_PC).1 (xB_hts hts _ (List.mem_of_getElem? (i := 90) (by decide +kernel)))
      exact ⟨cC, iS, fun q hq => by cases hq; exact h⟩
    | 1 =>
      obtain ⟨cC, iS, h⟩ := u_known (C := "PatchChains$Bytes") (T := F_By) (N := 2) (n := 2) (xB_hts hts) (xcC_ok xcC_By).1 (xB_hts hts _ (List.mem_of_getElem? (i := 98) (by decide +kernel)))
      exact ⟨cC, iS, fun q hq => by cases hq; exact h⟩
    | 2 =>
      obtain ⟨cC, iS, h⟩ := u_known (C := "PatchChains$Tree") (T := F_Tr) (N := 4) (n := 4) (xB_hts hts) (xcC_ok xcC_Tr).1 (xB_hts hts _ (List.mem_of_getElem? (i := 112) (by decide +kernel)))
      exact ⟨cC, iS, fun q hq => by cases hq; exact h⟩
    | 3 =>
      obtain ⟨cC, iS, h⟩ := u_known (C := "PatchChains$Delta") (T := F_De) (N := 2) (n := 2) (xB_hts hts) (xcC_ok xcC_De).1 (xB_hts hts _ (List.mem_of_getElem? (i := 142) (by decide +kernel)))
      exact ⟨cC, iS, fun q hq => by cases hq; exact h⟩
    | 4 =>
      obtain ⟨cC, iS, h⟩ := u_known (C := "PatchChains$Step") (T := F_St) (N := 9) (n := 9) (xB_hts hts) (xcC_ok xcC_St).1 (xB_hts hts _ (List.mem_of_getElem? (i := 134) (by decide +kernel)))
      exact ⟨cC, iS, fun q hq => by cases hq; exact h⟩
    | 5 =>
      obtain ⟨cC, iS, h⟩ := u_known (C := "PatchChains$Patch") (T := F_Pa) (N := 2) (n := 2) (xB_hts hts) (xcC_ok xcC_Pa).1 (xB_hts hts _ (List.mem_of_getElem? (i := 128) (by decide +kernel)))
      exact ⟨cC, iS, fun q hq => by cases hq; exact h⟩
    | 6 =>
      obtain ⟨cC, iS, h⟩ := u_known (C := "PatchChains$Weaver") (T := F_We) (N := 4) (n := 4) (xB_hts hts) (xcC_ok xcC_We).1 (xB_hts hts _ (List.mem_of_getElem? (i := 180) (by decide +kernel)))
      exact ⟨cC, iS, fun q hq => by cases hq; exact h⟩
    | 7 =>
      obtain ⟨cC, iS, h⟩ := u_known (C := "PatchChains$Differ") (T := F_Di) (N := 5) (n := 5) (xB_hts hts) (xcC_ok xcC_Di).1 (xB_hts hts _ (List.mem_of_getElem? (i := 174) (by decide +kernel)))
      exact ⟨cC, iS, fun q hq => by cases hq; exact h⟩
    | 8 =>
      obtain ⟨cC, iS, h⟩ := u_known (C := "PatchChains$Applier") (T := F_Ap) (N := 5) (n := 5) (xB_hts hts) (xcC_ok xcC_Ap).1 (xB_hts hts _ (List.mem_of_getElem? (i := 206) (by decide +kernel)))
      exact ⟨cC, iS, fun q hq => by cases hq; exact h⟩
    | 9 =>
      obtain ⟨cC, iS, h⟩ := u_known (C := "PatchChains$Listing") (T := F_Li) (N := 3) (n := 3) (xB_hts hts) (xcC_ok xcC_Li).1 (xB_hts hts _ (List.mem_of_getElem? (i := 232) (by decide +kernel)))
      exact ⟨cC, iS, fun q hq => by cases hq; exact h⟩
    | 10 =>
      obtain ⟨cC, iS, h⟩ := u_known (C := "PatchChains$Disk") (T := F_Dk) (N := 8) (n := 8) (xB_hts hts) (xcC_ok xcC_Dk).1 (xB_hts hts _ (List.mem_of_getElem? (i := 224) (by decide +kernel)))
      exact ⟨cC, iS, fun q hq => by cases hq; exact h⟩
    | 11 =>
      obtain ⟨cC, iS, h⟩ := u_known (C := "PatchChainsModel") (T := F_Mo) (N := 48) (n := 48) (xB_hts hts) (xcC_ok xcC_Mo).1 (xB_hts hts _ (List.mem_of_getElem? (i := 844) (by decide +kernel)))
      exact ⟨cC, iS, fun q hq => by cases hq; exact h⟩
    | k + 12 => exact ⟨0, fun _ => 0, fun q hq => by simp [xcs] at hq⟩
  exact ⟨(fun k => (h k).choose, fun k => (h k).choose_spec.choose), fun k q hq => (h k).choose_spec.choose_spec q hq⟩
/-- what is left: a statement of the small machine alone -/
def LawPure : Prop := ∀ (b L : Nat) (xs : Nat → Int32), L ≤ 3072 → xWp (xT0, xSp xT0 9, some (b, L, xs), m_law, fun v _ => v = some (.int 1)) 0 (xen [.ref b] 4) [] (fun _ => none) 0 0
