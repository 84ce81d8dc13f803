/-! 05 the real machine's judgement is closed under the small machine's steps -/
theorem x_tab {cc : ByteArray} {p : Program} {l : Launch} {e : Env} {R : Room} {s : State} {m : MethodId} {args : Array Value} {below : List Frame} {meth : Method} {c : Code} {H : Heap} {locs : List Loc} {cells slots : Nat} {Q : State → Prop} {pc : Nat} {ls : Array Slot} {r : List Value} {x : Int32} {d lo hi : Int} {os : Array Int} {n dt : Nat}
    (hx : p.tables.exec = Jvm.exec) (hb : c.code = cc) (hdg : decode cc pc = .ok (.tableswitch d lo hi os, n)) (hd : (pc : Int) + d = (dt : Int)) (h2 : hi + 1 = lo + os.toList.length) (h3 : -2147483648 ≤ lo) (h4 : hi ≤ 2147483647) :
    ∀ (l2 : List Int) (r2 : List (Int × Nat)) (a : Nat), xtab pc (lo + a) l2 r2 → os.toList.drop a = l2 → (∀ z : Int, lo ≤ z → z < lo + a → ¬ x.toInt = z) → xsel x dt (fun q => W p l e R s m args below meth c H locs cells slots Q (F0 m q ls r)) r2 → W p l e R s m args below meth c H locs cells slots Q (F0 m pc ls (.int x :: r)) := by
  intro l2
  induction l2 with
  | nil =>
    intro r2 a ht hl hz h
    cases r2 with
    | cons q r2 => exact ht.elim
    | nil =>
      refine lv_tableOut hx hb hdg ?_ hd h
      have ha : os.toList.length ≤ a := List.drop_eq_nil_iff.mp hl
      rcases Int.lt_or_le x.toInt lo with q | q
      · exact Or.inl q
      · refine Or.inr (Int.not_le.mp fun q2 => ?_)
        exact hz x.toInt q (by omega) rfl
  | cons o l2 ih =>
    intro r2 a ht hl hz h
    cases r2 with
    | nil => exact ht.elim
    | cons q r2 =>
      obtain ⟨h5, h6, h7⟩ := ht
      have ha : a < os.toList.length := by
        rcases Nat.lt_or_ge a os.toList.length with q | q
        · exact q
        · rw [List.drop_eq_nil_iff.mpr q] at hl; cases hl
      have hov : (Int32.ofInt q.1).toInt = lo + a := by
        rw [h5]
        exact Int32.toInt_ofInt_of_le (by omega) (by omega)
      by_cases hxq : x = Int32.ofInt q.1
      · have hxi : x.toInt = lo + a := by rw [hxq]; exact hov
        refine lv_tableIn hx hb hdg (by omega) (by omega) (off := o) ?_ h6 (h.1 hxq)
        have hn : (x.toInt - lo).toNat = a := by omega
        rw [hn, ← Array.getElem?_toList, ← List.head?_drop, hl]
        rfl
      · refine ih r2 (a + 1) (by rw [show lo + ((a + 1 : Nat) : Int) = lo + a + 1 by omega]; exact h7) (by rw [← List.tail_drop, hl]; rfl) (fun z z1 z2 z3 => ?_) (h.2 hxq)
        by_cases hza : z = lo + a
        · apply hxq
          apply Int32.toInt_inj.mp
          rw [hov, z3, hza]
        · exact hz z z1 (by omega) z3
theorem x_lks {cc : ByteArray} {p : Program} {l : Launch} {e : Env} {R : Room} {s : State} {m : MethodId} {args : Array Value} {below : List Frame} {meth : Method} {c : Code} {H : Heap} {locs : List Loc} {cells slots : Nat} {Q : State → Prop} {pc : Nat} {ls : Array Slot} {r : List Value} {x : Int32} {d : Int} {ps : Array (Int × Int)} {n dt : Nat}
    (hx : p.tables.exec = Jvm.exec) (hb : c.code = cc) (hdg : decode cc pc = .ok (.lookupswitch d ps, n)) (hd : (pc : Int) + d = (dt : Int)) (hp : (ps.toList.zip (ps.toList.drop 1)).all (fun (a, next) => a.1 < next.1) = true) :
    ∀ (l2 : List (Int × Int)) (r2 : List (Int × Nat)), xlks pc l2 r2 → Op.lookupswitch.offset ps.toList d x.toInt = Op.lookupswitch.offset l2 d x.toInt → xsel x dt (fun q => W p l e R s m args below meth c H locs cells slots Q (F0 m q ls r)) r2 → W p l e R s m args below meth c H locs cells slots Q (F0 m pc ls (.int x :: r)) := by
  intro l2
  induction l2 with
  | nil =>
    intro r2 ht ho h
    cases r2 with
    | cons q r2 => exact ht.elim
    | nil => exact lv_lookup hx hb hdg hp (off := d) (by rw [ho]; rfl) hd h
  | cons o l2 ih =>
    intro r2 ht ho h
    cases r2 with
    | nil => exact ht.elim
    | cons q r2 =>
      obtain ⟨h5, h6, h7, h8⟩ := ht
      obtain ⟨z, o⟩ := o
      by_cases hxq : x = Int32.ofInt q.1
      · refine lv_lookup hx hb hdg hp (off := o) ?_ h7 (h.1 hxq)
        rw [ho]
        have hz : x.toInt = z := by rw [hxq, h6, h5]
        simp [Op.lookupswitch.offset, hz]
      · refine ih r2 h8 ?_ (h.2 hxq)
        rw [ho]
        exact lv_osw hxq (by rw [h6, h5])
section
variable {p : Program} {l : Launch} {e : Env} {R : Room} {s : State} {m : MethodId} {args : Array Value} {below : List Frame} {meth : Method} {c : Code} {Q : State → Prop} {B : List Jvm.Cond} {cl : List vw_C} {tl : List FieldType} {T : xT} {host : String} {M : xM} {d : Nat} {dA : Nat → ClassId} {D : va_G} {A : Nat → Prop} {E : Option Value → xH → Prop} {sc : xS} {yI : MethodName} {bI : ByteArray} {ol : xOl}
theorem x_sum4 : ∀ {r : List Value} {n : Nat}, r.length ≤ n → (r.map fun v => v.category).sum ≤ 2 * n
  | [], _, _ => by simp
  | v :: r, n, h => by
    have h1 : r.length ≤ n - 1 := by simp at h; omega
    have h2 := x_sum4 h1
    have h3 : v.category ≤ 2 := by rcases lv_cat v with q | q <;> omega
    have h4 : 1 ≤ n := by simp at h; omega
    simp only [List.map_cons, List.sum_cons]
    omega
theorem x_after {H H1 : Heap} {st₀ t : State} {f f' : xH} {L L' : List Nat} {locs Lx : List Loc} (hA : ∀ q, s.heap.size ≤ q → A q) (hw : xwd dA D cl A L f H) (hS : va_S A s.heap H locs) (h0 : st₀.heap = H) (h1 : t.heap = H1) (hw' : xwd dA D cl (xA dA L f H.size) L' f' t.heap) (hF : va_F (xA dA L f H.size) st₀ t) (hL : ∀ q ∈ Lx, xA dA L f H.size q.base) : xwd dA D cl A L' f' H1 ∧ va_S A s.heap H1 (locs ++ Lx) := by
  have hAA : ∀ q, xA dA L f H.size q → A q := by
    intro q h
    rcases h with ⟨k, e, h⟩ | h
    · exact hw.2.2.2 k _ h
    · exact hA q (Nat.le_trans hS.1 h)
  rw [h1] at hw'
  refine ⟨xw_weak hw' hAA, ?_, ?_, ?_⟩
  · have := hF.1
    rw [h0, h1] at this
    exact Nat.le_trans hS.1 this
  · intro q h2 h3
    have h4 := hF.2 q (by rw [h0]; exact Nat.lt_of_lt_of_le h2 hS.1) (fun z => h3 (hAA q z))
    rw [h0, h1] at h4
    rw [h4]
    exact hS.2.1 q h2 h3
  · intro q hq
    rcases List.mem_append.mp hq with h | h
    · exact hS.2.2 q h
    · exact hAA _ (hL q h)
theorem x_pre {H : Heap} {as : List Value} {f : xH} {L : List Nat} (hK : va_K D cl (xty dA tl) s) (hO : xao ol s) (hw : xwd dA D cl A L f H) : FrameBlind (xPc ol dA D cl tl as L f H.size) ∧ ∀ U : State, U.heap = H → s.WarmedH U.vm → xPc ol dA D cl tl as L f H.size as.toArray U := by
  refine ⟨fun a U g mk q => ?_, fun U hU hW => ?_⟩
  · obtain ⟨q0, q1, q2, q3, q4⟩ := q
    exact ⟨q0, q1, q2, va_K.moved (u := U) (U := U.calling g mk a) (Vm.Alike.refl U.vm) q3, xao_same (u := U) (U := U.calling g mk a) rfl q4⟩
  · exact ⟨rfl, by rw [hU], by rw [hU]; exact xw_weak hw (fun _ _ => trivial), va_K.moved hW.alike hK, xao_warm hW hO⟩
theorem x_good (OK : xOK ol yI B cl tl T host) {N : xM} (hN : xokM ol yI B cl tl T host N) : GoodIn B (xwsM B N) := by
  intro w hw
  rcases List.mem_cons.mp hw with h | h
  · rw [h]; exact ⟨hN.2.1, OK.1 _ hN.2.1⟩
  · exact ⟨h, OK.1 _ h⟩
theorem xan_e {P : Prop} {f : xH} {a : Nat} {k : Nat → Nat → Prop} (h : xan f a k) (q : ∀ t n e1, f a = some e1 → ∀ x : vp_A, (xcv dA e1 = .inl (dA t, x)) → x.1 = n → k t n → P) : P := by
  unfold xan at h; split at h
  · next e => exact q _ _ _ e _ rfl rfl h
  · next e => exact q _ _ _ e _ rfl rfl h
  · exact h.elim
theorem x_fit {t : Nat} {ty : FieldType} {v : Value} (h : xtag t ty) (hv : xft t v) : narrow ty v = v ∧ fits ty v = true := by
  match t, h, hv with
  | 0, h, hv =>
    obtain ⟨x, rfl⟩ := hv
    have h : ty = .int := h
    subst h
    exact ⟨rfl, rfl⟩
  | 1, h, hv =>
    rcases h with ⟨n, rfl⟩ | ⟨u, rfl⟩ <;> rcases hv with rfl | ⟨a, rfl⟩ <;> exact ⟨rfl, rfl⟩
  | 2, h, hv =>
    have h : ty = .boolean := h
    subst h
    rcases hv with rfl | rfl <;> exact ⟨by decide, by decide⟩
  | n + 3, h, _ => exact h.elim
theorem x_dflt {ts : List Nat} {j : Nat} {ty : FieldType} (h : xtag (ts.getD j 9) ty) (hj : j < ts.length) : defaultValue ((some ty).getD .int) = vp_V (xdf ts) j := by
  have h1 : ts[j]? = some (ts.getD j 9) := by rw [List.getD_eq_getElem?_getD, List.getElem?_eq_getElem hj]; rfl
  have h2 : vp_V (xdf ts) j = if ts.getD j 9 = 1 then .null else .int 0 := by
    unfold vp_V xdf
    rw [List.getD_eq_getElem?_getD, List.getElem?_map, h1]
    rfl
  rw [h2]
  generalize ts.getD j 9 = t at h
  match t, h with
  | 0, h =>
    have h : ty = .int := h
    subst h
    rfl
  | 1, h => rcases h with ⟨n, rfl⟩ | ⟨u, rfl⟩ <;> rfl
  | 2, h =>
    have h : ty = .boolean := h
    subst h
    rfl
  | n + 3, h => exact h.elim
theorem x_rc {C : xCall} {N : xM} {j : Nat} {as : List Value} {f : xH} (hT : T j = some N) (h : xrc (T, C, sc, M, E) j as f) : ∃ a As fs, as = .ref a :: As ∧ f a = some (xO (xm_ci N) fs) := by
  unfold xrc at h
  dsimp only [xgT] at h
  rw [hT] at h
  split at h
  · next h1 =>
    cases h1
    obtain ⟨fs, h⟩ := h
    exact ⟨_, _, fs, rfl, h⟩
  · exact h.elim
theorem x_clN {C : xCall} {K : xK} {N : xM} {j : Nat} {as r : List Value} {pc : Nat} {lv : xL} {f : xH} {cu su : Nat} (hT : T j = some N) (h : xcl (T, C, sc, M, E) K j as r pc lv f cu su) : (r.map fun v => v.category).sum ≤ 8 ∧ as.all (fun v => v.category == 1) = true ∧ cu + xm_mc N ≤ xm_mc M ∧ su + xm_ms N ≤ xm_ms M ∧ C j as f (fun v f' => K (pc + 3) lv (v.toList ++ r) f' (cu + xm_mc N) (su + xm_ms N)) := by
  unfold xcl at h
  dsimp only [xgT] at h
  rw [hT] at h
  exact h
theorem x_split {st As : List Value} {n a : Nat} (h0 : n + 1 ≤ st.length) (ha : (st.take (n + 1)).reverse = .ref a :: As) : st = As.reverse ++ .ref a :: st.drop (n + 1) := by
  have h1 : st.take (n + 1) = As.reverse ++ [.ref a] := by rw [← List.reverse_reverse (st.take (n + 1)), ha, List.reverse_cons]
  have h2 := List.take_append_drop (n + 1) st
  rw [h1, List.append_assoc] at h2
  exact h2.symm
theorem x_cont {H : Heap} {locs : List Loc} {cu su pc : Nat} {ls : Array Slot} {lv : xL} {r st0 : List Value} {N : xM} {post : Option Value → xH → Prop} {f : xH} {L : List Nat} {aA : Array Value} (hr : va_Run p l e R s m args below meth c H locs cu su (xm_mc N) (xm_ms N) (F0 m pc ls st0) r (xQc dA D cl tl post (xA dA L f H.size) aA) (xA dA L f H.size))
    (hA : ∀ q, s.heap.size ≤ q → A q) (hw : xwd dA D cl A L f H) (hS : va_S A s.heap H locs) (hl : xhas ls (xm_ml M) lv) (hp : ∀ v f', post v f' → xJ p l e R s m args below meth c Q (xm_ml M) dA D cl A (pc + 3) lv (v.toList ++ r) f' (cu + xm_mc N) (su + xm_ms N)) : W p l e R s m args below meth c H locs cu su Q (F0 m pc ls st0) := by
  refine x_call hr (fun v st₀ t H1 Lx h0 h1 _ hq hL => ?_)
  obtain ⟨⟨r', f', L', e1, hp1, hw', -⟩, hF⟩ := hq
  have e2 : v = r' := by
    cases e1
    rfl
  subst e2
  obtain ⟨w1, s1⟩ := x_after hA hw hS h0 h1 hw' hF hL
  exact hp _ _ hp1 H1 _ ls L' w1 s1 hl
theorem x_inner (c : ClassId) (K : Nat) : Jvm.Free.Multi.innerC c K (defaultValue .int) = vp_cell c (K, .inl (fun _ => 0)) := by
  show _ = arrV c K (fun _ => .int 0)
  rw [← arrV_new]
  rfl
theorem x_mu {H1 H : Heap} {L : List Nat} {f : xH} {t q N K : Nat} {w : Nat → Nat} (hw : xwd dA D cl A L f H) (hnl : ∀ i : Nat, i < N → w i ∉ L)
    (hP : va_P D cl (([] ++ [(q, .inl (dA t, N, .inr (.inr (.inr (.inr (fun i => if i < N then some (w i) else none))))))]) ++ va_pl (L ++ (List.range N).map w) (vr_up (xg dA f) ((List.range N).map w) (.inl (dA 0, K, .inl (fun _ => 0))))) H1)
    (hD : va_D A (([] ++ [(q, .inl (dA t, N, .inr (.inr (.inr (.inr (fun i => if i < N then some (w i) else none))))))]) ++ va_pl (L ++ (List.range N).map w) (vr_up (xg dA f) ((List.range N).map w) (.inl (dA 0, K, .inl (fun _ => 0)))))) :
    f q = none ∧ (∀ i, i < N → f (w i) = none ∧ w i ≠ q) ∧ xwd dA D cl A (q :: (L ++ (List.range N).map w)) (xmu t f q w N K) H1 := by
  have hnone : ∀ a, a ∉ L → f a = none := fun a ha => by
    cases hq : f a with
    | none => rfl
    | some e1 => exact absurd ((hw.1 a).mpr ⟨e1, hq⟩) ha
  have hq : q ∉ L ++ (List.range N).map w := by
    intro hq
    obtain ⟨k, hk⟩ := List.getElem?_of_mem (show (q, _) ∈ va_pl (L ++ (List.range N).map w) (vr_up (xg dA f) ((List.range N).map w) (.inl (dA 0, K, .inl (fun _ => 0)))) from List.mem_map.mpr ⟨q, hq, rfl⟩)
    have h3 := fun e1 (h9 : (([] ++ [(q, .inl (dA t, N, .inr (.inr (.inr (.inr (fun i => if i < N then some (w i) else none))))))]) ++ va_pl (L ++ (List.range N).map w) (vr_up (xg dA f) ((List.range N).map w) (.inl (dA 0, K, .inl (fun _ => 0)))))[k + 1]? = some (q, e1)) => hD.1 0 (k + 1) _ (q, e1) rfl h9 rfl
    have h3 := h3 _ (by rw [List.nil_append, List.cons_append, List.nil_append, List.getElem?_cons_succ]; exact hk)
    omega
  have hqL : q ∉ L := fun r => hq (List.mem_append_left _ r)
  have hwq : ∀ i, i < N → w i ≠ q := fun i hi r => hq (List.mem_append_right _ (List.mem_map.mpr ⟨i, List.mem_range.mpr hi, r⟩))
  have hpl : va_pl (q :: (L ++ (List.range N).map w)) (xg dA (xmu t f q w N K)) = ([] ++ [(q, .inl (dA t, N, .inr (.inr (.inr (.inr (fun i => if i < N then some (w i) else none))))))]) ++ va_pl (L ++ (List.range N).map w) (vr_up (xg dA f) ((List.range N).map w) (.inl (dA 0, K, .inl (fun _ => 0)))) := by
    show (q, xg dA (xmu t f q w N K) q) :: va_pl (L ++ (List.range N).map w) (xg dA (xmu t f q w N K)) = (q, _) :: va_pl _ _
    have h1 : xmu t f q w N K q = some (xR t N (fun i => if i < N then some (w i) else none)) := if_pos rfl
    rw [xg_at h1]
    refine congrArg (List.cons _) ?_
    unfold va_pl
    apply List.map_congr_left
    intro a ha
    have haq : a ≠ q := fun r => hq (r ▸ ha)
    refine congrArg (Prod.mk a) ?_
    unfold vr_up
    by_cases hm : a ∈ (List.range N).map w
    · have h2 : xmu t f q w N K a = some (xI 0 K (fun _ => 0)) := by unfold xmu; rw [if_neg haq, if_pos hm]
      rw [if_pos hm, xg_at h2]
      rfl
    · have h2 : xmu t f q w N K a = f a := by unfold xmu; rw [if_neg haq, if_neg hm]
      rw [if_neg hm]
      unfold xg
      rw [h2]
  refine ⟨hnone q hqL, fun i hi => ⟨hnone _ (hnl i hi), hwq i hi⟩, fun a => ?_, by rw [hpl]; exact hP, by rw [hpl]; exact hD⟩
  unfold xmu
  by_cases haq : a = q
  · rw [if_pos haq]
    exact ⟨fun _ => ⟨_, rfl⟩, fun _ => by rw [haq]; exact List.mem_cons_self⟩
  · rw [if_neg haq]
    by_cases hm : a ∈ (List.range N).map w
    · rw [if_pos hm]
      exact ⟨fun _ => ⟨_, rfl⟩, fun _ => List.mem_cons_of_mem _ (List.mem_append_right _ hm)⟩
    · rw [if_neg hm]
      constructor
      · intro r
        rcases List.mem_cons.mp r with r | r
        · exact absurd r haq
        · rcases List.mem_append.mp r with r | r
          · exact (hw.1 a).mp r
          · exact absurd r hm
      · exact fun r => List.mem_cons_of_mem _ (List.mem_append_left _ ((hw.1 a).mpr r))
end
