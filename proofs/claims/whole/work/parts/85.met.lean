/-! 07 every call that xSp speaks of has its contract -/
set_option maxHeartbeats 1000000 in
theorem xMet_all {B : List Jvm.Cond} {l : Launch} {dA : Nat → ClassId} {D : va_G} {cl : List vw_C} {tl : List FieldType} {T : xT} {host : String} {yI : MethodName} {bI : ByteArray} {ol : xOl} (OK : xOK ol yI B cl tl T host) (hI : xIn yI bI B l) : ∀ d, xMet ol B l dA D cl tl T d
  | 0 => fun _ _ _ _ _ _ _ _ _ _ h => False.elim h
  | d + 1 => by
    intro j M as f post L sz hT hc hn h
    have hM := OK.2.2.2 _ _ hT
    have h : xWp (T, xSp T d, none, M, post) 0 (xen as (xm_ml M)) [] f 0 0 := by
      revert h
      show xSp T (d + 1) j as f post → _
      unfold xSp
      rw [hT]
      exact id
    refine Met.ofW (cc := xm_by M) (maxL := xm_ml M) (ret := xm_rt M) hM.1 rfl ?_
    intro p e s m args below meth c s₁ Bd hml hv
    obtain ⟨rfl, hsz, hw0, hK, hO⟩ := hv
    have hts := atoms_spec (ws := xwsM B M) Bd.pre
    have hown : s.vm.findClass (xm_nm M).cls = some m.cls := findClass_of_methodNamed Bd.named
    have hlocks := Bd.notSynchronized
    have hr := Bd.returns
    subst hsz
    have hw : xwd dA D cl (xA dA L f s.heap.size) L f s.heap := ⟨hw0.1, hw0.2.1, hw0.2.2.self⟩
    have hA : ∀ q : Nat, s.heap.size ≤ q → xA dA L f s.heap.size q := fun q h => Or.inr h
    have hS : va_S (xA dA L f s.heap.size) s.heap s.heap [] := va_S.rf
    obtain ⟨ls, hl, hle⟩ := xhas_en as (xm_ml M) hc hn
    rw [lg_entry_eq, ← hle]
    have hfin : ∀ (v : Option Value) (f' : xH) (H : Heap) (L' : List Nat) (locs : List Loc), post v f' → xwd dA D cl (xA dA L f s.heap.size) L' f' H → va_S (xA dA L f s.heap.size) s.heap H locs → ∀ t : State, t.heap = H → s.WarmedH t.vm → xQc dA D cl tl post (xA dA L f s.heap.size) as.toArray s (.returned v) t :=
      fun v f' H L' locs hp hw' hS' t ht hW => ⟨⟨v, f', L', rfl, hp, by rw [ht]; exact hw', va_K.moved hW.alike hK⟩, hS'.F ht⟩
    refine h _ (xJ_cls (R := xrm (d + 1) M) OK hM.2.2.2.2.2 (xMet_all OK hI d) hI ⟨Bd.exec, Bd.bytes, hml, hown, fun w hw => hts w (List.mem_cons_of_mem _ hw)⟩ hK hO hA ⟨Nat.le_refl _, Nat.le_refl _, rfl, rfl⟩ (fun q => by rw [(name_of_methodNamed Bd.named Bd.method).1]; exact q) (fun b n g q => by cases q) ?_ ?_ ?_) s.heap [] ls L hw hS hl
    · intro x f' H locs ls L' pc cu su hdg hrt hE hcu hsu hw' hS'
      refine W.widen (k := xm_mc M) (n := xm_ms M) hcu hsu ?_
      rcases hrt with hrt | ⟨hrt, hx⟩
      · exact W.iret Bd.exec Bd.bytes (hr.trans hrt) (hfin _ _ _ _ _ hE hw' hS') hS'.2.2 hdg
      · exact W.zret (ty := .boolean) Bd.exec Bd.bytes (hr.trans hrt) (by rcases hx with rfl | rfl <;> decide) (hfin _ _ _ _ _ hE hw' hS') hS'.2.2 hdg
    · intro x f' H locs ls L' pc cu su ty hdg hrt hty hE hcu hsu hw' hS'
      refine W.widen (k := xm_mc M) (n := xm_ms M) hcu hsu ?_
      exact W.aret Bd.exec Bd.bytes (hr.trans hrt) hty (by cases x with
        | none => exact Or.inl rfl
        | some a => exact Or.inr ⟨a, rfl⟩) (hfin _ _ _ _ _ hE hw' hS') hS'.2.2 hdg
    · intro f' H locs ls L' pc cu su hdg hrt hE hcu hsu hw' hS'
      refine W.widen (k := xm_mc M) (n := xm_ms M) hcu hsu ?_
      exact W.vret Bd.exec Bd.bytes (hr.trans hrt) (hfin _ _ _ _ _ hE hw' hS') hS'.2.2 hdg
