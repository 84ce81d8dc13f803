/-! 03 what a step says, taken apart; worlds of the real machine -/
theorem x1_e {P : Prop} {st : List Value} {k : Int32 → List Value → Prop} (h : x1 st k) (q : ∀ x r, st = .int x :: r → k x r → P) : P := by
  unfold x1 at h; split at h
  · exact q _ _ rfl h
  · exact h.elim
theorem x2_e {P : Prop} {st : List Value} {k : Int32 → Int32 → List Value → Prop} (h : x2 st k) (q : ∀ x y r, st = .int y :: .int x :: r → k x y r → P) : P := by
  unfold x2 at h; split at h
  · exact q _ _ _ rfl h
  · exact h.elim
theorem xa_e {P : Prop} {st : List Value} {k : Nat → List Value → Prop} (h : xa st k) (q : ∀ x r, st = .ref x :: r → k x r → P) : P := by
  unfold xa at h; split at h
  · exact q _ _ rfl h
  · exact h.elim
theorem xia_e {P : Prop} {st : List Value} {k : Int32 → Nat → List Value → Prop} (h : xia st k) (q : ∀ i a r, st = .int i :: .ref a :: r → k i a r → P) : P := by
  unfold xia at h; split at h
  · exact q _ _ _ rfl h
  · exact h.elim
theorem xva_e {P : Prop} {st : List Value} {k : Value → Nat → List Value → Prop} (h : xva st k) (q : ∀ v a r, st = v :: .ref a :: r → k v a r → P) : P := by
  unfold xva at h; split at h
  · exact q _ _ _ rfl h
  · exact h.elim
theorem xiia_e {P : Prop} {st : List Value} {k : Int32 → Int32 → Nat → List Value → Prop} (h : xiia st k) (q : ∀ x i a r, st = .int x :: .int i :: .ref a :: r → k x i a r → P) : P := by
  unfold xiia at h; split at h
  · exact q _ _ _ _ rfl h
  · exact h.elim
theorem xvia_e {P : Prop} {st : List Value} {k : Option Nat → Int32 → Nat → List Value → Prop} (h : xvia st k) (q : ∀ v i a r, st = va_rf v :: .int i :: .ref a :: r → k v i a r → P) : P := by
  unfold xvia at h; split at h
  · exact q _ _ _ _ rfl h
  · exact q _ _ _ _ rfl h
  · exact h.elim
theorem xo_e {P : Prop} {st : List Value} {k : Option Nat → List Value → Prop} (h : xo st k) (q : ∀ v r, st = va_rf v :: r → k v r → P) : P := by
  unfold xo at h; split at h
  · exact q _ _ rfl h
  · exact q _ _ rfl h
  · exact h.elim
theorem xoo_e {P : Prop} {st : List Value} {k : Option Nat → Option Nat → List Value → Prop} (h : xoo st k) (q : ∀ x y r, st = va_rf y :: va_rf x :: r → k x y r → P) : P :=
  xo_e h (fun y r e h => xo_e h (fun x r' e' h => q x y r' (by rw [e, e']) h))
theorem xv_e {P : Prop} {st : List Value} {k : Value → List Value → Prop} (h : xv st k) (q : ∀ v r, st = v :: r → v.category = 1 → k v r → P) : P := by
  unfold xv at h; split at h
  · exact q _ _ rfl h.1 h.2
  · exact h.elim
theorem xli_e {P : Prop} {lv : xL} {i : Nat} {k : Int32 → Prop} (h : xli lv i k) (q : ∀ x, lv[i]? = some (some (.int x)) → k x → P) : P := by
  unfold xli at h; split at h
  · next e => exact q _ e h
  · exact h.elim
theorem xla_e {P : Prop} {lv : xL} {i : Nat} {k : Option Nat → Prop} (h : xla lv i k) (q : ∀ x, lv[i]? = some (some (va_rf x)) → k x → P) : P := by
  unfold xla at h; split at h
  · next a e => exact q (some a) e h
  · next e => exact q none e h
  · exact h.elim
theorem xob_e {P : Prop} {f : xH} {a ci : Nat} {k : List Value → Prop} (h : xob f a ci k) (q : ∀ fs, f a = some (xO ci fs) → k fs → P) : P := by
  unfold xob at h; split at h
  · next e => exact q _ (by rw [e, h.1]) h.2
  · exact h.elim
theorem xfd_e {P : Prop} {fs : List Value} {j : Nat} {k : Value → Prop} (h : xfd fs j k) (q : ∀ v, fs[j]? = some v → k v → P) : P := by
  unfold xfd at h; split at h
  · next e => exact q _ e h
  · exact h.elim
theorem xin_e {P : Prop} {f : xH} {a : Nat} {k : Nat → Nat → (Nat → Int32) → Prop} (h : xin f a k) (q : ∀ t n g, f a = some (xI t n g) → k t n g → P) : P := by
  unfold xin at h; split at h
  · next e => exact q _ _ _ e h
  · exact h.elim
theorem xre_e {P : Prop} {f : xH} {a : Nat} {k : Nat → Nat → (Nat → Option Nat) → Prop} (h : xre f a k) (q : ∀ t n g, f a = some (xR t n g) → k t n g → P) : P := by
  unfold xre at h; split at h
  · next e => exact q _ _ _ e h
  · exact h.elim
theorem x3l_e {P : Prop} {st : List Value} {k : Int64 → Int64 → Int64 → List Value → Prop} (h : x3l st k) (q : ∀ x l u r, st = .long u :: .long l :: .long x :: r → k x l u r → P) : P := by
  unfold x3l at h; split at h
  · exact q _ _ _ _ rfl h
  · exact h.elim
-- worlds
def xcv (dA : Nat → ClassId) (e : xC) : va_E := match e with
  | .inl (t, n, g) => .inl (dA t, n, .inl g)
  | .inr (.inl (t, n, g)) => .inl (dA t, n, .inr (.inr (.inr (.inr g))))
  | .inr (.inr o) => .inr o
def xg (dA : Nat → ClassId) (f : xH) (a : Nat) : va_E := match f a with
  | some e => xcv dA e
  | none => .inr (0, [])
def xty (dA : Nat → ClassId) (tl : List FieldType) : List (ClassId × FieldType) := tl.mapIdx (fun i t => (dA i, t))
theorem xty_at {dA : Nat → ClassId} {tl : List FieldType} {t : Nat} {ty : FieldType} (h : tl[t]? = some ty) : (xty dA tl)[t]? = some (dA t, ty) := by
  simp [xty, h]
def xwd (dA : Nat → ClassId) (D : va_G) (cl : List vw_C) (A : Nat → Prop) (L : List Nat) (f : xH) (H : Heap) : Prop :=
  (∀ a, a ∈ L ↔ ∃ e, f a = some e) ∧ va_P D cl (va_pl L (xg dA f)) H ∧ va_D A (va_pl L (xg dA f))
theorem xg_at {dA : Nat → ClassId} {f : xH} {a : Nat} {e : xC} (h : f a = some e) : xg dA f a = xcv dA e := by
  unfold xg; rw [h]
theorem xg_up (dA : Nat → ClassId) (f : xH) (a : Nat) (e : xC) : va_up (xg dA f) a (xcv dA e) = xg dA (xup f a e) := by
  funext j
  by_cases h : j = a
  · subst h
    rw [va_up_self, xg_at (xup_s f j e)]
  · rw [va_up_ne _ _ h]
    unfold xg
    rw [xup_n f e h]
section
variable {dA : Nat → ClassId} {D : va_G} {cl : List vw_C} {A : Nat → Prop} {L : List Nat} {f : xH} {H : Heap}
theorem xw_get (h : xwd dA D cl A L f H) {a : Nat} {e : xC} (ha : f a = some e) : ∃ k : Nat, (va_pl L (xg dA f))[k]? = some (a, xcv dA e) := by
  obtain ⟨k, hk⟩ := va_pl_get (X := []) (f := xg dA f) ((h.1 a).mpr ⟨e, ha⟩)
  rw [xg_at ha, List.nil_append] at hk
  exact ⟨k, hk⟩
theorem xw_set (h : xwd dA D cl A L f H) {a k : Nat} {e0 e : xC} (ha : f a = some e0) (hk : (va_pl L (xg dA f))[k]? = some (a, xcv dA e0)) : (va_pl L (xg dA f)).set k (a, xcv dA e) = va_pl L (xg dA (xup f a e)) := by
  have h1 := va_pl_set (X := []) (e := xcv dA e) (f := xg dA f) (L := L) (a := a) (k := k) (A := A) (by rw [List.nil_append]; exact h.2.2) ((h.1 a).mpr ⟨e0, ha⟩) (by rw [List.nil_append, xg_at ha]; exact hk)
  rw [List.nil_append, List.nil_append, xg_up] at h1
  exact h1
theorem xw_up (h : xwd dA D cl A L f H) {a : Nat} {e0 e : xC} (ha : f a = some e0) {H1 : Heap} (hP : va_P D cl (va_pl L (xg dA (xup f a e))) H1) (hD : va_D A (va_pl L (xg dA (xup f a e)))) : xwd dA D cl A L (xup f a e) H1 := by
  refine ⟨fun b => ?_, hP, hD⟩
  by_cases hb : b = a
  · subst hb
    exact ⟨fun _ => ⟨e, xup_s f b e⟩, fun _ => (h.1 b).mpr ⟨e0, ha⟩⟩
  · rw [xup_n f e hb]
    exact h.1 b
theorem xw_new (h : xwd dA D cl A L f H) {q : Nat} {e : xC} {H1 : Heap} (hP : va_P D cl (va_pl L (xg dA f) ++ [(q, xcv dA e)]) H1) (hD : va_D A (va_pl L (xg dA f) ++ [(q, xcv dA e)])) : f q = none ∧ xwd dA D cl A (L ++ [q]) (xup f q e) H1 := by
  have hn : q ∉ L := by
    intro hq
    obtain ⟨k, hk⟩ := List.getElem?_of_mem (show (q, xg dA f q) ∈ va_pl L (xg dA f) from List.mem_map.mpr ⟨q, hq, rfl⟩)
    have hl := (List.getElem?_eq_some_iff.mp hk).1
    have h1 : (va_pl L (xg dA f) ++ [(q, xcv dA e)])[k]? = some (q, xg dA f q) := by rw [List.getElem?_append_left hl]; exact hk
    have h2 : (va_pl L (xg dA f) ++ [(q, xcv dA e)])[(va_pl L (xg dA f)).length]? = some (q, xcv dA e) := by rw [List.getElem?_append_right (Nat.le_refl _), Nat.sub_self]; rfl
    have h3 := hD.1 _ _ _ _ h1 h2 rfl
    omega
  have hf : f q = none := by
    cases hq : f q with
    | none => rfl
    | some e1 => exact absurd ((h.1 q).mpr ⟨e1, hq⟩) hn
  rw [va_pl_push hn, xg_up] at hP hD
  refine ⟨hf, fun b => ?_, hP, hD⟩
  rw [List.mem_append, List.mem_singleton]
  by_cases hb : b = q
  · subst hb
    exact ⟨fun _ => ⟨e, xup_s f b e⟩, fun _ => Or.inr rfl⟩
  · rw [xup_n f e hb]
    exact ⟨fun r => r.elim (fun r => (h.1 b).mp r) (fun r => absurd r hb), fun r => Or.inl ((h.1 b).mpr r)⟩
theorem xw_weak (h : xwd dA D cl A L f H) {A' : Nat → Prop} (hA : ∀ q, A q → A' q) : xwd dA D cl A' L f H := ⟨h.1, h.2.1, h.2.2.weaken (fun _ _ _ => hA _)⟩
end
-- locals
def xpr (lv : xL) : List (Nat × Value) := (List.range lv.length).filterMap (fun i => match lv[i]? with
  | some (some v) => some (i, v)
  | _ => none)
theorem xpr_mem {lv : xL} {i : Nat} {v : Value} : (i, v) ∈ xpr lv ↔ lv[i]? = some (some v) := by
  unfold xpr
  rw [List.mem_filterMap]
  constructor
  · rintro ⟨j, hj, h⟩
    split at h
    · next e =>
      have h1 := Option.some.inj h
      have h2 : j = i := congrArg Prod.fst h1
      have h3 := congrArg Prod.snd h1
      dsimp only at h3
      subst h2; subst h3
      exact e
    · cases h
  · intro h
    refine ⟨i, List.mem_range.mpr (List.getElem?_eq_some_iff.mp h).1, ?_⟩
    rw [h]
def xhas (ls : Array Slot) (nL : Nat) (lv : xL) : Prop := lv.length = nL ∧ (∀ v, some v ∈ lv → v.category = 1) ∧ lv_has ls nL (xpr lv)
theorem xhas_at {ls : Array Slot} {nL : Nat} {lv : xL} (h : xhas ls nL lv) {i : Nat} {v : Value} (hi : lv[i]? = some (some v)) : ls[i]? = some (.val v) := h.2.2.2.2 (i, v) (xpr_mem.mpr hi)
theorem xhas_set {ls ls' : Array Slot} {nL : Nat} {lv : xL} (h : xhas ls nL lv) {i : Nat} {v : Value} (hi : i < lv.length) (hv : v.category = 1) (h' : lv_has ls' nL ((i, v) :: (xpr lv).filter (fun q => !(q.1 == i) && !(q.1 + 1 == i && q.2.category == 2)))) : xhas ls' nL (lv.set i (some v)) := by
  refine ⟨by rw [List.length_set]; exact h.1, fun w hw => ?_, h'.1, h'.2.1, fun q hq => ?_⟩
  · rcases List.mem_or_eq_of_mem_set hw with r | r
    · exact h.2.1 w r
    · rw [Option.some.inj r]; exact hv
  · obtain ⟨j, w⟩ := q
    have h1 := xpr_mem.mp hq
    by_cases hj : j = i
    · subst hj
      rw [List.getElem?_set_self hi] at h1
      have h2 := Option.some.inj (Option.some.inj h1)
      subst h2
      exact h'.2.2 (j, v) List.mem_cons_self
    · rw [List.getElem?_set_ne (fun q => hj q.symm)] at h1
      refine h'.2.2 (j, w) (List.mem_cons_of_mem _ (List.mem_filter.mpr ⟨xpr_mem.mpr h1, ?_⟩))
      have hc := h.2.1 w (List.mem_of_getElem? h1)
      simp [hj, hc]
theorem xhas_en (as : List Value) (n : Nat) (hc : ∀ v ∈ as, v.category = 1) (hn : as.length ≤ n) : ∃ ls, xhas ls n (xen as n) ∧ ls = (lg_sl as ++ List.replicate (n - (lg_sl as).length) Slot.unset).toArray := by
  have hsl : ∀ (l : List Value), (∀ v ∈ l, v.category = 1) → lg_sl l = l.map Slot.val := by
    intro l hl
    induction l with
    | nil => rfl
    | cons a r ih =>
      have h1 := hl a List.mem_cons_self
      have h2 := ih (fun v hv => hl v (List.mem_cons_of_mem _ hv))
      unfold lg_sl at h2 ⊢
      rw [List.flatMap_cons, h2, h1]
      rfl
  have hlen : (lg_sl as).length = as.length := by rw [hsl as hc, List.length_map]
  refine ⟨_, ⟨?_, ?_, ?_⟩, rfl⟩
  · simp [xen]; omega
  · intro v hv
    unfold xen at hv
    rcases List.mem_append.mp hv with r | r
    · obtain ⟨w, hw, e⟩ := List.mem_map.mp r
      rw [← Option.some.inj e]; exact hc w hw
    · cases (List.mem_replicate.mp r).2
  · have h0 := lv_entry as (n := n) (by rw [hlen]; exact hn)
    refine ⟨h0.1, h0.2.1, fun q hq => ?_⟩
    obtain ⟨j, w⟩ := q
    have h1 := xpr_mem.mp hq
    have hj : j < as.length := by
      rcases Nat.lt_or_ge j as.length with r | r
      · exact r
      · unfold xen at h1
        rw [List.getElem?_append_right (by rw [List.length_map]; exact r)] at h1
        have := List.mem_of_getElem? h1
        cases (List.mem_replicate.mp this).2
    unfold xen at h1
    rw [List.getElem?_append_left (by rw [List.length_map]; exact hj), List.getElem?_map] at h1
    have h2 : as[j]? = some w := by
      cases hh : as[j]? with
      | none => rw [hh] at h1; cases h1
      | some w' => rw [hh] at h1; exact congrArg some (Option.some.inj (Option.some.inj h1))
    show ((lg_sl as ++ List.replicate (n - (lg_sl as).length) Slot.unset).toArray)[j]? = some (.val w)
    rw [List.getElem?_toArray, List.getElem?_append_left (by rw [hlen]; exact hj), hsl as hc, List.getElem?_map, h2]
    rfl
-- array classes of references are there
theorem x_AOA_moved {t : FieldType} {u U : State} (hvm : u.vm.Alike U.vm) (h : va_AOA t u) : va_AOA t U := by
  obtain ⟨comp, c, k, h1, h2, h3, h4, h5⟩ := arrayOverA_spec h
  obtain ⟨k', hk', he⟩ := hvm.2.2 _ _ h3
  have hi : (U.vm.classes.findIdx? fun (x : Class) => match x.kind with | .array component _ => component == comp | _ => false) = some c := by
    have h6 := va_idx_bare U.vm comp
    have h8 : U.vm.bare = u.vm.bare := by first | exact hvm.bare_eq | exact hvm.bare_eq.symm
    rw [h8] at h6
    exact (h6.symm.trans (va_idx_bare u.vm comp)).trans h2
  have hkind : k'.kind = .array comp (.array t) := by rw [he]; exact h4
  have f1 : U.vm.findClass (FieldType.array t).toString = some comp := by rw [hvm.findClass]; exact h1
  have f2 : U.vm.findClass ("[" ++ (FieldType.array t).toString) = some c := by rw [hvm.findClass]; exact h5
  unfold va_AOA Cond.before Cond.holds
  simp only [Cond.value]
  rw [f1, Option.bind_some]
  refine (congrArg (fun o : Option Nat => (o.bind (fun c => (U.vm.classes[c]?).map fun (k : Class) => match k.kind with | .array _ ty => decide (ty = FieldType.array t) && decide (U.vm.findClass ("[" ++ (FieldType.array t).toString) = some c) | _ => false) == some true)) hi).trans ?_
  simp [hk', hkind, f2]
abbrev xOl : Type := List FieldType × List Jvm.Cond
/-- what the tables say beside the words: array classes over references, links to a nest mate's private fields -/
def xao (ol : xOl) (U : State) : Prop := (∀ ty ∈ ol.1, (∃ C, ty = .object C ∧ va_AO C U) ∨ ∃ t, ty = .array t ∧ va_AOA t U) ∧ ∀ w ∈ ol.2, (∃ a i b n d h, w = .fieldLinkNest a i b n d h) ∧ va_Nw w U
theorem xao_warm {ol : xOl} {u U : State} (hW : u.WarmedH U.vm) (h : xao ol u) : xao ol U := ⟨fun ty hty => (h.1 ty hty).imp (fun ⟨C, e, q⟩ => ⟨C, e, q.moved hW.alike⟩) (fun ⟨t, e, q⟩ => ⟨t, e, x_AOA_moved hW.alike q⟩), fun w hw => by
  obtain ⟨⟨a, i, b, n, d, h', rfl⟩, q⟩ := h.2 w hw
  exact ⟨⟨a, i, b, n, d, h', rfl⟩, va_Nw.warmF hW q⟩⟩
theorem xao_same {ol : xOl} {u U : State} (hvm : u.vm = U.vm) (h : xao ol u) : xao ol U := ⟨fun ty hty => (h.1 ty hty).imp (fun ⟨C, e, q⟩ => ⟨C, e, q.moved (hvm ▸ Vm.Alike.refl u.vm)⟩) (fun ⟨t, e, q⟩ => ⟨t, e, x_AOA_moved (hvm ▸ Vm.Alike.refl u.vm) q⟩), fun w hw => by
  obtain ⟨⟨a, i, b, n, d, h', rfl⟩, q⟩ := h.2 w hw
  exact ⟨⟨a, i, b, n, d, h', rfl⟩, va_Nw.same rfl hvm q⟩⟩
theorem xao_o {ol : xOl} {U : State} {C : String} (h : xao ol U) (hC : .object C ∈ ol.1) : va_AO C U := by
  rcases h.1 _ hC with ⟨C', e, q⟩ | ⟨t, e, q⟩
  · cases e
    exact q
  · cases e
theorem xao_a {ol : xOl} {U : State} {t : FieldType} (h : xao ol U) (hC : .array t ∈ ol.1) : va_AOA t U := by
  rcases h.1 _ hC with ⟨C', e, q⟩ | ⟨t', e, q⟩
  · cases e
  · cases e
    exact q
theorem xao_n {ol : xOl} {U : State} {a b n d h' : String} {i : Nat} {A : Array Value} (h : xao ol U) (hC : Jvm.Cond.fieldLinkNest a i b n d h' ∈ ol.2) : (Jvm.Cond.fieldLinkNest a i b n d h').before A U = true := va_Nw.use rfl (h.2 _ hC).2
