/-! 08 a program that checks a table; what it has checked, xOK says -/
def xcW (B : List Jvm.Cond) (p : Nat) (w : Jvm.Cond) : Bool := decide (B[p]? = some w)
theorem xcW_ok {B : List Jvm.Cond} {p : Nat} {w : Jvm.Cond} (h : xcW B p w = true) : B[p]? = some w := of_decide_eq_true h
def xcT (t : Nat) (ty : Option FieldType) : Bool := match t, ty with
  | 0, some .int => true
  | 1, some (.object _) => true
  | 1, some (.array _) => true
  | 2, some .boolean => true
  | _, _ => false
theorem xcT_ok {t : Nat} {o : Option FieldType} (h : xcT t o = true) : ∃ ty, o = some ty ∧ xtag t ty := by
  unfold xcT at h
  split at h
  · exact ⟨_, rfl, rfl⟩
  · exact ⟨_, rfl, Or.inl ⟨_, rfl⟩⟩
  · exact ⟨_, rfl, Or.inr ⟨_, rfl⟩⟩
  · exact ⟨_, rfl, rfl⟩
  · cases h
def xcF (ol : xOl) (B : List Jvm.Cond) (host own : String) (j : Nat) (q : String × String × String × Bool) (p : Nat) : Bool := xcW B p (.fieldLink own j q.1 q.2.1 q.2.2.1) || decide (Jvm.Cond.fieldLinkNest own j q.1 q.2.1 q.2.2.1 host ∈ ol.2)
theorem xcF_ok {ol : xOl} {B : List Jvm.Cond} {host own : String} {j : Nat} {q : String × String × String × Bool} {p : Nat} (h : xcF ol B host own j q p = true) : xlf ol B host own j q p := by
  unfold xcF at h
  rcases (Bool.or_eq_true _ _).mp h with h | h
  · exact Or.inl (xcW_ok h)
  · exact Or.inr (of_decide_eq_true h)
def xcM (B : List Jvm.Cond) (own : String) (j : Nat) (y : MethodName) (p n ml : Nat) : Bool := xcW B p (.methodLink own j y) && (decide ((parseMethodDescriptor y.desc).map (fun d => d.parameters.length) = some n) && decide (n + 1 ≤ ml))
theorem xcM_ok {B : List Jvm.Cond} {own : String} {j : Nat} {y : MethodName} {p n ml : Nat} (h : xcM B own j y p n ml = true) : xlm B own j y p n ml := by
  unfold xcM at h
  obtain ⟨h1, h2⟩ := (Bool.and_eq_true _ _).mp h
  obtain ⟨h3, h4⟩ := (Bool.and_eq_true _ _).mp h2
  exact ⟨xcW_ok h1, of_decide_eq_true h3, of_decide_eq_true h4⟩
def xcTab (pc : Nat) : Int → List Int → List (Int × Nat) → Bool
  | _, [], [] => true
  | lo, o :: os, q :: r => decide (q.1 = lo) && (decide ((pc : Int) + o = (q.2 : Int)) && xcTab pc (lo + 1) os r)
  | _, _, _ => false
theorem xcTab_ok {pc : Nat} : ∀ {lo : Int} {os : List Int} {r : List (Int × Nat)}, xcTab pc lo os r = true → xtab pc lo os r
  | _, [], [], _ => trivial
  | lo, o :: os, q :: r, h => by
    unfold xcTab at h
    obtain ⟨h1, h2⟩ := (Bool.and_eq_true _ _).mp h
    obtain ⟨h3, h4⟩ := (Bool.and_eq_true _ _).mp h2
    exact ⟨of_decide_eq_true h1, of_decide_eq_true h3, xcTab_ok h4⟩
  | _, [], _ :: _, h => by cases h
  | _, _ :: _, [], h => by cases h
def xcLks (pc : Nat) : List (Int × Int) → List (Int × Nat) → Bool
  | [], [] => true
  | o :: os, q :: r => decide (q.1 = o.1) && (decide ((Int32.ofInt q.1).toInt = q.1) && (decide ((pc : Int) + o.2 = (q.2 : Int)) && xcLks pc os r))
  | _, _ => false
theorem xcLks_ok {pc : Nat} : ∀ {os : List (Int × Int)} {r : List (Int × Nat)}, xcLks pc os r = true → xlks pc os r
  | [], [], _ => trivial
  | o :: os, q :: r, h => by
    unfold xcLks at h
    obtain ⟨h1, h2⟩ := (Bool.and_eq_true _ _).mp h
    obtain ⟨h3, h4⟩ := (Bool.and_eq_true _ _).mp h2
    obtain ⟨h5, h6⟩ := (Bool.and_eq_true _ _).mp h4
    exact ⟨of_decide_eq_true h1, of_decide_eq_true h3, of_decide_eq_true h5, xcLks_ok h6⟩
  | [], _ :: _, h => by cases h
  | _ :: _, [], h => by cases h
/-- kinds of methods: 0 an object's, 1 static, 2 a constructor -/
def xkf (B : List Jvm.Cond) (cl : List vw_C) (kd : List Nat) (j : Nat) (N : xM) : Prop := match kd[j]? with
  | some 0 => Cond.instanceMethod (xm_nm N) ∈ B ∧ Cond.selects (xm_nm N).cls (xm_nm N) (xm_nm N) ∈ B ∧ ∃ q, cl[xm_ci N]? = some q ∧ q.1 = (xm_nm N).cls
  | some 1 => Cond.static (xm_nm N) ∈ B
  | some 2 => Cond.instanceMethod (xm_nm N) ∈ B ∧ (xm_nm N).name = "<init>" ∧ xm_rt N = none
  | _ => False
def xcL (B : List Jvm.Cond) (cl : List vw_C) (tl : List FieldType) (T : xT) (kd : List Nat) (host : String) (yI : MethodName) (ol : xOl) (M : xM) (pc : Nat) (i : Instr) (k : xKk) : Bool := match i with
  | .ldc j => xcW B k.1 (.constant (xm_nm M).cls j (Int32.ofInt ((k.2.2.2.headD (0, 0)).1)))
  | .ldc_w j => xcW B k.1 (.constant (xm_nm M).cls j (Int32.ofInt ((k.2.2.2.headD (0, 0)).1)))
  | .ldc2_w j => xcW B k.1 (.constantLong (xm_nm M).cls j (Int64.ofInt ((k.2.2.2.headD (0, 0)).1)))
  | .goto o => decide ((pc : Int) + o = (k.2.1 : Int))
  | .ifCond _ o => decide ((pc : Int) + o = (k.2.1 : Int))
  | .if_icmp _ o => decide ((pc : Int) + o = (k.2.1 : Int))
  | .if_acmp _ o => decide ((pc : Int) + o = (k.2.1 : Int))
  | .ifnull o => decide ((pc : Int) + o = (k.2.1 : Int))
  | .ifnonnull o => decide ((pc : Int) + o = (k.2.1 : Int))
  | .tableswitch d lo hi os => decide ((pc : Int) + d = (k.2.1 : Int)) && (xcTab pc lo os.toList k.2.2.2 && decide (hi + 1 = lo + os.toList.length ∧ -2147483648 ≤ lo ∧ hi ≤ 2147483647))
  | .lookupswitch d ps => decide ((pc : Int) + d = (k.2.1 : Int)) && ((ps.toList.zip (ps.toList.drop 1)).all (fun (a, next) => a.1 < next.1) && xcLks pc ps.toList k.2.2.2)
  | .areturn => xcT 1 (xm_rt M)
  | .return_ => (xm_rt M).isNone
  | .getfield j => match cl[k.2.1]? with
    | some q => decide (k.2.2.1 < q.2.2) && xcF ol B host (xm_nm M).cls j (q.2.1 k.2.2.1) k.1
    | none => false
  | .putfield j => match cl[k.2.1]? with
    | some q => decide (k.2.2.1 < q.2.2) && (xcF ol B host (xm_nm M).cls j (q.2.1 k.2.2.1) k.1 && (xcT ((k.2.2.2.headD (0, 9)).2) (parseFieldDescriptor (q.2.1 k.2.2.1).2.2.1) && (!(q.2.1 k.2.2.1).2.2.2 || (decide ((xm_nm M).name = "<init>") && (decide ((q.2.1 k.2.2.1).1 = (xm_nm M).cls) && xcW B k.1 (.fieldLink (xm_nm M).cls j (q.2.1 k.2.2.1).1 (q.2.1 k.2.2.1).2.1 (q.2.1 k.2.2.1).2.2.1))))))
    | none => false
  | .arraylength => (tl[k.2.1]?).isSome
  | .aaload => match tl[k.2.1]? with
    | some ty => ty.isReference
    | none => false
  | .aastore => match cl[k.2.2.1]? with
    | some q => decide (tl[k.2.1]? = some (.object q.1))
    | none => false
  | .newarray a => decide (tl[k.2.1]? = some (Op.newarray.typeOf a)) && (xcW B k.1 (.arrayClass (Op.newarray.typeOf a)) && decide (Op.newarray.typeOf a = .int ∨ Op.newarray.typeOf a = .boolean ∨ Op.newarray.typeOf a = .byte))
  | .anewarray j => match tl[k.2.1]? with
    | some (.object C) => xcW B k.1 (.classLink (xm_nm M).cls j C) && decide (FieldType.object C ∈ ol.1)
    | _ => false
  | .multianewarray j dm => decide (dm = 2) && (decide (tl[k.2.1]? = some (.array .int)) && (xcW B k.1 (.classLink (xm_nm M).cls j "[[I") && (decide (FieldType.array .int ∈ ol.1) && B.contains (.arrayClass .int))))
  | .new j => match cl[k.2.1]? with
    | some q => decide (q.2.2 = k.2.2.1) && (xcW B k.1 (.classLink (xm_nm M).cls j q.1) && (B.contains (.instantiable q.1 q.2.2) && (B.contains (.initialized q.1) && (decide ((k.2.2.2.map Prod.snd).length = q.2.2) && (List.range q.2.2).all (fun r => xcT ((k.2.2.2.map Prod.snd).getD r 9) (parseFieldDescriptor (q.2.1 r).2.2.1))))))
    | none => false
  | .invokevirtual j => match T k.2.1 with
    | some N => decide (kd[k.2.1]? = some 0) && xcM B (xm_nm M).cls j (xm_nm N) k.1 k.2.2.1 (xm_ml N)
    | none => false
  | .invokestatic j => match k.2.2.2 with
    | [(2, 0)] => xcW B k.1 (.methodLink (xm_nm M).cls j Lib.Math.min.name)
    | [(2, 1)] => xcW B k.1 (.methodLink (xm_nm M).cls j Lib.Math.max.name)
    | [(2, 2)] => xcW B k.1 (.methodLink (xm_nm M).cls j yI)
    | _ => match T k.2.1 with
      | some N => decide (kd[k.2.1]? = some 1) && xcM B (xm_nm M).cls j (xm_nm N) k.1 k.2.2.1 (xm_ml N + 1)
      | none => false
  | .invokespecial j => match k.2.2.2 with
    | [(2, _)] => xcW B k.1 (.methodLink (xm_nm M).cls j Lib.objectInit)
    | _ => match T k.2.1 with
      | some N => decide (kd[k.2.1]? = some 2) && xcM B (xm_nm M).cls j (xm_nm N) k.1 k.2.2.1 (xm_ml N)
      | none => false
  | _ => true
/-- what the library's methods need -/
def xlib (B : List Jvm.Cond) : Prop := (Cond.static Lib.Math.min.name ∈ B ∧ Cond.initialized "java/lang/Math" ∈ B ∧ Cond.code Lib.Math.min.name Lib.Math.min.code 2 (some .int) ∈ B) ∧ (Cond.static Lib.Math.max.name ∈ B ∧ Cond.code Lib.Math.max.name Lib.Math.max.code 2 (some .int) ∈ B) ∧ Cond.instanceMethod Lib.objectInit ∈ B ∧ Cond.code Lib.objectInit ⟨#[0xb1]⟩ 1 none ∈ B
set_option maxHeartbeats 1000000 in
theorem xcL_ok {B : List Jvm.Cond} {cl : List vw_C} {tl : List FieldType} {T : xT} {kd : List Nat} {host : String} {yI : MethodName} {ol : xOl} {M : xM} {pc : Nat} {i : Instr} {k : xKk} (hlib : xlib B) (hkd : ∀ j N, T j = some N → xkf B cl kd j N) (h : xcL B cl tl T kd host yI ol M pc i k = true) : xlink ol yI B cl tl T host M pc i k := by
  cases i
  case ldc => exact xcW_ok h
  case ldc_w => exact xcW_ok h
  case ldc2_w => exact xcW_ok h
  case goto => unfold xcL at h; unfold xlink; exact of_decide_eq_true h
  case ifCond => unfold xcL at h; unfold xlink; exact of_decide_eq_true h
  case if_icmp => unfold xcL at h; unfold xlink; exact of_decide_eq_true h
  case if_acmp => unfold xcL at h; unfold xlink; exact of_decide_eq_true h
  case ifnull => unfold xcL at h; unfold xlink; exact of_decide_eq_true h
  case ifnonnull => unfold xcL at h; unfold xlink; exact of_decide_eq_true h
  case tableswitch =>
    obtain ⟨h1, h2⟩ := (Bool.and_eq_true _ _).mp h
    obtain ⟨h3, h4⟩ := (Bool.and_eq_true _ _).mp h2
    have h5 := of_decide_eq_true h4
    exact ⟨of_decide_eq_true h1, xcTab_ok h3, h5.1, h5.2.1, h5.2.2⟩
  case lookupswitch =>
    obtain ⟨h1, h2⟩ := (Bool.and_eq_true _ _).mp h
    obtain ⟨h3, h4⟩ := (Bool.and_eq_true _ _).mp h2
    exact ⟨of_decide_eq_true h1, h3, xcLks_ok h4⟩
  case areturn =>
    obtain ⟨ty, h1, h2⟩ := xcT_ok h
    exact ⟨ty, h1, h2⟩
  case return_ => exact Option.isNone_iff_eq_none.mp h
  case getfield =>
    unfold xcL at h
    dsimp only at h
    split at h
    · next q hq =>
      obtain ⟨h1, h2⟩ := (Bool.and_eq_true _ _).mp h
      exact ⟨q, hq, of_decide_eq_true h1, xcF_ok h2⟩
    · cases h
  case putfield =>
    unfold xcL at h
    dsimp only at h
    split at h
    · next q hq =>
      obtain ⟨h1, h2⟩ := (Bool.and_eq_true _ _).mp h
      obtain ⟨h3, h4⟩ := (Bool.and_eq_true _ _).mp h2
      obtain ⟨h5, h6⟩ := (Bool.and_eq_true _ _).mp h4
      refine ⟨q, hq, of_decide_eq_true h1, xcF_ok h3, xcT_ok h5, fun hf => ?_⟩
      rcases (Bool.or_eq_true _ _).mp h6 with h7 | h7
      · rw [hf] at h7; cases h7
      · obtain ⟨h8, h9⟩ := (Bool.and_eq_true _ _).mp h7
        obtain ⟨h10, h11⟩ := (Bool.and_eq_true _ _).mp h9
        exact ⟨of_decide_eq_true h8, of_decide_eq_true h10, xcW_ok h11⟩
    · cases h
  case arraylength => exact Option.isSome_iff_exists.mp h
  case aaload =>
    unfold xcL at h
    dsimp only at h
    split at h
    · next ty hq => exact ⟨ty, hq, h⟩
    · cases h
  case aastore =>
    unfold xcL at h
    dsimp only at h
    split at h
    · next q hq => exact ⟨q, hq, of_decide_eq_true h⟩
    · cases h
  case newarray =>
    obtain ⟨h1, h2⟩ := (Bool.and_eq_true _ _).mp h
    obtain ⟨h3, h4⟩ := (Bool.and_eq_true _ _).mp h2
    exact ⟨of_decide_eq_true h1, xcW_ok h3, of_decide_eq_true h4⟩
  case anewarray =>
    unfold xcL at h
    dsimp only at h
    split at h
    · next C hq =>
      obtain ⟨h1, h2⟩ := (Bool.and_eq_true _ _).mp h
      exact ⟨C, hq, xcW_ok h1, of_decide_eq_true h2⟩
    · cases h
  case multianewarray =>
    obtain ⟨h1, h2⟩ := (Bool.and_eq_true _ _).mp h
    obtain ⟨h3, h4⟩ := (Bool.and_eq_true _ _).mp h2
    obtain ⟨h5, h6⟩ := (Bool.and_eq_true _ _).mp h4
    obtain ⟨h7, h8⟩ := (Bool.and_eq_true _ _).mp h6
    exact ⟨of_decide_eq_true h1, of_decide_eq_true h3, xcW_ok h5, of_decide_eq_true h7, List.contains_iff_mem.mp h8⟩
  case new =>
    unfold xcL at h
    dsimp only at h
    split at h
    · next q hq =>
      obtain ⟨h1, h2⟩ := (Bool.and_eq_true _ _).mp h
      obtain ⟨h3, h4⟩ := (Bool.and_eq_true _ _).mp h2
      obtain ⟨h5, h6⟩ := (Bool.and_eq_true _ _).mp h4
      obtain ⟨h7, h8⟩ := (Bool.and_eq_true _ _).mp h6
      obtain ⟨h9, h10⟩ := (Bool.and_eq_true _ _).mp h8
      exact ⟨q, hq, of_decide_eq_true h1, xcW_ok h3, List.contains_iff_mem.mp h5, List.contains_iff_mem.mp h7, of_decide_eq_true h9, fun r hr => xcT_ok (List.all_eq_true.mp h10 r (List.mem_range.mpr hr))⟩
    · cases h
  case invokevirtual =>
    unfold xcL at h
    dsimp only at h
    split at h
    · next N hq =>
      obtain ⟨h1, h2⟩ := (Bool.and_eq_true _ _).mp h
      have h3 := hkd _ _ hq
      unfold xkf at h3
      rw [of_decide_eq_true h1] at h3
      exact ⟨N, hq, xcM_ok h2, h3.1, h3.2.1, h3.2.2⟩
    · cases h
  case invokestatic j =>
    obtain ⟨k0, k1, k2, k3⟩ := k
    unfold xcL at h
    unfold xlink
    dsimp only at h ⊢
    split at h
    · exact ⟨xcW_ok h, hlib.1.1, hlib.1.2.1, hlib.1.2.2⟩
    · exact ⟨xcW_ok h, hlib.2.1.1, hlib.1.2.1, hlib.2.1.2⟩
    · exact xcW_ok h
    · split at h
      · next N hq =>
        obtain ⟨h1, h2⟩ := (Bool.and_eq_true _ _).mp h
        have h3 := hkd _ _ hq
        unfold xkf at h3
        rw [of_decide_eq_true h1] at h3
        split
        · simp_all
        · simp_all
        · simp_all
        · exact ⟨N, hq, xcM_ok h2, h3⟩
      · cases h
  case invokespecial j =>
    obtain ⟨k0, k1, k2, k3⟩ := k
    unfold xcL at h
    unfold xlink
    dsimp only at h ⊢
    split at h
    · exact ⟨xcW_ok h, hlib.2.2.1, hlib.2.2.2⟩
    · split at h
      · next N hq =>
        obtain ⟨h1, h2⟩ := (Bool.and_eq_true _ _).mp h
        have h3 := hkd _ _ hq
        unfold xkf at h3
        rw [of_decide_eq_true h1] at h3
        split
        · simp_all
        · exact ⟨N, hq, xcM_ok h2, h3.1, h3.2.1, h3.2.2⟩
      · cases h
  all_goals exact trivial
def xcLen (i : Instr) (n : Nat) : Bool := match i with
  | .tableswitch _ _ _ _ => true
  | .lookupswitch _ _ => true
  | i => decide (n = xlen i)
theorem xcLen_ok {i : Instr} {n : Nat} (h : xcLen i n = true) : n = xlen i ∨ (∃ d lo hi os, i = .tableswitch d lo hi os) ∨ ∃ d ps, i = .lookupswitch d ps := by
  unfold xcLen at h
  split at h
  · exact Or.inr (Or.inl ⟨_, _, _, _, rfl⟩)
  · exact Or.inr (Or.inr ⟨_, _, rfl⟩)
  · exact Or.inl (of_decide_eq_true h)
def xcE (B : List Jvm.Cond) (cl : List vw_C) (tl : List FieldType) (T : xT) (kd : List Nat) (host : String) (yI : MethodName) (ol : xOl) (M : xM) (q : xE) : Bool := decide (decode (xm_by M) q.1 = .ok (q.2.1, q.2.2.1)) && (xcLen q.2.1 q.2.2.1 && xcL B cl tl T kd host yI ol M q.1 q.2.1 q.2.2.2)
/-- p: the place of its code's word, q: that of 'initialized' -/
def xcX (B : List Jvm.Cond) (M : xM) (q : Nat) : Bool := plainName (xm_nm M).cls && (xcW B q (.initialized (xm_nm M).cls) && (decide ((xm_nm M).cls ≠ "java/lang/invoke/MethodHandle" ∧ (xm_nm M).cls ≠ "java/lang/invoke/VarHandle") && decide (xm_ml M ≤ 21)))
theorem xokM_of {B : List Jvm.Cond} {cl : List vw_C} {tl : List FieldType} {T : xT} {kd : List Nat} {host : String} {yI : MethodName} {ol : xOl} {M : xM} {p q : Nat} (hlib : xlib B) (hkd : ∀ j N, T j = some N → xkf B cl kd j N) (hp : B[p]? = some (.code (xm_nm M) (xm_by M) (xm_ml M) (xm_rt M))) (hq : xcX B M q = true) (h : (xm_cd M).all (xcE B cl tl T kd host yI ol M) = true) : xokM ol yI B cl tl T host M := by
  unfold xcX at hq
  obtain ⟨h1, h2⟩ := (Bool.and_eq_true _ _).mp hq
  obtain ⟨h3, h4⟩ := (Bool.and_eq_true _ _).mp h2
  obtain ⟨h5, h6⟩ := (Bool.and_eq_true _ _).mp h4
  have h7 := of_decide_eq_true h5
  refine ⟨h1, List.mem_of_getElem? hp, List.mem_of_getElem? (xcW_ok h3), h7, of_decide_eq_true h6, fun e he => ?_⟩
  have h8 := List.all_eq_true.mp h e he
  unfold xcE at h8
  obtain ⟨g1, g2⟩ := (Bool.and_eq_true _ _).mp h8
  obtain ⟨g3, g4⟩ := (Bool.and_eq_true _ _).mp g2
  exact ⟨of_decide_eq_true g1, xcLen_ok g3, xcL_ok hlib hkd g4⟩
