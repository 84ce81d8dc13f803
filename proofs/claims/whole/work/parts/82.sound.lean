/-! 04 the small machine is the real one: what a table must say of the words, and then: what xSp says of a call, its contract says -/
def xlen : Instr → Nat
  | .bipush _ | .ldc _ | .iload _ | .aload _ | .istore _ | .astore _ | .newarray _ => 2
  | .ldc2_w _ | .sipush _ | .ldc_w _ | .iinc _ _ | .goto _ | .ifCond _ _ | .if_icmp _ _ | .if_acmp _ _ | .ifnull _ | .ifnonnull _ | .getfield _ | .putfield _ | .anewarray _ | .new _ | .invokevirtual _ | .invokestatic _ | .invokespecial _ => 3
  | .multianewarray _ _ => 4
  | _ => 1
def xtab (pc : Nat) : Int → List Int → List (Int × Nat) → Prop
  | _, [], [] => True
  | lo, o :: os, q :: r => q.1 = lo ∧ (pc : Int) + o = (q.2 : Int) ∧ xtab pc (lo + 1) os r
  | _, _, _ => False
def xlks (pc : Nat) : List (Int × Int) → List (Int × Nat) → Prop
  | [], [] => True
  | o :: os, q :: r => q.1 = o.1 ∧ (Int32.ofInt q.1).toInt = q.1 ∧ (pc : Int) + o.2 = (q.2 : Int) ∧ xlks pc os r
  | _, _ => False
def xtag (t : Nat) (ty : FieldType) : Prop := match t with
  | 0 => ty = .int
  | 1 => (∃ n, ty = .object n) ∨ ∃ u, ty = .array u
  | 2 => ty = .boolean
  | _ => False
/-- what a field's link says -/
def xlf (ol : xOl) (B : List Jvm.Cond) (host own : String) (j : Nat) (q : String × String × String × Bool) (p : Nat) : Prop := B[p]? = some (.fieldLink own j q.1 q.2.1 q.2.2.1) ∨ Jvm.Cond.fieldLinkNest own j q.1 q.2.1 q.2.2.1 host ∈ ol.2
/-- what a call's link says -/
def xlm (B : List Jvm.Cond) (own : String) (j : Nat) (y : MethodName) (p n ml : Nat) : Prop := B[p]? = some (.methodLink own j y) ∧ (parseMethodDescriptor y.desc).map (fun d => d.parameters.length) = some n ∧ n + 1 ≤ ml
def xlink (ol : xOl) (yI : MethodName) (B : List Jvm.Cond) (cl : List vw_C) (tl : List FieldType) (T : xT) (host : String) (M : xM) (pc : Nat) (i : Instr) (k : xKk) : Prop := match i with
  | .ldc j => B[k.1]? = some (.constant (xm_nm M).cls j (Int32.ofInt ((k.2.2.2.headD (0, 0)).1)))
  | .ldc_w j => B[k.1]? = some (.constant (xm_nm M).cls j (Int32.ofInt ((k.2.2.2.headD (0, 0)).1)))
  | .ldc2_w j => B[k.1]? = some (.constantLong (xm_nm M).cls j (Int64.ofInt ((k.2.2.2.headD (0, 0)).1)))
  | .goto o => (pc : Int) + o = (k.2.1 : Int)
  | .ifCond _ o => (pc : Int) + o = (k.2.1 : Int)
  | .if_icmp _ o => (pc : Int) + o = (k.2.1 : Int)
  | .if_acmp _ o => (pc : Int) + o = (k.2.1 : Int)
  | .ifnull o => (pc : Int) + o = (k.2.1 : Int)
  | .ifnonnull o => (pc : Int) + o = (k.2.1 : Int)
  | .tableswitch d lo hi os => (pc : Int) + d = (k.2.1 : Int) ∧ xtab pc lo os.toList k.2.2.2 ∧ hi + 1 = lo + os.toList.length ∧ -2147483648 ≤ lo ∧ hi ≤ 2147483647
  | .lookupswitch d ps => (pc : Int) + d = (k.2.1 : Int) ∧ (ps.toList.zip (ps.toList.drop 1)).all (fun (a, next) => a.1 < next.1) = true ∧ xlks pc ps.toList k.2.2.2
  | .areturn => ∃ ty, xm_rt M = some ty ∧ ((∃ n, ty = .object n) ∨ ∃ u, ty = .array u)
  | .return_ => xm_rt M = none
  | .getfield j => ∃ q, cl[k.2.1]? = some q ∧ k.2.2.1 < q.2.2 ∧ xlf ol B host (xm_nm M).cls j (q.2.1 k.2.2.1) k.1
  | .putfield j => ∃ q, cl[k.2.1]? = some q ∧ k.2.2.1 < q.2.2 ∧ xlf ol B host (xm_nm M).cls j (q.2.1 k.2.2.1) k.1 ∧ (∃ ty, parseFieldDescriptor (q.2.1 k.2.2.1).2.2.1 = some ty ∧ xtag ((k.2.2.2.headD (0, 9)).2) ty) ∧
      ((q.2.1 k.2.2.1).2.2.2 = true → (xm_nm M).name = "<init>" ∧ (q.2.1 k.2.2.1).1 = (xm_nm M).cls ∧ B[k.1]? = some (.fieldLink (xm_nm M).cls j (q.2.1 k.2.2.1).1 (q.2.1 k.2.2.1).2.1 (q.2.1 k.2.2.1).2.2.1))
  | .arraylength => ∃ ty, tl[k.2.1]? = some ty
  | .aaload => ∃ ty, tl[k.2.1]? = some ty ∧ ty.isReference = true
  | .aastore => ∃ q, cl[k.2.2.1]? = some q ∧ tl[k.2.1]? = some (.object q.1)
  | .newarray a => tl[k.2.1]? = some (Op.newarray.typeOf a) ∧ B[k.1]? = some (.arrayClass (Op.newarray.typeOf a)) ∧ (Op.newarray.typeOf a = .int ∨ Op.newarray.typeOf a = .boolean ∨ Op.newarray.typeOf a = .byte)
  | .anewarray j => ∃ C, tl[k.2.1]? = some (.object C) ∧ B[k.1]? = some (.classLink (xm_nm M).cls j C) ∧ .object C ∈ ol.1
  | .multianewarray j dm => dm = 2 ∧ tl[k.2.1]? = some (.array .int) ∧ B[k.1]? = some (.classLink (xm_nm M).cls j "[[I") ∧ FieldType.array .int ∈ ol.1 ∧ Cond.arrayClass .int ∈ B
  | .new j => ∃ q, cl[k.2.1]? = some q ∧ q.2.2 = k.2.2.1 ∧ B[k.1]? = some (.classLink (xm_nm M).cls j q.1) ∧ Cond.instantiable q.1 q.2.2 ∈ B ∧ Cond.initialized q.1 ∈ B ∧ (k.2.2.2.map Prod.snd).length = q.2.2 ∧
      ∀ r, r < q.2.2 → ∃ ty, parseFieldDescriptor (q.2.1 r).2.2.1 = some ty ∧ xtag ((k.2.2.2.map Prod.snd).getD r 9) ty
  | .invokevirtual j => ∃ N, T k.2.1 = some N ∧ xlm B (xm_nm M).cls j (xm_nm N) k.1 k.2.2.1 (xm_ml N) ∧ Cond.instanceMethod (xm_nm N) ∈ B ∧ Cond.selects (xm_nm N).cls (xm_nm N) (xm_nm N) ∈ B ∧ ∃ q, cl[xm_ci N]? = some q ∧ q.1 = (xm_nm N).cls
  | .invokestatic j => match k.2.2.2 with
    | [(2, 0)] => B[k.1]? = some (.methodLink (xm_nm M).cls j Lib.Math.min.name) ∧ Cond.static Lib.Math.min.name ∈ B ∧ Cond.initialized "java/lang/Math" ∈ B ∧ Cond.code Lib.Math.min.name Lib.Math.min.code 2 (some .int) ∈ B
    | [(2, 1)] => B[k.1]? = some (.methodLink (xm_nm M).cls j Lib.Math.max.name) ∧ Cond.static Lib.Math.max.name ∈ B ∧ Cond.initialized "java/lang/Math" ∈ B ∧ Cond.code Lib.Math.max.name Lib.Math.max.code 2 (some .int) ∈ B
    | [(2, 2)] => B[k.1]? = some (.methodLink (xm_nm M).cls j yI)
    | _ => ∃ N, T k.2.1 = some N ∧ xlm B (xm_nm M).cls j (xm_nm N) k.1 k.2.2.1 (xm_ml N + 1) ∧ Cond.static (xm_nm N) ∈ B
  | .invokespecial j => match k.2.2.2 with
    | [(2, _)] => B[k.1]? = some (.methodLink (xm_nm M).cls j Lib.objectInit) ∧ Cond.instanceMethod Lib.objectInit ∈ B ∧ Cond.code Lib.objectInit ⟨#[0xb1]⟩ 1 none ∈ B
    | _ => ∃ N, T k.2.1 = some N ∧ xlm B (xm_nm M).cls j (xm_nm N) k.1 k.2.2.1 (xm_ml N) ∧ Cond.instanceMethod (xm_nm N) ∈ B ∧ (xm_nm N).name = "<init>" ∧ xm_rt N = none
  | _ => True
/-- what is to be said of a method -/
def xokM (ol : xOl) (yI : MethodName) (B : List Jvm.Cond) (cl : List vw_C) (tl : List FieldType) (T : xT) (host : String) (M : xM) : Prop :=
  plainName (xm_nm M).cls = true ∧ Cond.code (xm_nm M) (xm_by M) (xm_ml M) (xm_rt M) ∈ B ∧ Cond.initialized (xm_nm M).cls ∈ B ∧ ((xm_nm M).cls ≠ "java/lang/invoke/MethodHandle" ∧ (xm_nm M).cls ≠ "java/lang/invoke/VarHandle") ∧ xm_ml M ≤ 21 ∧
  ∀ q ∈ xm_cd M, decode (xm_by M) q.1 = .ok (q.2.1, q.2.2.1) ∧ (q.2.2.1 = xlen q.2.1 ∨ (∃ d lo hi os, q.2.1 = .tableswitch d lo hi os) ∨ ∃ d ps, q.2.1 = .lookupswitch d ps) ∧ xlink ol yI B cl tl T host M q.1 q.2.1 q.2.2.2
def xOK (ol : xOl) (yI : MethodName) (B : List Jvm.Cond) (cl : List vw_C) (tl : List FieldType) (T : xT) (host : String) : Prop :=
  (∀ w ∈ B, (w.onTables && w.keeps) = true ∨ ∃ ty, w = .arrayClass ty) ∧
  (∀ (ci : Nat) (q : vw_C), cl[ci]? = some q → (∀ w ∈ u_ws q.1 q.2.1 q.2.2, w ∈ B) ∧ (∀ a, a < q.2.2 → ∀ b, b < q.2.2 → a ≠ b → (q.2.1 a).2.1 ≠ (q.2.1 b).2.1) ∧ ∀ a, a < q.2.2 → ∃ ty, parseFieldDescriptor (q.2.1 a).2.2.1 = some ty) ∧
  (tl[0]? = some .int ∧ tl[1]? = some .boolean ∧ tl[2]? = some .byte) ∧ ∀ j M, T j = some M → xokM ol yI B cl tl T host M
def xwsM (B : List Jvm.Cond) (M : xM) : List Jvm.Cond := Cond.code (xm_nm M) (xm_by M) (xm_ml M) (xm_rt M) :: B
def xrm (d : Nat) (M : xM) : Room := { frames := d, cells := xm_mc M, slots := xm_ms M, locals := 40 * d }
def xA (dA : Nat → ClassId) (L : List Nat) (f : xH) (sz : Nat) : Nat → Prop := va_A (va_pl L (xg dA f)) sz
def xPc (ol : xOl) (dA : Nat → ClassId) (D : va_G) (cl : List vw_C) (tl : List FieldType) (as : List Value) (L : List Nat) (f : xH) (sz : Nat) : Array Value → State → Prop := va_Pc as (fun U => U.heap.size = sz ∧ xwd dA D cl (fun _ => True) L f U.heap ∧ va_K D cl (xty dA tl) U ∧ xao ol U)
def xQc (dA : Nat → ClassId) (D : va_G) (cl : List vw_C) (tl : List FieldType) (post : Option Value → xH → Prop) (A : Nat → Prop) : Array Value → State → Outcome → State → Prop := fun _ st oc t => (∃ r f' L', oc = .returned r ∧ post r f' ∧ xwd dA D cl A L' f' t.heap ∧ va_K D cl (xty dA tl) t) ∧ va_F A st t
/-- every call that xSp speaks of at depth d has its contract -/
def xMet (ol : xOl) (B : List Jvm.Cond) (l : Launch) (dA : Nat → ClassId) (D : va_G) (cl : List vw_C) (tl : List FieldType) (T : xT) (d : Nat) : Prop := ∀ j M as f post L sz, T j = some M → (∀ v ∈ as, v.category = 1) → as.length ≤ xm_ml M → xSp T d j as f post →
  Met l (xm_nm M) (xwsM B M) (xrm d M) (xPc ol dA D cl tl as L f sz) (xQc dA D cl tl post (xA dA L f sz)) (xm_mc M) (xm_ms M) (xA dA L f sz)
/-- the reference's in(x, l, h) has its contract -/
def xIn (yI : MethodName) (bI : ByteArray) (B : List Jvm.Cond) (l : Launch) : Prop := (Cond.static yI ∈ B ∧ Cond.code yI bI 6 (some .boolean) ∈ B ∧ Cond.initialized yI.cls ∈ B ∧ (yI.cls ≠ "java/lang/invoke/MethodHandle" ∧ yI.cls ≠ "java/lang/invoke/VarHandle") ∧ (parseMethodDescriptor yI.desc).map (fun d => d.parameters.length) = some 3) ∧
  ∀ x lo hi : Int64, Met l yI (Cond.code yI bI 6 (some .boolean) :: B) { frames := 0, cells := 0, slots := 0, locals := 0 } (va_Pc [.long x, .long lo, .long hi] (fun _ => True)) (fun _ st oc t => oc = .returned (some (.int (if lo ≤ x ∧ x ≤ hi then 1 else 0))) ∧ t.heap = st.heap) 0 0 (fun _ => False)
section
variable {p : Program} {l : Launch} {e : Env} {R : Room} {s : State} {m : MethodId} {args : Array Value} {below : List Frame} {meth : Method} {c : Code} {H : Heap} {locs : List Loc} {cells slots : Nat} {Q : State → Prop}
theorem x_call {pc : Nat} {ls : Array Slot} {rest st0 : List Value} {Qa : State → Outcome → State → Prop} {free : Addr → Prop} {mc ms : Nat} (hr : va_Run p l e R s m args below meth c H locs cells slots mc ms (F0 m pc ls st0) rest Qa free)
    (kk : ∀ (v : Option Value) (st₀ t : State) (H1 : Heap) (Lx : List Loc), st₀.heap = H → t.heap = H1 → s.vm.Alike t.vm → Qa st₀ (.returned v) t → (∀ q ∈ Lx, free q.base) → W p l e R s m args below meth c H1 (locs ++ Lx) (cells + mc) (slots + ms) Q (F0 m (pc + 3) ls (v.toList ++ rest))) : W p l e R s m args below meth c H locs cells slots Q (F0 m pc ls st0) := by
  intro T hT X
  obtain ⟨v, st₀, t, T', Lx, h0, X', hL, e1, e2, hq, st⟩ := hr T hT X
  obtain ⟨t2, a1, b1⟩ := kk v st₀ t T'.heap Lx h0 e1.symm (by rw [← e2]; exact X'.warmed.alike) hq hL T' rfl X'
  exact ⟨t2, st t2 a1, b1⟩
def xJ (p : Program) (l : Launch) (e : Env) (R : Room) (s : State) (m : MethodId) (args : Array Value) (below : List Frame) (meth : Method) (c : Code) (Q : State → Prop) (nL : Nat) (dA : Nat → ClassId) (D : va_G) (cl : List vw_C) (A : Nat → Prop) : xK := fun pc lv st f cu su =>
  ∀ H locs ls L, xwd dA D cl A L f H → va_S A s.heap H locs → xhas ls nL lv → W p l e R s m args below meth c H locs cu su Q (F0 m pc ls st)
end
