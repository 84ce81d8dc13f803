/-! 02 the steps are monotone: so a step may be taken under xWp -/
theorem x1_mono {k k' : Int32 → List Value → Prop} {st : List Value} (h : ∀ x r, k x r → k' x r) : x1 st k → x1 st k' := by
  unfold x1; split
  · exact h _ _
  · exact id
theorem x2_mono {k k' : Int32 → Int32 → List Value → Prop} {st : List Value} (h : ∀ x y r, k x y r → k' x y r) : x2 st k → x2 st k' := by
  unfold x2; split
  · exact h _ _ _
  · exact id
theorem xa_mono {k k' : Nat → List Value → Prop} {st : List Value} (h : ∀ x r, k x r → k' x r) : xa st k → xa st k' := by
  unfold xa; split
  · exact h _ _
  · exact id
theorem xia_mono {k k' : Int32 → Nat → List Value → Prop} {st : List Value} (h : ∀ x y r, k x y r → k' x y r) : xia st k → xia st k' := by
  unfold xia; split
  · exact h _ _ _
  · exact id
theorem xva_mono {k k' : Value → Nat → List Value → Prop} {st : List Value} (h : ∀ x y r, k x y r → k' x y r) : xva st k → xva st k' := by
  unfold xva; split
  · exact h _ _ _
  · exact id
theorem xiia_mono {k k' : Int32 → Int32 → Nat → List Value → Prop} {st : List Value} (h : ∀ x y a r, k x y a r → k' x y a r) : xiia st k → xiia st k' := by
  unfold xiia; split
  · exact h _ _ _ _
  · exact id
theorem xvia_mono {k k' : Option Nat → Int32 → Nat → List Value → Prop} {st : List Value} (h : ∀ x y a r, k x y a r → k' x y a r) : xvia st k → xvia st k' := by
  unfold xvia; split
  · exact h _ _ _ _
  · exact h _ _ _ _
  · exact id
theorem xo_mono {k k' : Option Nat → List Value → Prop} {st : List Value} (h : ∀ x r, k x r → k' x r) : xo st k → xo st k' := by
  unfold xo; split
  · exact h _ _
  · exact h _ _
  · exact id
theorem xoo_mono {k k' : Option Nat → Option Nat → List Value → Prop} {st : List Value} (h : ∀ x y r, k x y r → k' x y r) : xoo st k → xoo st k' := xo_mono (fun _ _ => xo_mono (fun _ _ => h _ _ _))
theorem xv_mono {k k' : Value → List Value → Prop} {st : List Value} (h : ∀ x r, k x r → k' x r) : xv st k → xv st k' := by
  unfold xv; split
  · exact fun q => ⟨q.1, h _ _ q.2⟩
  · exact id
theorem xli_mono {lv : xL} {i : Nat} {k k' : Int32 → Prop} (h : ∀ x, k x → k' x) : xli lv i k → xli lv i k' := by
  unfold xli; split
  · exact h _
  · exact id
theorem xla_mono {lv : xL} {i : Nat} {k k' : Option Nat → Prop} (h : ∀ x, k x → k' x) : xla lv i k → xla lv i k' := by
  unfold xla; split
  · exact h _
  · exact h _
  · exact id
theorem xob_mono {f : xH} {a ci : Nat} {k k' : List Value → Prop} (h : ∀ x, k x → k' x) : xob f a ci k → xob f a ci k' := by
  unfold xob; split
  · exact fun q => ⟨q.1, h _ q.2⟩
  · exact id
theorem xfd_mono {fs : List Value} {j : Nat} {k k' : Value → Prop} (h : ∀ x, k x → k' x) : xfd fs j k → xfd fs j k' := by
  unfold xfd; split
  · exact h _
  · exact id
theorem xin_mono {f : xH} {a : Nat} {k k' : Nat → Nat → (Nat → Int32) → Prop} (h : ∀ x y z, k x y z → k' x y z) : xin f a k → xin f a k' := by
  unfold xin; split
  · exact h _ _ _
  · exact id
theorem xre_mono {f : xH} {a : Nat} {k k' : Nat → Nat → (Nat → Option Nat) → Prop} (h : ∀ x y z, k x y z → k' x y z) : xre f a k → xre f a k' := by
  unfold xre; split
  · exact h _ _ _
  · exact id
theorem xan_mono {f : xH} {a : Nat} {k k' : Nat → Nat → Prop} (h : ∀ x y, k x y → k' x y) : xan f a k → xan f a k' := by
  unfold xan; split
  · exact h _ _
  · exact h _ _
  · exact id
theorem xsc_mono {sc : xS} {f : xH} {a : Nat} {k k' : Nat → Nat → (Nat → Int32) → Prop} (h : ∀ x y z, k x y z → k' x y z) : xsc sc f a k → xsc sc f a k' := by
  unfold xsc; split
  · exact fun q => q.elim (fun q => Or.inl ⟨q.1, h _ _ _ q.2⟩) (fun q => Or.inr ⟨q.1, xin_mono h q.2⟩)
  · exact xin_mono h
theorem xln_mono {sc : xS} {f : xH} {a : Nat} {k k' : Nat → Nat → Prop} (h : ∀ x y, k x y → k' x y) : xln sc f a k → xln sc f a k' := by
  unfold xln; split
  · exact fun q => q.elim (fun q => Or.inl ⟨q.1, h _ _ q.2⟩) (fun q => Or.inr ⟨q.1, xan_mono h q.2⟩)
  · exact xan_mono h
theorem xsel_mono {x : Int32} {d : Nat} {k k' : Nat → Prop} (h : ∀ q, k q → k' q) : ∀ {l : List (Int × Nat)}, xsel x d k l → xsel x d k' l
  | [], q => h _ q
  | _ :: _, q => ⟨fun e => h _ (q.1 e), fun e => xsel_mono h (q.2 e)⟩
theorem xar_mono {st : List Value} {n : Nat} {k k' : List Value → List Value → Prop} (h : ∀ x y, k x y → k' x y) : xar st n k → xar st n k' := fun q => ⟨q.1, h _ _ q.2⟩
theorem x3l_mono {k k' : Int64 → Int64 → Int64 → List Value → Prop} {st : List Value} (h : ∀ x l u r, k x l u r → k' x l u r) : x3l st k → x3l st k' := by
  unfold x3l; split
  · exact h _ _ _ _
  · exact id
theorem xbs_mono {t : Nat} {x : Int32} {k k' : Int32 → Prop} (h : ∀ x, k x → k' x) : xbs t x k → xbs t x k' := by
  unfold xbs; split
  · exact fun q => ⟨q.1, h _ q.2⟩
  · exact h _
  · exact id
def xmc (C C' : xCall) : Prop := ∀ j as f (P P' : Option Value → xH → Prop), (∀ v f', P v f' → P' v f') → C j as f P → C' j as f P'
section
variable {T : xT} {C C' : xCall} {sc : xS} {M : xM} {E E' : Option Value → xH → Prop} {K K' : xK}
theorem xcl_mono (hC : xmc C C') (h : ∀ pc lv st f cu su, K pc lv st f cu su → K' pc lv st f cu su) {j : Nat} {as r : List Value} {pc : Nat} {lv : xL} {f : xH} {cu su : Nat} : xcl (T, C, sc, M, E) K j as r pc lv f cu su → xcl (T, C', sc, M, E') K' j as r pc lv f cu su := by
  unfold xcl
  dsimp only [xgT, xgC, xgM]
  split
  · exact fun q => ⟨q.1, q.2.1, q.2.2.1, q.2.2.2.1, hC _ _ _ _ _ (fun v f' => h _ _ _ _ _ _) q.2.2.2.2⟩
  · exact id
theorem xstep_mono (hC : xmc C C') (hE : ∀ v f, E v f → E' v f) (h : ∀ pc lv st f cu su, K pc lv st f cu su → K' pc lv st f cu su) {pc : Nat} {i : Instr} {n : Nat} {k : xKk} {lv : xL} {st : List Value} {f : xH} {cu su : Nat} : xstep (T, C, sc, M, E) K pc i n k lv st f cu su → xstep (T, C', sc, M, E') K' pc i n k lv st f cu su := by
  cases i
  case aconst_null => exact h _ _ _ _ _ _
  case iconst => exact h _ _ _ _ _ _
  case bipush => exact h _ _ _ _ _ _
  case sipush => exact h _ _ _ _ _ _
  case ldc => exact h _ _ _ _ _ _
  case ldc_w => exact h _ _ _ _ _ _
  case goto => exact h _ _ _ _ _ _
  case lconst => exact h _ _ _ _ _ _
  case ldc2_w => exact h _ _ _ _ _ _
  case i2l => exact x1_mono (fun _ _ => h _ _ _ _ _ _)
  case multianewarray => exact x2_mono (fun _ _ _ q => ⟨q.1, q.2.1, q.2.2.1, q.2.2.2.1, q.2.2.2.2.1, q.2.2.2.2.2.1, fun a w e1 e2 e3 => h _ _ _ _ _ _ (q.2.2.2.2.2.2 a w e1 e2 e3)⟩)
  case iload_n => exact xli_mono (fun _ => h _ _ _ _ _ _)
  case iload => exact xli_mono (fun _ => h _ _ _ _ _ _)
  case aload_n => unfold xstep; exact xla_mono (fun _ => h _ _ _ _ _ _)
  case aload => unfold xstep; exact xla_mono (fun _ => h _ _ _ _ _ _)
  case iinc => exact xli_mono (fun _ => h _ _ _ _ _ _)
  case istore_n => exact x1_mono (fun _ _ q => ⟨q.1, h _ _ _ _ _ _ q.2⟩)
  case istore => exact x1_mono (fun _ _ q => ⟨q.1, h _ _ _ _ _ _ q.2⟩)
  case astore_n => unfold xstep; exact xo_mono (fun _ _ q => ⟨q.1, h _ _ _ _ _ _ q.2⟩)
  case astore => unfold xstep; exact xo_mono (fun _ _ q => ⟨q.1, h _ _ _ _ _ _ q.2⟩)
  case iadd => exact x2_mono (fun _ _ _ => h _ _ _ _ _ _)
  case isub => exact x2_mono (fun _ _ _ => h _ _ _ _ _ _)
  case imul => exact x2_mono (fun _ _ _ => h _ _ _ _ _ _)
  case iand => exact x2_mono (fun _ _ _ => h _ _ _ _ _ _)
  case ior => exact x2_mono (fun _ _ _ => h _ _ _ _ _ _)
  case ixor => exact x2_mono (fun _ _ _ => h _ _ _ _ _ _)
  case ishl => exact x2_mono (fun _ _ _ => h _ _ _ _ _ _)
  case ishr => exact x2_mono (fun _ _ _ => h _ _ _ _ _ _)
  case iushr => exact x2_mono (fun _ _ _ => h _ _ _ _ _ _)
  case idiv => exact x2_mono (fun _ _ _ q => ⟨q.1, h _ _ _ _ _ _ q.2⟩)
  case irem => exact x2_mono (fun _ _ _ q => ⟨q.1, h _ _ _ _ _ _ q.2⟩)
  case ineg => exact x1_mono (fun _ _ => h _ _ _ _ _ _)
  case i2b => exact x1_mono (fun _ _ => h _ _ _ _ _ _)
  case dup => exact xv_mono (fun _ _ => h _ _ _ _ _ _)
  case pop => exact xv_mono (fun _ _ => h _ _ _ _ _ _)
  case dup_x1 => exact xv_mono (fun _ _ => xv_mono (fun _ _ => h _ _ _ _ _ _))
  case dup_x2 => exact xv_mono (fun _ _ => xv_mono (fun _ _ => xv_mono (fun _ _ => h _ _ _ _ _ _)))
  case dup2 => exact xv_mono (fun _ _ => xv_mono (fun _ _ => h _ _ _ _ _ _))
  case ifCond => exact x1_mono (fun _ _ q => ⟨fun e => h _ _ _ _ _ _ (q.1 e), fun e => h _ _ _ _ _ _ (q.2 e)⟩)
  case if_icmp => exact x2_mono (fun _ _ _ q => ⟨fun e => h _ _ _ _ _ _ (q.1 e), fun e => h _ _ _ _ _ _ (q.2 e)⟩)
  case if_acmp c o => cases c <;> exact xoo_mono (fun _ _ _ q => ⟨fun e => h _ _ _ _ _ _ (q.1 e), fun e => h _ _ _ _ _ _ (q.2 e)⟩)
  case ifnull => unfold xstep; exact xo_mono (fun _ _ q => ⟨fun e => h _ _ _ _ _ _ (q.1 e), fun e => h _ _ _ _ _ _ (q.2 e)⟩)
  case ifnonnull => unfold xstep; exact xo_mono (fun _ _ q => ⟨fun e => h _ _ _ _ _ _ (q.1 e), fun e => h _ _ _ _ _ _ (q.2 e)⟩)
  case tableswitch => exact x1_mono (fun _ _ => xsel_mono (fun _ => h _ _ _ _ _ _))
  case lookupswitch => exact x1_mono (fun _ _ => xsel_mono (fun _ => h _ _ _ _ _ _))
  case ireturn => exact x1_mono (fun x _ q => ⟨q.1, q.2.1, by
    have q2 := q.2.2
    revert q2
    unfold xrt
    dsimp only [xgM, xgE]
    split
    · exact hE _ _
    · exact fun q => ⟨q.1, hE _ _ q.2⟩
    · exact id⟩)
  case areturn => unfold xstep; exact xo_mono (fun _ _ q => ⟨q.1, q.2.1, hE _ _ q.2.2⟩)
  case return_ => exact fun q => ⟨q.1, q.2.1, hE _ _ q.2.2⟩
  case getfield => exact xa_mono (fun _ _ => xob_mono (fun _ => xfd_mono (fun _ => h _ _ _ _ _ _)))
  case putfield => exact xva_mono (fun _ _ _ => xob_mono (fun _ q => ⟨q.1, q.2.1, h _ _ _ _ _ _ q.2.2⟩))
  case arraylength => exact xa_mono (fun _ _ => xln_mono (fun _ _ q => ⟨q.1, h _ _ _ _ _ _ q.2⟩))
  case iaload => exact xia_mono (fun _ _ _ => xsc_mono (fun _ _ _ q => ⟨q.1, q.2.1, h _ _ _ _ _ _ q.2.2⟩))
  case iastore => exact xiia_mono (fun _ _ _ _ => xin_mono (fun _ _ _ q => ⟨q.1, q.2.1, h _ _ _ _ _ _ q.2.2⟩))
  case baload => exact xia_mono (fun _ _ _ => xin_mono (fun _ _ _ q => ⟨q.1, q.2.1, h _ _ _ _ _ _ q.2.2⟩))
  case bastore => exact xiia_mono (fun _ _ _ _ => xin_mono (fun _ _ _ q => ⟨q.1, xbs_mono (fun _ => h _ _ _ _ _ _) q.2⟩))
  case aaload => exact xia_mono (fun _ _ _ => xre_mono (fun _ _ _ q => ⟨q.1, q.2.1, h _ _ _ _ _ _ q.2.2⟩))
  case aastore => unfold xstep; exact xvia_mono (fun _ _ _ _ => xre_mono (fun _ _ _ q => ⟨q.1, q.2.1, q.2.2.1, h _ _ _ _ _ _ q.2.2.2⟩))
  case newarray => exact x1_mono (fun _ _ q => ⟨q.1, q.2.1, q.2.2.1, q.2.2.2.1, fun a e => h _ _ _ _ _ _ (q.2.2.2.2 a e)⟩)
  case anewarray => exact x1_mono (fun _ _ q => ⟨q.1, q.2.1, q.2.2.1, q.2.2.2.1, fun a e => h _ _ _ _ _ _ (q.2.2.2.2 a e)⟩)
  case new => exact fun q => ⟨q.1, q.2.1, fun a e => h _ _ _ _ _ _ (q.2.2 a e)⟩
  case invokevirtual => unfold xstep xiv; exact xar_mono (fun _ _ q => ⟨q.1, xcl_mono hC h q.2⟩)
  case invokestatic =>
    intro q
    have q : xin_ (T, C, sc, M, E) K k pc lv st f cu su := q
    show xin_ (T, C', sc, M, E') K' k pc lv st f cu su
    revert q
    unfold xin_
    split
    · unfold xlb
      split
      · exact x2_mono (fun _ _ _ q => ⟨q.1, q.2.1, h _ _ _ _ _ _ q.2.2⟩)
      · exact x2_mono (fun _ _ _ q => ⟨q.1, q.2.1, h _ _ _ _ _ _ q.2.2⟩)
      · exact x3l_mono (fun _ _ _ _ q => ⟨q.1, q.2.1, h _ _ _ _ _ _ q.2.2⟩)
      · exact id
    · exact xar_mono (fun _ _ q => xcl_mono hC h q)
  case invokespecial =>
    intro q
    have q : xsp (T, C, sc, M, E) K k pc lv st f cu su := q
    show xsp (T, C', sc, M, E') K' k pc lv st f cu su
    revert q
    unfold xsp
    split
    · exact xa_mono (fun _ _ q => ⟨q.1, h _ _ _ _ _ _ q.2⟩)
    · exact xar_mono (fun _ _ q => ⟨q.1, xcl_mono hC h q.2⟩)
  all_goals exact fun q => False.elim q
theorem xgo_mono (hC : xmc C C') (hE : ∀ v f, E v f → E' v f) (h : ∀ pc lv st f cu su, K pc lv st f cu su → K' pc lv st f cu su) {pc : Nat} {lv : xL} {st : List Value} {f : xH} {cu su : Nat} : xgo (T, C, sc, M, E) K pc lv st f cu su → xgo (T, C', sc, M, E') K' pc lv st f cu su := by
  unfold xgo
  dsimp only [xgM]
  split
  · exact xstep_mono hC hE h
  · exact id
theorem xWp_go (hC : xmc C C) {pc : Nat} {lv : xL} {st : List Value} {f : xH} {cu su : Nat} (q : xgo (T, C, sc, M, E) (xWp (T, C, sc, M, E)) pc lv st f cu su) : xWp (T, C, sc, M, E) pc lv st f cu su :=
  fun K hK => hK _ _ _ _ _ _ (xgo_mono hC (fun _ _ => id) (fun _ _ _ _ _ _ w => w K hK) q)
theorem xWp_E (hC : xmc C C') (hE : ∀ v f, E v f → E' v f) {pc : Nat} {lv : xL} {st : List Value} {f : xH} {cu su : Nat} (q : xWp (T, C, sc, M, E) pc lv st f cu su) : xWp (T, C', sc, M, E') pc lv st f cu su :=
  fun K hK => q K (fun _ _ _ _ _ _ w => hK _ _ _ _ _ _ (xgo_mono hC hE (fun _ _ _ _ _ _ => id) w))
end
theorem xSp_mono (T : xT) : ∀ d d', d ≤ d' → xmc (xSp T d) (xSp T d')
  | 0, _, _ => fun _ _ _ _ _ _ h => False.elim h
  | d + 1, 0, hd => by omega
  | d + 1, d' + 1, hd => by
    intro j as f P P' hP h
    revert h
    unfold xSp
    split
    · exact xWp_E (xSp_mono T d d' (by omega)) hP
    · exact id
theorem xSp_of {T : xT} {d j : Nat} {M : xM} {as : List Value} {f : xH} {post : Option Value → xH → Prop} (hT : T j = some M) (h : xWp (T, xSp T d, none, M, post) 0 (xen as (xm_ml M)) [] f 0 0) : xSp T (d + 1) j as f post := by
  unfold xSp
  rw [hT]
  exact h
theorem xs {T : xT} {d : Nat} {sc : xS} {M : xM} {E : Option Value → xH → Prop} {pc : Nat} {i : Instr} {n : Nat} {k : xKk} {lv : xL} {st : List Value} {f : xH} {cu su : Nat} (hk : xlk (xm_cd M) pc = some (i, n, k)) (h : xstep (T, xSp T d, sc, M, E) (xWp (T, xSp T d, sc, M, E)) pc i n k lv st f cu su) : xWp (T, xSp T d, sc, M, E) pc lv st f cu su := by
  refine xWp_go (xSp_mono T d d (Nat.le_refl _)) ?_
  unfold xgo
  dsimp only [xgM]
  rw [hk]
  exact h
/-- n steps, up to the places where one wants to stop -/
def xrun (G : xG) (stop : List Nat) : Nat → xK
  | 0 => xWp G
  | n + 1 => fun pc lv st f cu su => if stop.contains pc = true then xWp G pc lv st f cu su else xgo G (xrun G stop n) pc lv st f cu su
theorem xrun_ok {T : xT} {d : Nat} {sc : xS} {M : xM} {E : Option Value → xH → Prop} {stop : List Nat} : ∀ (n : Nat) {pc : Nat} {lv : xL} {st : List Value} {f : xH} {cu su : Nat}, xrun (T, xSp T d, sc, M, E) stop n pc lv st f cu su → xWp (T, xSp T d, sc, M, E) pc lv st f cu su
  | 0, _, _, _, _, _, _, h => h
  | n + 1, pc, lv, st, f, cu, su, h => by
    unfold xrun at h
    split at h
    · exact h
    · exact xWp_go (xSp_mono T d d (Nat.le_refl _)) (xgo_mono (xSp_mono T d d (Nat.le_refl _)) (fun _ _ => id) (fun _ _ _ _ _ _ => xrun_ok n) h)
/-- the first step is taken in any case -/
theorem xrun_go {T : xT} {d : Nat} {sc : xS} {M : xM} {E : Option Value → xH → Prop} (stop : List Nat) (n : Nat) {pc : Nat} {lv : xL} {st : List Value} {f : xH} {cu su : Nat} (h : xgo (T, xSp T d, sc, M, E) (xrun (T, xSp T d, sc, M, E) stop n) pc lv st f cu su) : xWp (T, xSp T d, sc, M, E) pc lv st f cu su :=
  xWp_go (xSp_mono T d d (Nat.le_refl _)) (xgo_mono (xSp_mono T d d (Nat.le_refl _)) (fun _ _ => id) (fun _ _ _ _ _ _ => xrun_ok n) h)
