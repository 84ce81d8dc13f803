/-! 06 the same, all instructions -/
section
variable {p : Program} {l : Launch} {e : Env} {R : Room} {s : State} {m : MethodId} {args : Array Value} {below : List Frame} {meth : Method} {c : Code} {Q : State → Prop} {B : List Jvm.Cond} {cl : List vw_C} {tl : List FieldType} {T : xT} {host : String} {M : xM} {d : Nat} {dA : Nat → ClassId} {D : va_G} {A : Nat → Prop} {E : Option Value → xH → Prop} {sc : xS} {yI : MethodName} {bI : ByteArray} {ol : xOl}
set_option maxHeartbeats 4000000 in
theorem xJ_cls (OK : xOK ol yI B cl tl T host) (hM : ∀ q ∈ xm_cd M, decode (xm_by M) q.1 = .ok (q.2.1, q.2.2.1) ∧ (q.2.2.1 = xlen q.2.1 ∨ (∃ d lo hi os, q.2.1 = .tableswitch d lo hi os) ∨ ∃ d ps, q.2.1 = .lookupswitch d ps) ∧ xlink ol yI B cl tl T host M q.1 q.2.1 q.2.2.2) (hmet : xMet ol B l dA D cl tl T d) (hI : xIn yI bI B l) (F : CallFix p m c (xm_by M) (xm_ml M) s args B (xm_nm M).cls) (hK : va_K D cl (xty dA tl) s) (hO : xao ol s) (hA : ∀ q, s.heap.size ≤ q → A q)
    (hR : d + 1 ≤ R.frames ∧ 40 * (d + 1) ≤ R.locals ∧ R.cells = xm_mc M ∧ R.slots = xm_ms M) (hin : (xm_nm M).name = "<init>" → meth.name = "<init>") (hsc : ∀ b n g, sc = some (b, n, g) → va_X b n g s s.heap ∧ b < s.heap.size ∧ ¬ A b)
    (hri : ∀ x f H locs ls L pc cu su, decode (xm_by M) pc = .ok (.ireturn, 1) → (xm_rt M = some .int ∨ (xm_rt M = some .boolean ∧ (x = 0 ∨ x = 1))) → E (some (.int x)) f → cu ≤ xm_mc M → su ≤ xm_ms M → xwd dA D cl A L f H → va_S A s.heap H locs → W p l e R s m args below meth c H locs cu su Q (F0 m pc ls [.int x]))
    (hra : ∀ x f H locs ls L pc cu su ty, decode (xm_by M) pc = .ok (.areturn, 1) → xm_rt M = some ty → ((∃ n, ty = .object n) ∨ ∃ u, ty = .array u) → E (some (va_rf x)) f → cu ≤ xm_mc M → su ≤ xm_ms M → xwd dA D cl A L f H → va_S A s.heap H locs → W p l e R s m args below meth c H locs cu su Q (F0 m pc ls [va_rf x]))
    (hrv : ∀ f H locs ls L pc cu su, decode (xm_by M) pc = .ok (.return_, 1) → xm_rt M = none → E none f → cu ≤ xm_mc M → su ≤ xm_ms M → xwd dA D cl A L f H → va_S A s.heap H locs → W p l e R s m args below meth c H locs cu su Q (F0 m pc ls [])) :
    xcls (T, xSp T d, sc, M, E) (xJ p l e R s m args below meth c Q (xm_ml M) dA D cl A) := by
  intro pc lv st f cu su h
  unfold xgo at h
  split at h
  case h_2 => exact h.elim
  rename_i i n k hk
  obtain ⟨hdg, hlen, hlk⟩ := hM _ (xlk_mem hk)
  dsimp only at hdg hlen hlk
  obtain ⟨hx, hb, hml, hown, hts⟩ := id F
  intro H locs ls L hw hS hl
  have hlsz : ls.size = xm_ml M := hl.2.2.1
  have hat : ∀ {j : Nat} {w : Jvm.Cond}, B[j]? = some w → w.before args s = true := fun h => hts _ (List.mem_of_getElem? h)
  have hl1 : ∀ {j : Instr} {n : Nat}, (n = xlen j ∨ (∃ d lo hi os, j = .tableswitch d lo hi os) ∨ ∃ d ps, j = .lookupswitch d ps) → (∀ d lo hi os, j ≠ .tableswitch d lo hi os) → (∀ d ps, j ≠ .lookupswitch d ps) → n = xlen j := by
    intro j n h1 h2 h3
    rcases h1 with h1 | ⟨d, lo, hi, os, h1⟩ | ⟨d, ps, h1⟩
    · exact h1
    · exact absurd h1 (h2 _ _ _ _)
    · exact absurd h1 (h3 _ _)
  have hst : ∀ {j : Nat} {v : Value} {n : Nat} {st' : List Value}, v.category = 1 → j < lv.length → xJ p l e R s m args below meth c Q (xm_ml M) dA D cl A n (lv.set j (some v)) st' f cu su → ∀ ls', lv_has ls' (xm_ml M) ((j, v) :: (xpr lv).filter (fun q => !(q.1 == j) && !(q.1 + 1 == j && q.2.category == 2))) → W p l e R s m args below meth c H locs cu su Q (F0 m n ls' st') := fun hv hj h ls' hl' => h H locs ls' L hw hS (xhas_set hl hj hv hl')
  have hwrt : ∀ {a : Nat} {e0 e1 : xC} {n q : Nat} {st' : List Value}, f a = some e0 → (va_pl L (xg dA f))[q]? = some (a, xcv dA e0) → xJ p l e R s m args below meth c Q (xm_ml M) dA D cl A n lv st' (xup f a e1) cu su → ∀ (H1 : Heap) (locs1 : List Loc), va_P D cl ((va_pl L (xg dA f)).set q (a, xcv dA e1)) H1 → va_D A ((va_pl L (xg dA f)).set q (a, xcv dA e1)) → va_S A s.heap H1 locs1 → W p l e R s m args below meth c H1 locs1 cu su Q (F0 m n ls st') := by
    intro a e0 e1 n q st' hfa hq h H1 locs1 hP1 hD1 hS1
    rw [xw_set hw hfa hq] at hP1 hD1
    exact h H1 locs1 ls L (xw_up hw hfa hP1 hD1) hS1 hl
  have hint : (xty dA tl)[0]? = some (dA 0, .int) := xty_at OK.2.2.1.1
  have hboo : (xty dA tl)[1]? = some (dA 1, .boolean) := xty_at OK.2.2.1.2.1
  have hbyt : (xty dA tl)[2]? = some (dA 2, .byte) := xty_at OK.2.2.1.2.2
  cases i
  case aconst_null =>
    have hn := hl1 hlen (by intros; intro q; cases q) (by intros; intro q; cases q)
    subst hn
    unfold xstep at h
    exact lv_null hx hb hdg (h H locs ls L hw hS hl)
  case iconst =>
    have hn := hl1 hlen (by intros; intro q; cases q) (by intros; intro q; cases q)
    subst hn
    unfold xstep at h
    exact lv_iconst hx hb hdg rfl (h H locs ls L hw hS hl)
  case bipush =>
    have hn := hl1 hlen (by intros; intro q; cases q) (by intros; intro q; cases q)
    subst hn
    unfold xstep at h
    exact lv_bipush hx hb hdg rfl (h H locs ls L hw hS hl)
  case sipush =>
    have hn := hl1 hlen (by intros; intro q; cases q) (by intros; intro q; cases q)
    subst hn
    unfold xstep at h
    exact lv_sipush hx hb hdg rfl (h H locs ls L hw hS hl)
  case ldc =>
    have hn := hl1 hlen (by intros; intro q; cases q) (by intros; intro q; cases q)
    subst hn
    unfold xstep at h
    exact lv_ldc hx hb hown (hat hlk) hdg (h H locs ls L hw hS hl)
  case ldc_w =>
    have hn := hl1 hlen (by intros; intro q; cases q) (by intros; intro q; cases q)
    subst hn
    unfold xstep at h
    exact lv_ldcw hx hb hown (hat hlk) hdg (h H locs ls L hw hS hl)
  case lconst =>
    have hn := hl1 hlen (by intros; intro q; cases q) (by intros; intro q; cases q)
    subst hn
    unfold xstep at h
    exact lv_lconst hx hb hdg rfl (h H locs ls L hw hS hl)
  case ldc2_w =>
    have hn := hl1 hlen (by intros; intro q; cases q) (by intros; intro q; cases q)
    subst hn
    unfold xstep at h
    exact lv_ldc2 hx hb hown (hat hlk) hdg (h H locs ls L hw hS hl)
  case i2l =>
    have hn := hl1 hlen (by intros; intro q; cases q) (by intros; intro q; cases q)
    subst hn
    unfold xstep at h
    refine x1_e h ?_
    clear h
    intro x r hr h
    subst hr; exact lv_i2l hx hb hdg rfl (h H locs ls L hw hS hl)
  case iload_n =>
    have hn := hl1 hlen (by intros; intro q; cases q) (by intros; intro q; cases q)
    subst hn
    unfold xstep at h
    refine xli_e h ?_
    clear h
    intro x hj h
    exact lv_iload_n hx hb hdg rfl (xhas_at hl hj) (h H locs ls L hw hS hl)
  case iload =>
    have hn := hl1 hlen (by intros; intro q; cases q) (by intros; intro q; cases q)
    subst hn
    unfold xstep at h
    refine xli_e h ?_
    clear h
    intro x hj h
    exact lv_iload hx hb hdg (xhas_at hl hj) (h H locs ls L hw hS hl)
  case aload_n =>
    have hn := hl1 hlen (by intros; intro q; cases q) (by intros; intro q; cases q)
    subst hn
    unfold xstep at h
    refine xla_e h ?_
    clear h
    intro x hj h
    cases x with
    | none => exact lv_aload_nN hx hb hdg rfl (xhas_at hl hj) (h H locs ls L hw hS hl)
    | some x => exact lv_aload_n hx hb hdg rfl (xhas_at hl hj) (h H locs ls L hw hS hl)
  case aload =>
    have hn := hl1 hlen (by intros; intro q; cases q) (by intros; intro q; cases q)
    subst hn
    unfold xstep at h
    refine xla_e h ?_
    clear h
    intro x hj h
    cases x with
    | none => exact lv_aloadN hx hb hdg (xhas_at hl hj) (h H locs ls L hw hS hl)
    | some x => exact lv_aload hx hb hdg (xhas_at hl hj) (h H locs ls L hw hS hl)
  case istore_n =>
    have hn := hl1 hlen (by intros; intro q; cases q) (by intros; intro q; cases q)
    subst hn
    unfold xstep at h
    refine x1_e h ?_
    clear h
    intro x r hr h
    subst hr; exact lv_istore_n hx hb hdg rfl hl.2.2 (by rw [← hl.1]; exact h.1) rfl (hst rfl h.1 h.2)
  case istore =>
    have hn := hl1 hlen (by intros; intro q; cases q) (by intros; intro q; cases q)
    subst hn
    unfold xstep at h
    refine x1_e h ?_
    clear h
    intro x r hr h
    subst hr; exact lv_istore hx hb hdg hl.2.2 (by rw [← hl.1]; exact h.1) rfl (hst rfl h.1 h.2)
  case astore_n =>
    have hn := hl1 hlen (by intros; intro q; cases q) (by intros; intro q; cases q)
    subst hn
    unfold xstep at h
    refine xo_e h ?_
    clear h
    intro x r hr h
    subst hr
    cases x with
    | none => exact lv_astore_nN hx hb hdg rfl hl.2.2 (by rw [← hl.1]; exact h.1) rfl (hst rfl h.1 h.2)
    | some x => exact lv_astore_n hx hb hdg rfl hl.2.2 (by rw [← hl.1]; exact h.1) rfl (hst rfl h.1 h.2)
  case astore =>
    have hn := hl1 hlen (by intros; intro q; cases q) (by intros; intro q; cases q)
    subst hn
    unfold xstep at h
    refine xo_e h ?_
    clear h
    intro x r hr h
    subst hr
    cases x with
    | none => exact lv_astoreN hx hb hdg hl.2.2 (by rw [← hl.1]; exact h.1) rfl (hst rfl h.1 h.2)
    | some x => exact lv_astore hx hb hdg hl.2.2 (by rw [← hl.1]; exact h.1) rfl (hst rfl h.1 h.2)
  case iinc j z =>
    have hn := hl1 hlen (by intros; intro q; cases q) (by intros; intro q; cases q)
    subst hn
    unfold xstep at h
    refine xli_e h ?_
    clear h
    intro x hj h
    obtain ⟨kq, hkq⟩ := List.getElem?_of_mem (xpr_mem.mpr hj)
    have hlt : j < lv.length := (List.getElem?_eq_some_iff.mp hj).1
    exact lv_iinc hx hb hdg hl.2.2 hkq rfl (by rw [← hl.1]; exact hlt) rfl (hst rfl hlt h)
  case iadd =>
    have hn := hl1 hlen (by intros; intro q; cases q) (by intros; intro q; cases q)
    subst hn
    unfold xstep at h
    refine x2_e h ?_
    clear h
    intro x y r hr h
    subst hr; exact lv_iadd hx hb hdg (h H locs ls L hw hS hl)
  case isub =>
    have hn := hl1 hlen (by intros; intro q; cases q) (by intros; intro q; cases q)
    subst hn
    unfold xstep at h
    refine x2_e h ?_
    clear h
    intro x y r hr h
    subst hr; exact lv_isub hx hb hdg (h H locs ls L hw hS hl)
  case imul =>
    have hn := hl1 hlen (by intros; intro q; cases q) (by intros; intro q; cases q)
    subst hn
    unfold xstep at h
    refine x2_e h ?_
    clear h
    intro x y r hr h
    subst hr; exact lv_imul hx hb hdg (h H locs ls L hw hS hl)
  case iand =>
    have hn := hl1 hlen (by intros; intro q; cases q) (by intros; intro q; cases q)
    subst hn
    unfold xstep at h
    refine x2_e h ?_
    clear h
    intro x y r hr h
    subst hr; exact lv_iand hx hb hdg (h H locs ls L hw hS hl)
  case ior =>
    have hn := hl1 hlen (by intros; intro q; cases q) (by intros; intro q; cases q)
    subst hn
    unfold xstep at h
    refine x2_e h ?_
    clear h
    intro x y r hr h
    subst hr; exact lv_ior hx hb hdg (h H locs ls L hw hS hl)
  case ixor =>
    have hn := hl1 hlen (by intros; intro q; cases q) (by intros; intro q; cases q)
    subst hn
    unfold xstep at h
    refine x2_e h ?_
    clear h
    intro x y r hr h
    subst hr; exact lv_ixor hx hb hdg (h H locs ls L hw hS hl)
  case ishl =>
    have hn := hl1 hlen (by intros; intro q; cases q) (by intros; intro q; cases q)
    subst hn
    unfold xstep at h
    refine x2_e h ?_
    clear h
    intro x y r hr h
    subst hr; exact lv_ishl hx hb hdg (h H locs ls L hw hS hl)
  case ishr =>
    have hn := hl1 hlen (by intros; intro q; cases q) (by intros; intro q; cases q)
    subst hn
    unfold xstep at h
    refine x2_e h ?_
    clear h
    intro x y r hr h
    subst hr; exact lv_ishr hx hb hdg (h H locs ls L hw hS hl)
  case idiv =>
    have hn := hl1 hlen (by intros; intro q; cases q) (by intros; intro q; cases q)
    subst hn
    unfold xstep at h
    refine x2_e h ?_
    clear h
    intro x y r hr h
    subst hr; exact lv_idiv hx hb hdg h.1 (h.2 H locs ls L hw hS hl)
  case irem =>
    have hn := hl1 hlen (by intros; intro q; cases q) (by intros; intro q; cases q)
    subst hn
    unfold xstep at h
    refine x2_e h ?_
    clear h
    intro x y r hr h
    subst hr; exact lv_irem hx hb hdg h.1 (h.2 H locs ls L hw hS hl)
  case iushr =>
    have hn := hl1 hlen (by intros; intro q; cases q) (by intros; intro q; cases q)
    subst hn
    unfold xstep at h
    refine x2_e h ?_
    clear h
    intro x y r hr h
    subst hr; exact lv_iushr hx hb hdg rfl (h H locs ls L hw hS hl)
  case ineg =>
    have hn := hl1 hlen (by intros; intro q; cases q) (by intros; intro q; cases q)
    subst hn
    unfold xstep at h
    refine x1_e h ?_
    clear h
    intro x r hr h
    subst hr; exact lv_ineg hx hb hdg (h H locs ls L hw hS hl)
  case i2b =>
    have hn := hl1 hlen (by intros; intro q; cases q) (by intros; intro q; cases q)
    subst hn
    unfold xstep at h
    refine x1_e h ?_
    clear h
    intro x r hr h
    subst hr; exact lv_i2b hx hb hdg rfl (h H locs ls L hw hS hl)
  case dup =>
    have hn := hl1 hlen (by intros; intro q; cases q) (by intros; intro q; cases q)
    subst hn
    unfold xstep at h
    refine xv_e h ?_
    clear h
    intro v r hr hc h
    subst hr; exact lv_dup hx hb hdg hc (h H locs ls L hw hS hl)
  case pop =>
    have hn := hl1 hlen (by intros; intro q; cases q) (by intros; intro q; cases q)
    subst hn
    unfold xstep at h
    refine xv_e h ?_
    clear h
    intro v r hr hc h
    subst hr; exact lv_pop hx hb hdg hc (h H locs ls L hw hS hl)
  case dup_x1 =>
    have hn := hl1 hlen (by intros; intro q; cases q) (by intros; intro q; cases q)
    subst hn
    unfold xstep at h
    refine xv_e h ?_
    clear h
    intro v r hr hc h
    refine xv_e h ?_
    clear h
    intro w r' hr' hc' h
    subst hr; subst hr'; exact lv_dup_x1 hx hb hdg hc hc' (h H locs ls L hw hS hl)
  case dup_x2 =>
    have hn := hl1 hlen (by intros; intro q; cases q) (by intros; intro q; cases q)
    subst hn
    unfold xstep at h
    refine xv_e h ?_
    clear h
    intro v r hr hc h
    refine xv_e h ?_
    clear h
    intro w r' hr' hc' h
    refine xv_e h ?_
    clear h
    intro u r'' hr'' hc'' h
    subst hr; subst hr'; subst hr''; exact lv_dup_x2 hx hb hdg hc hc' hc'' (h H locs ls L hw hS hl)
  case dup2 =>
    have hn := hl1 hlen (by intros; intro q; cases q) (by intros; intro q; cases q)
    subst hn
    unfold xstep at h
    refine xv_e h ?_
    clear h
    intro v r hr hc h
    refine xv_e h ?_
    clear h
    intro w r' hr' hc' h
    subst hr; subst hr'; exact lv_dup2_11 hx hb hdg hc hc' (h H locs ls L hw hS hl)
  case goto =>
    have hn := hl1 hlen (by intros; intro q; cases q) (by intros; intro q; cases q)
    subst hn
    unfold xstep at h
    exact lv_goto hx hb hdg hlk (h H locs ls L hw hS hl)
  case ifCond cc o =>
    have hn := hl1 hlen (by intros; intro q; cases q) (by intros; intro q; cases q)
    subst hn
    unfold xstep at h
    refine x1_e h ?_
    clear h
    intro x r hr h
    subst hr
    cases cc
    · exact lv_if_eq hx hb hdg hlk (fun q => h.1 q H locs ls L hw hS hl) (fun q => h.2 q H locs ls L hw hS hl)
    · exact lv_if_ne hx hb hdg hlk (fun q => h.1 q H locs ls L hw hS hl) (fun q => h.2 (fun z => z q) H locs ls L hw hS hl)
    · exact lv_if_lt hx hb hdg hlk (fun q => h.1 q H locs ls L hw hS hl) (fun q => h.2 q H locs ls L hw hS hl)
    · exact lv_if_ge hx hb hdg hlk (fun q => h.1 q H locs ls L hw hS hl) (fun q => h.2 q H locs ls L hw hS hl)
    · exact lv_if_gt hx hb hdg hlk (fun q => h.1 q H locs ls L hw hS hl) (fun q => h.2 q H locs ls L hw hS hl)
    · exact lv_if_le hx hb hdg hlk (fun q => h.1 q H locs ls L hw hS hl) (fun q => h.2 q H locs ls L hw hS hl)
  case if_icmp cc o =>
    have hn := hl1 hlen (by intros; intro q; cases q) (by intros; intro q; cases q)
    subst hn
    unfold xstep at h
    refine x2_e h ?_
    clear h
    intro x y r hr h
    subst hr
    cases cc
    · exact lv_icmp_eq hx hb hdg hlk (fun q => h.1 q H locs ls L hw hS hl) (fun q => h.2 q H locs ls L hw hS hl)
    · exact lv_icmp_ne hx hb hdg hlk (fun q => h.1 q H locs ls L hw hS hl) (fun q => h.2 (fun z => z q) H locs ls L hw hS hl)
    · exact lv_icmp_lt hx hb hdg hlk (fun q => h.1 q H locs ls L hw hS hl) (fun q => h.2 q H locs ls L hw hS hl)
    · exact lv_icmp_ge hx hb hdg hlk (fun q => h.1 q H locs ls L hw hS hl) (fun q => h.2 q H locs ls L hw hS hl)
    · exact lv_icmp_gt hx hb hdg hlk (fun q => h.1 q H locs ls L hw hS hl) (fun q => h.2 q H locs ls L hw hS hl)
    · exact lv_icmp_le hx hb hdg hlk (fun q => h.1 q H locs ls L hw hS hl) (fun q => h.2 q H locs ls L hw hS hl)
  case if_acmp cc o =>
    have hn := hl1 hlen (by intros; intro q; cases q) (by intros; intro q; cases q)
    subst hn
    unfold xstep at h
    cases cc
    · refine xoo_e h ?_
      clear h
      intro x y r hr h
      subst hr
      exact lv_acmp_eq hx hb hdg hlk (fun q => h.1 q H locs ls L hw hS hl) (fun q => h.2 q H locs ls L hw hS hl)
    · refine xoo_e h ?_
      clear h
      intro x y r hr h
      subst hr
      exact lv_acmp_ne hx hb hdg hlk (fun q => h.1 q H locs ls L hw hS hl) (fun q => h.2 q H locs ls L hw hS hl)
  case ifnull =>
    have hn := hl1 hlen (by intros; intro q; cases q) (by intros; intro q; cases q)
    subst hn
    unfold xstep at h
    refine xo_e h ?_
    clear h
    intro x r hr h
    subst hr
    cases x with
    | none => exact lv_ifnullN hx hb hdg hlk (h.1 rfl H locs ls L hw hS hl)
    | some x => exact lv_ifnull hx hb hdg (h.2 (by intro q; cases q) H locs ls L hw hS hl)
  case ifnonnull =>
    have hn := hl1 hlen (by intros; intro q; cases q) (by intros; intro q; cases q)
    subst hn
    unfold xstep at h
    refine xo_e h ?_
    clear h
    intro x r hr h
    subst hr
    cases x with
    | none => exact lv_ifnonnullN hx hb hdg (h.2 rfl H locs ls L hw hS hl)
    | some x => exact lv_ifnonnull hx hb hdg hlk (h.1 (by intro q; cases q) H locs ls L hw hS hl)
  case tableswitch =>
    unfold xstep at h
    refine x1_e h ?_
    clear h
    intro x r hr h
    subst hr
    obtain ⟨g1, g2, g3, g4, g5⟩ := hlk
    exact x_tab hx hb hdg g1 g3 g4 g5 _ _ 0 (by simpa using g2) rfl (fun z z1 z2 => by simp at z2; omega) (xsel_mono (fun _ q => q H locs ls L hw hS hl) h)
  case lookupswitch =>
    unfold xstep at h
    refine x1_e h ?_
    clear h
    intro x r hr h
    subst hr
    obtain ⟨g1, g2, g3⟩ := hlk
    exact x_lks hx hb hdg g1 g2 _ _ g3 rfl (xsel_mono (fun _ q => q H locs ls L hw hS hl) h)
  case ireturn =>
    have hn := hl1 hlen (by intros; intro q; cases q) (by intros; intro q; cases q)
    subst hn
    unfold xstep at h
    refine x1_e h ?_
    clear h
    intro x r hr h
    subst hr
    obtain ⟨rfl, ⟨h1, h2⟩, h3⟩ := h
    have h4 : (xm_rt M = some .int ∨ (xm_rt M = some .boolean ∧ (x = 0 ∨ x = 1))) ∧ E (some (.int x)) f := by
      revert h3
      unfold xrt
      dsimp only [xgM, xgE]
      split
      · next q => exact fun h => ⟨Or.inl q, h⟩
      · next q => exact fun h => ⟨Or.inr ⟨q, h.1⟩, h.2⟩
      · exact fun h => h.elim
    exact hri x f H locs ls L pc cu su hdg h4.1 h4.2 h1 h2 hw hS
  case areturn =>
    have hn := hl1 hlen (by intros; intro q; cases q) (by intros; intro q; cases q)
    subst hn
    unfold xstep at h
    refine xo_e h ?_
    clear h
    intro x r hr h
    subst hr
    obtain ⟨rfl, ⟨h1, h2⟩, h3⟩ := h
    obtain ⟨ty, g1, g2⟩ := hlk
    exact hra x f H locs ls L pc cu su ty hdg g1 g2 h3 h1 h2 hw hS
  case return_ =>
    have hn := hl1 hlen (by intros; intro q; cases q) (by intros; intro q; cases q)
    subst hn
    unfold xstep at h
    obtain ⟨rfl, ⟨h1, h2⟩, h3⟩ := h
    exact hrv f H locs ls L pc cu su hdg hlk h3 h1 h2 hw hS
  case getfield j =>
    have hn := hl1 hlen (by intros; intro q; cases q) (by intros; intro q; cases q)
    subst hn
    unfold xstep at h
    obtain ⟨⟨C, U, N⟩, g1, g2, g3⟩ := hlk
    refine xa_e h ?_
    clear h
    intro a r hr h
    refine xob_e h ?_
    clear h
    intro fs hfa h
    refine xfd_e h ?_
    clear h
    intro v hv h
    subst hr
    obtain ⟨q0, hq0⟩ := xw_get hw hfa
    have hcl := OK.2.1 _ _ g1
    rcases g3 with g3 | g3
    · exact va_get (C := C) (T := U) (N := N) hx hb hts hcl.1 hown hK hw.2.1 q0 hq0 g1 k.2.2.1 g2 (hat g3) (fun _ z => z) hv hdg (h H locs ls L hw hS hl)
    · exact va_getN (C := C) (T := U) (N := N) hx hb hts hcl.1 hown hK hw.2.1 q0 hq0 g1 k.2.2.1 g2 (xao_n hO g3) (fun _ z => z) hv hdg (h H locs ls L hw hS hl)
  case putfield j =>
    have hn := hl1 hlen (by intros; intro q; cases q) (by intros; intro q; cases q)
    subst hn
    unfold xstep at h
    obtain ⟨⟨C, U, N⟩, g1, g2, g3, ⟨ty, g4, g5⟩, g6⟩ := hlk
    refine xva_e h ?_
    clear h
    intro v a r hr h
    refine xob_e h ?_
    clear h
    intro fs hfa h
    subst hr
    obtain ⟨q0, hq0⟩ := xw_get hw hfa
    have hcl := OK.2.1 _ _ g1
    have hfit := x_fit g5 h.2.1
    have hty : ∀ j, j < N → parseFieldDescriptor (U j).2.2.1 = some ((parseFieldDescriptor (U j).2.2.1).getD .int) := fun j hj => by
      obtain ⟨t, ht⟩ := hcl.2.2 j hj
      dsimp only at ht
      rw [ht]; rfl
    by_cases hfin : (U k.2.2.1).2.2.2 = true
    · obtain ⟨g7, g8, g9⟩ := g6 hfin
      exact va_putF (C := C) (T := U) (N := N) hx hb hts hcl.1 _ hty hcl.2.1 hown hK hw.2.1 hw.2.2 hS q0 hq0 g1 k.2.2.1 g2 (hat g9) (fun _ z => z) hfin (hin g7) g8 g4 hfit.1 hfit.2 h.1 hdg (hwrt (e1 := xO k.2.1 (fs.set k.2.2.1 v)) hfa hq0 h.2.2)
    · have hfin : (U k.2.2.1).2.2.2 = false := Bool.eq_false_iff.mpr hfin
      rcases g3 with g3 | g3
      · exact va_put (C := C) (T := U) (N := N) hx hb hts hcl.1 _ hty hcl.2.1 hown hK hw.2.1 hw.2.2 hS q0 hq0 g1 k.2.2.1 g2 (hat g3) (fun _ z => z) hfin g4 hfit.1 hfit.2 h.1 hdg (hwrt (e1 := xO k.2.1 (fs.set k.2.2.1 v)) hfa hq0 h.2.2)
      · exact va_putN (C := C) (T := U) (N := N) hx hb hts hcl.1 _ hty hcl.2.1 hown hK hw.2.1 hw.2.2 hS q0 hq0 g1 k.2.2.1 g2 (xao_n hO g3) (fun _ z => z) hfin g4 hfit.1 hfit.2 h.1 hdg (hwrt (e1 := xO k.2.1 (fs.set k.2.2.1 v)) hfa hq0 h.2.2)
  case arraylength =>
    have hn := hl1 hlen (by intros; intro q; cases q) (by intros; intro q; cases q)
    subst hn
    unfold xstep at h
    obtain ⟨ty, g1⟩ := hlk
    refine xa_e h ?_
    clear h
    intro a r hr h
    subst hr
    have hcell : ∀ {kk : Nat → Nat → Prop}, xan f a kk → (∀ t n, kk t n → t = k.2.1 ∧ xJ p l e R s m args below meth c Q (xm_ml M) dA D cl A (pc + 1) lv (.int (Int32.ofNat n) :: r) f cu su) → W p l e R s m args below meth c H locs cu su Q (F0 m pc ls (.ref a :: r)) := by
      intro kk h hh
      refine xan_e (dA := dA) h (fun t n e1 hfa x hx1 hx2 h => ?_)
      obtain ⟨ht, h5⟩ := hh _ _ h
      clear h
      subst ht; subst hx2
      obtain ⟨q0, hq0⟩ := xw_get hw hfa
      rw [hx1] at hq0
      exact va_alen hx hb hK hw.2.1 q0 k.2.1 hq0 (xty_at g1) rfl hdg (h5 H locs ls L hw hS hl)
    cases sc with
    | none => exact hcell h (fun _ _ h => h)
    | some q =>
      obtain ⟨b, n, g⟩ := q
      have h0 : (a = b ∧ _) ∨ (a ≠ b ∧ xan f a _) := h
      clear h
      rcases h0 with ⟨rfl, h⟩ | ⟨-, h⟩
      · obtain ⟨hX, hbl, hbA⟩ := hsc _ _ _ rfl
        exact va_slen hx hb hX hbl hbA hS hdg (h.2 H locs ls L hw hS hl)
      · exact hcell h (fun _ _ h => h)
  case iaload =>
    have hn := hl1 hlen (by intros; intro q; cases q) (by intros; intro q; cases q)
    subst hn
    unfold xstep at h
    refine xia_e h ?_
    clear h
    intro i a r hr h
    subst hr
    have hcell : xin f a (fun t n g => t = 0 ∧ vp_in i n ∧ xJ p l e R s m args below meth c Q (xm_ml M) dA D cl A (pc + 1) lv (.int (g i.toNatClampNeg) :: r) f cu su) → W p l e R s m args below meth c H locs cu su Q (F0 m pc ls (.int i :: .ref a :: r)) := by
      intro h
      refine xin_e h ?_
      clear h
      intro t n g hfa h
      obtain ⟨rfl, hin, h⟩ := h
      obtain ⟨q0, hq0⟩ := xw_get hw hfa
      exact va_iald hx hb hK hw.2.1 q0 0 hq0 hint hin hdg (h H locs ls L hw hS hl)
    cases sc with
    | none => exact hcell h
    | some q =>
      obtain ⟨b, n, g⟩ := q
      have h0 : (a = b ∧ _) ∨ (a ≠ b ∧ xin f a _) := h
      clear h
      rcases h0 with ⟨rfl, h⟩ | ⟨-, h⟩
      · obtain ⟨hX, hbl, hbA⟩ := hsc _ _ _ rfl
        exact va_sld hx hb hX hbl hbA hS h.2.1 hdg (h.2.2 H locs ls L hw hS hl)
      · exact hcell h
  case iastore =>
    have hn := hl1 hlen (by intros; intro q; cases q) (by intros; intro q; cases q)
    subst hn
    unfold xstep at h
    refine xiia_e h ?_
    clear h
    intro x i a r hr h
    refine xin_e h ?_
    clear h
    intro t n g hfa h
    subst hr
    obtain ⟨rfl, hin, h⟩ := h
    obtain ⟨q0, hq0⟩ := xw_get hw hfa
    exact va_iast hx hb hK hw.2.1 hw.2.2 hS q0 0 hq0 hint hin hdg (hwrt (e1 := xI 0 n (upd g i.toNatClampNeg x)) hfa hq0 h)
  case baload =>
    have hn := hl1 hlen (by intros; intro q; cases q) (by intros; intro q; cases q)
    subst hn
    unfold xstep at h
    refine xia_e h ?_
    clear h
    intro i a r hr h
    refine xin_e h ?_
    clear h
    intro t n g hfa h
    subst hr
    obtain ⟨ht, hin, h⟩ := h
    obtain ⟨q0, hq0⟩ := xw_get hw hfa
    rcases ht with rfl | rfl
    · exact va_zald hx hb hK hw.2.1 q0 1 hq0 hboo hin hdg (h H locs ls L hw hS hl)
    · exact va_bald hx hb hK hw.2.1 q0 2 hq0 hbyt hin hdg (h H locs ls L hw hS hl)
  case bastore =>
    have hn := hl1 hlen (by intros; intro q; cases q) (by intros; intro q; cases q)
    subst hn
    unfold xstep at h
    refine xiia_e h ?_
    clear h
    intro x i a r hr h
    refine xin_e h ?_
    clear h
    intro t n g hfa h
    subst hr
    obtain ⟨hin, h⟩ := h
    obtain ⟨q0, hq0⟩ := xw_get hw hfa
    match t, hfa, hq0, h with
    | 0, hfa, hq0, h => exact False.elim h
    | 1, hfa, hq0, h =>
      obtain ⟨hx01, h⟩ := h
      have hnar : vp_nar .boolean x = x := by rcases hx01 with rfl | rfl <;> decide
      exact va_zast hx hb hK hw.2.1 hw.2.2 hS q0 1 hq0 hboo hin hdg (fun H1 locs1 hP1 hD1 hS1 => by
        rw [hnar] at hP1 hD1
        exact hwrt (e1 := xI 1 n (upd g i.toNatClampNeg x)) hfa hq0 h H1 locs1 hP1 hD1 hS1)
    | 2, hfa, hq0, h =>
      exact va_bast hx hb hK hw.2.1 hw.2.2 hS q0 2 hq0 hbyt hin hdg (fun H1 locs1 hP1 hD1 hS1 => by
        rw [vp_nar_byte] at hP1 hD1
        exact hwrt (e1 := xI 2 n (upd g i.toNatClampNeg x.toInt8.toInt32)) hfa hq0 h H1 locs1 hP1 hD1 hS1)
    | t + 3, hfa, hq0, h => exact False.elim h
  case aaload =>
    have hn := hl1 hlen (by intros; intro q; cases q) (by intros; intro q; cases q)
    subst hn
    unfold xstep at h
    obtain ⟨ty, g1, g2⟩ := hlk
    refine xia_e h ?_
    clear h
    intro i a r hr h
    refine xre_e h ?_
    clear h
    intro t n g hfa h
    subst hr
    obtain ⟨rfl, hin, h⟩ := h
    obtain ⟨q0, hq0⟩ := xw_get hw hfa
    have hlt : i.toNatClampNeg < n := Nat.not_le.mp fun q => hin (Or.inr q)
    exact W.aald (v := va_rf (g i.toNatClampNeg)) (ty := ty) hx hb (hw.2.1 q0 _ hq0) ((hK.2 k.2.1 _ (xty_at g1)).1 n (fun j => va_rf (g j))) g2 (fun q => by cases q) (by show ¬ (i < 0 ∨ (arrV _ _ _).slots.size ≤ _); rw [arrV_size]; exact hin) (by show (arrV _ _ _).slots[_]? = _; rw [arrV_read _ _ hlt]) rfl rfl hdg (h H locs ls L hw hS hl)
  case aastore =>
    have hn := hl1 hlen (by intros; intro q; cases q) (by intros; intro q; cases q)
    subst hn
    unfold xstep at h
    obtain ⟨qc, g1, g2⟩ := hlk
    refine xvia_e h ?_
    clear h
    intro v i a r hr h
    refine xre_e h ?_
    clear h
    intro t n g hfa h
    subst hr
    obtain ⟨rfl, hin, hv, h⟩ := h
    obtain ⟨q0, hq0⟩ := xw_get hw hfa
    cases v with
    | none => exact va_astqN hx hb hK hw.2.1 hw.2.2 hS q0 k.2.1 hq0 (xty_at g2) hin hdg (hwrt (e1 := xR k.2.1 n (va_up g i.toNatClampNeg none)) hfa hq0 h)
    | some v =>
      obtain ⟨fs, hfv⟩ := hv
      obtain ⟨qk, hqk⟩ := xw_get hw hfv
      exact va_astq hx hb hK hw.2.1 hw.2.2 hS q0 k.2.1 qk k.2.2.1 hq0 (xty_at g2) hqk g1 hin hdg (hwrt (e1 := xR k.2.1 n (va_up g i.toNatClampNeg (some v))) hfa hq0 h)
  case newarray aty =>
    have hn := hl1 hlen (by intros; intro q; cases q) (by intros; intro q; cases q)
    subst hn
    unfold xstep at h
    obtain ⟨g1, g2, g3⟩ := hlk
    refine x1_e h ?_
    clear h
    intro x r hr h
    subst hr
    obtain ⟨hn0, hle, hc, hs, hnew⟩ := h
    have hdv : defaultValue (newarray.typeOf aty) = .int 0 := by rcases g3 with g3 | g3 | g3 <;> rw [g3] <;> rfl
    refine va_newa hx hb (hat g2) rfl hK hw.2.1 hw.2.2 hS hA (a0 := (x.toNatClampNeg, .inl (fun _ => 0))) (fun cA => ?_) hn0 rfl ?_ (by rw [hR.2.2.1]; exact hc) (by rw [hR.2.2.2]; exact hs) hdg (fun q cA H1 hK1 hP1 hD1 hS1 => ?_)
    · rw [hdv]; rfl
    · rcases g3 with g3 | g3 | g3 <;> rw [g3] <;> simp only [componentBytes] <;> omega
    · have h1 := (hK1.2 (xty dA tl).length (cA, newarray.typeOf aty) (by rw [List.getElem?_append_right (Nat.le_refl _), Nat.sub_self]; rfl)).2
      have h2 := (hK.2 k.2.1 _ (xty_at g1)).2
      have he : cA = dA k.2.1 := by
        rcases g3 with g3 | g3 | g3 <;> (rw [g3] at h1 h2; exact Option.some.inj (h1.symm.trans h2))
      subst he
      obtain ⟨hf, hw1⟩ := xw_new (e := xI k.2.1 x.toNatClampNeg (fun _ => 0)) hw hP1 hD1
      exact hnew q hf H1 locs ls (L ++ [q]) hw1 hS1 hl
  case anewarray j =>
    have hn := hl1 hlen (by intros; intro q; cases q) (by intros; intro q; cases q)
    subst hn
    unfold xstep at h
    obtain ⟨C, g1, g2, g3⟩ := hlk
    refine x1_e h ?_
    clear h
    intro x r hr h
    subst hr
    obtain ⟨hn0, hle, hc, hs, hnew⟩ := h
    refine va_newq hx hb hown (hat g2) (xao_o hO g3) hK hw.2.1 hw.2.2 hS hA hn0 rfl (by omega) (by rw [hR.2.2.1]; exact hc) (by rw [hR.2.2.2]; exact hs) hdg (fun q cA H1 hK1 hP1 hD1 hS1 => ?_)
    have h1 := (hK1.2 (xty dA tl).length (cA, .object C) (by rw [List.getElem?_append_right (Nat.le_refl _), Nat.sub_self]; rfl)).2
    have h2 := (hK.2 k.2.1 _ (xty_at g1)).2
    have he : cA = dA k.2.1 := by
      obtain ⟨_, _, _, _, _, h1⟩ := h1
      obtain ⟨_, _, _, _, _, h2⟩ := h2
      exact Option.some.inj (h1.symm.trans h2)
    subst he
    obtain ⟨hf, hw1⟩ := xw_new (e := xR k.2.1 x.toNatClampNeg (fun _ => none)) hw hP1 hD1
    exact hnew q hf H1 locs ls (L ++ [q]) hw1 hS1 hl
  case multianewarray j dm =>
    have hn := hl1 hlen (by intros; intro q; cases q) (by intros; intro q; cases q)
    subst hn
    unfold xstep at h
    obtain ⟨rfl, g1, g2, g3, g4⟩ := hlk
    refine x2_e h ?_
    clear h
    intro n y r hr h
    subst hr
    obtain ⟨hn0, hy0, hn1, hy1, hc, hs, hnew⟩ := h
    have hcy : s.vm.findClass (FieldType.array .int).toString = some (dA 0) := (hK.2 0 _ hint).2
    refine va_mna (X := []) (L := L) (f := xg dA f) hx hb hown (by rw [show "[" ++ (FieldType.array .int).toString = "[[I" from by decide +kernel]; exact hat g2) (xao_a hO g3) (hts _ g4) hcy hK (by rw [List.nil_append]; exact hw.2.1) (by rw [List.nil_append]; exact hw.2.2) hS hA (z := (y.toNatClampNeg, .inl (fun _ => 0))) hn0 hy0 rfl rfl (by omega) (by simp only [componentBytes]; omega) (by omega) rfl rfl (by rw [hR.2.2.1]; exact hc) (by rw [hR.2.2.2]; exact hs) (fun c => ?_) hdg (fun q w cA H1 hin hnl hK1 hP1 hD1 hS1 => ?_)
    · exact x_inner c y.toNatClampNeg
    · have h1 := (hK1.2 (xty dA tl).length (cA, .array .int) (by rw [List.getElem?_append_right (Nat.le_refl _), Nat.sub_self]; rfl)).2
      have h2 := (hK.2 k.2.1 _ (xty_at g1)).2
      have he : cA = dA k.2.1 := Option.some.inj (h1.symm.trans h2)
      subst he
      obtain ⟨q1, q2, q3⟩ := x_mu hw hnl hP1 hD1
      exact hnew q w q1 q2 hin H1 locs ls _ q3 hS1 hl
  case new j =>
    have hn := hl1 hlen (by intros; intro q; cases q) (by intros; intro q; cases q)
    subst hn
    unfold xstep at h
    obtain ⟨⟨C, U, N⟩, g1, g2, g3, g4, g5, g6, g7⟩ := hlk
    obtain ⟨hc, hs, hnew⟩ := h
    have hcl := OK.2.1 _ _ g1
    dsimp only at g2 g3 g4 g5 g6 g7
    have hty : ∀ j, j < N → parseFieldDescriptor (U j).2.2.1 = some ((parseFieldDescriptor (U j).2.2.1).getD .int) := fun j hj => by
      obtain ⟨t, ht⟩ := hcl.2.2 j hj
      dsimp only at ht
      rw [ht]; rfl
    subst g2
    refine va_new (C := C) (T := U) (N := k.2.2.1) hx hb hts hcl.1 _ hty hown (hat g3) (hts _ g4) (hts _ g5) hK hw.2.1 hw.2.2 hS hA g1 (fs := xdf (k.2.2.2.map Prod.snd)) (fun j hj => ?_) (by rw [hR.2.2.1]; exact hc) (by rw [hR.2.2.2]; exact hs) hdg (fun q H1 hP1 hD1 hS1 => ?_)
    · obtain ⟨ty, q1, q2⟩ := g7 j hj
      rw [q1]
      exact x_dflt q2 (by rw [g6]; exact hj)
    · obtain ⟨hf, hw1⟩ := xw_new (e := xO k.2.1 (xdf (k.2.2.2.map Prod.snd))) hw hP1 hD1
      exact hnew q hf H1 locs ls (L ++ [q]) hw1 hS1 hl
  case invokevirtual j =>
    have hn := hl1 hlen (by intros; intro q; cases q) (by intros; intro q; cases q)
    subst hn
    unfold xstep at h
    obtain ⟨N, g1, ⟨g2, g3, g4⟩, g5, g6, ⟨qc, g7, g8⟩⟩ := hlk
    obtain ⟨h0, h1, h2⟩ := h
    obtain ⟨a, As, fs, ha, hfa⟩ := x_rc g1 h1
    obtain ⟨hr4, hcat, hmc, hms, hcall⟩ := x_clN g1 h2
    have hN := OK.2.2.2 _ _ g1
    have hstk := x_split h0 ha
    have hAs : As.length = k.2.2.1 := by
      have := congrArg List.length ha
      simp at this; omega
    have hc1 : ∀ v ∈ (Value.ref a :: As), v.category = 1 := by
      rw [← ha]
      intro v hv
      have := List.all_eq_true.mp hcat v hv
      simpa using this
    rw [ha] at hcall
    have hMt := hmet _ _ _ _ _ L H.size g1 hc1 (by simp [hAs]; exact g4) hcall
    obtain ⟨q0, hq0⟩ := xw_get hw hfa
    have hrec := va_recv hK hw.2.1 g7 hq0
    rw [g8] at hrec
    have hpre := x_pre (as := .ref a :: As) hK hO hw
    have hRR : (xrm d N).frames + 1 ≤ R.frames ∧ 8 + (xm_ml N + 11) + (xrm d N).locals ≤ R.locals := ⟨hR.1, by have := hN.2.2.2.2.1; have := hR.2.1; show 8 + (xm_ml N + 11) + 40 * d ≤ R.locals; omega⟩
    have hff : cu + xm_mc N ≤ R.cells ∧ su + xm_ms N ≤ R.slots := ⟨by rw [hR.2.2.1]; exact hmc, by rw [hR.2.2.2]; exact hms⟩
    have hrm : 2 * (F0 m pc ls st).monitorRoom + ((st.drop (k.2.2.1 + 1)).map fun v => v.category).sum ≤ 8 := lv_room hr4
    exact x_cont (va_runV (As := As) (rest := st.drop (k.2.2.1 + 1)) (C := (xm_nm N).cls) F hMt ⟨callB_of _ hts (x_good OK hN) rfl rfl rfl (hts _ hN.2.2.1) (hat g2) ⟨hN.2.2.2.1.1, hN.2.2.2.1.2, g3⟩ hRR, hts _ g5, hts _ g6⟩ ⟨hpre.1, hrec, hpre.2⟩ rfl hAs hlsz hstk hrm hdg hff) hA hw hS hl (fun _ _ h => h)
  case invokestatic j =>
    have hn := hl1 hlen (by intros; intro q; cases q) (by intros; intro q; cases q)
    subst hn
    unfold xstep at h
    have hlib : ∀ r : List Value, (r.map fun v => v.category).sum ≤ 8 → 1 ≤ R.frames ∧ (r.map fun v => v.category).sum + 13 ≤ R.locals := fun r hr => ⟨by have := hR.1; omega, by have := hR.2.1; omega⟩
    have hcs : ∀ (hq : xis_ (T, xSp T d, sc, M, E) (xJ p l e R s m args below meth c Q (xm_ml M) dA D cl A) k pc lv st f cu su) (hlk : ∃ N, T k.2.1 = some N ∧ xlm B (xm_nm M).cls j (xm_nm N) k.1 k.2.2.1 (xm_ml N + 1) ∧ Cond.static (xm_nm N) ∈ B), W p l e R s m args below meth c H locs cu su Q (F0 m pc ls st) := by
      intro h hlk
      obtain ⟨N, g1, ⟨g2, g3, g4⟩, g5⟩ := hlk
      obtain ⟨h0, h2⟩ := h
      obtain ⟨hr4, hcat, hmc, hms, hcall⟩ := x_clN g1 h2
      have hN := OK.2.2.2 _ _ g1
      generalize hAs : (st.take k.2.2.1).reverse = As at hcat hcall
      have hstk : st = As.reverse ++ st.drop k.2.2.1 := by rw [← hAs, List.reverse_reverse, List.take_append_drop]
      have hAl : As.length = k.2.2.1 := by rw [← hAs, List.length_reverse, List.length_take]; exact Nat.min_eq_left h0
      have hc1 : ∀ v ∈ As, v.category = 1 := by
        intro v hv
        have := List.all_eq_true.mp hcat v hv
        simpa using this
      have hMt := hmet _ _ _ _ _ L H.size g1 hc1 (by omega) hcall
      have hpre := x_pre (as := As) hK hO hw
      have hRR : (xrm d N).frames + 1 ≤ R.frames ∧ 8 + (xm_ml N + 11) + (xrm d N).locals ≤ R.locals := ⟨hR.1, by have := hN.2.2.2.2.1; have := hR.2.1; show 8 + (xm_ml N + 11) + 40 * d ≤ R.locals; omega⟩
      have hff : cu + xm_mc N ≤ R.cells ∧ su + xm_ms N ≤ R.slots := ⟨by rw [hR.2.2.1]; exact hmc, by rw [hR.2.2.2]; exact hms⟩
      have hrm : 2 * (F0 m pc ls st).monitorRoom + ((st.drop k.2.2.1).map fun v => v.category).sum ≤ 8 := lv_room hr4
      exact x_cont (va_runS (As := As) (rest := st.drop k.2.2.1) F hMt ⟨callB_of _ hts (x_good OK hN) rfl rfl rfl (hts _ hN.2.2.1) (hat g2) ⟨hN.2.2.2.1.1, hN.2.2.2.1.2, g3⟩ hRR, hts _ g5⟩ hpre rfl hAl hlsz hstk hrm hdg hff) hA hw hS hl (fun _ _ h => h)
    obtain ⟨k0, k1, k2, k3⟩ := k
    have h : xin_ (T, xSp T d, sc, M, E) (xJ p l e R s m args below meth c Q (xm_ml M) dA D cl A) (k0, k1, k2, k3) pc lv st f cu su := h
    unfold xin_ at h
    dsimp only at h
    split at h
    · rename_i jj
      unfold xlb at h
      split at h
      · obtain ⟨g1, g2, g3, g4⟩ := hlk
        refine x2_e h ?_
        clear h
        intro x y r hr h
        subst hr
        exact va_mmin hx hb (by rw [hml, hlsz]) hown (hat g1) (hts _ g2) (hts _ g3) (hts _ g4) (hlib r h.1).1 (hlib r h.1).2 (by rw [hR.2.2.1]; exact h.2.1.1) (by rw [hR.2.2.2]; exact h.2.1.2) hdg (h.2.2 H locs ls L hw hS hl)
      · obtain ⟨g1, g2, g3, g4⟩ := hlk
        refine x2_e h ?_
        clear h
        intro x y r hr h
        subst hr
        exact va_mmax hx hb (by rw [hml, hlsz]) hown (hat g1) (hts _ g2) (hts _ g3) (hts _ g4) (hlib r h.1).1 (hlib r h.1).2 (by rw [hR.2.2.1]; exact h.2.1.1) (by rw [hR.2.2.2]; exact h.2.1.2) hdg (h.2.2 H locs ls L hw hS hl)
      · refine x3l_e h (fun x lo hi r hr h => ?_)
        subst hr
        obtain ⟨⟨i1, i2, i3, i4, i5⟩, i6⟩ := hI
        have hgood : GoodIn B (Cond.code yI bI 6 (some .boolean) :: B) := by
          intro w hw
          rcases List.mem_cons.mp hw with q | q
          · rw [q]; exact ⟨i2, OK.1 _ i2⟩
          · exact ⟨q, OK.1 _ q⟩
        refine x_call (va_runS (As := [.long x, .long lo, .long hi]) (rest := r) F (i6 x lo hi) ⟨callB_of 3 hts hgood rfl rfl rfl (hts _ i3) (hat hlk) ⟨i4.1, i4.2, i5⟩ ⟨by have := hR.1; show 0 + 1 ≤ R.frames; omega, by have := hR.2.1; show 8 + (6 + 11) + 0 ≤ R.locals; omega⟩, hts _ i1⟩ ⟨fun a U g mk q => q, fun U hU hW => ⟨rfl, trivial⟩⟩ rfl rfl hlsz rfl (lv_room h.1) hdg ⟨by rw [hR.2.2.1]; exact h.2.1.1, by rw [hR.2.2.2]; exact h.2.1.2⟩) (fun v st₀ t H1 Lx e0 e1 _ hq hL => ?_)
        obtain ⟨q1, q2⟩ := hq
        have q3 : v = some (.int (if lo ≤ x ∧ x ≤ hi then 1 else 0)) := by
          cases q1
          rfl
        subst q3
        have hLx : Lx = [] := by
          cases Lx with
          | nil => rfl
          | cons a b => exact (hL a List.mem_cons_self).elim
        subst hLx
        have hH : H1 = H := by rw [← e1, q2, e0]
        subst hH
        rw [List.append_nil]
        exact h.2.2 H1 locs ls L hw hS hl
      · exact h.elim
    · next hno =>
      refine hcs h ?_
      unfold xlink at hlk
      dsimp only at hlk
      split at hlk
      · exact absurd rfl (hno 0)
      · exact absurd rfl (hno 1)
      · exact absurd rfl (hno 2)
      · exact hlk
  case invokespecial j =>
    have hn := hl1 hlen (by intros; intro q; cases q) (by intros; intro q; cases q)
    subst hn
    unfold xstep at h
    obtain ⟨k0, k1, k2, k3⟩ := k
    have h : xsp (T, xSp T d, sc, M, E) (xJ p l e R s m args below meth c Q (xm_ml M) dA D cl A) (k0, k1, k2, k3) pc lv st f cu su := h
    unfold xsp at h
    dsimp only at h
    split at h
    · rename_i jj
      obtain ⟨g1, g2, g3⟩ := hlk
      refine xa_e h ?_
      clear h
      intro a r hr h
      subst hr
      refine W.objInit hx hb hown (hat g1) (hts _ g2) (hts _ g3) rfl (by rw [hml]; exact hlsz) rfl hdg (by have := hR.1; omega) ?_ ?_
      · have h1 := lv_room (m := m) (pc := pc) (ls := ls) (rest := .ref a :: r) h.1
        have h2 := hR.2.1
        omega
      · exact W.eq rfl (h.2 H locs ls L hw hS hl)
    · next hno =>
      unfold xlink at hlk
      dsimp only at hlk
      split at hlk
      · next q => exact absurd rfl (hno _)
      obtain ⟨N, g1, ⟨g2, g3, g4⟩, g5, g6, g7⟩ := hlk
      obtain ⟨h0, ⟨a, As, ha⟩, h2⟩ := h
      obtain ⟨hr4, hcat, hmc, hms, hcall⟩ := x_clN g1 h2
      have hN := OK.2.2.2 _ _ g1
      have hstk := x_split h0 ha
      have hAs : As.length = k2 := by
        have := congrArg List.length ha
        simp at this; omega
      have hc1 : ∀ v ∈ (Value.ref a :: As), v.category = 1 := by
        rw [← ha]
        intro v hv
        have := List.all_eq_true.mp hcat v hv
        simpa using this
      rw [ha] at hcall
      have hMt := hmet _ _ _ _ _ L H.size g1 hc1 (by simp [hAs]; exact g4) hcall
      have hpre := x_pre (as := .ref a :: As) hK hO hw
      have hRR : (xrm d N).frames + 1 ≤ R.frames ∧ 8 + (xm_ml N + 11) + (xrm d N).locals ≤ R.locals := ⟨hR.1, by have := hN.2.2.2.2.1; have := hR.2.1; show 8 + (xm_ml N + 11) + 40 * d ≤ R.locals; omega⟩
      have hff : cu + xm_mc N ≤ R.cells ∧ su + xm_ms N ≤ R.slots := ⟨by rw [hR.2.2.1]; exact hmc, by rw [hR.2.2.2]; exact hms⟩
      have hrm : 2 * (F0 m pc ls st).monitorRoom + ((st.drop (k2 + 1)).map fun v => v.category).sum ≤ 8 := lv_room hr4
      have hwsN : xwsM B N = Cond.code (xm_nm N) (xm_by N) (xm_ml N) none :: B := by unfold xwsM; rw [g7]
      exact x_cont (va_runI (As := As) (rest := st.drop (k2 + 1)) F hMt ⟨callB_of _ hts (x_good OK hN) hwsN rfl rfl (hts _ hN.2.2.1) (hat g2) ⟨hN.2.2.2.1.1, hN.2.2.2.1.2, g3⟩ hRR, g6, hts _ g5⟩ hpre rfl hAs hlsz hstk hrm hdg hff) hA hw hS hl (fun _ _ h => h)
  all_goals exact False.elim h
end
