/-! 12 a row an instruction, with typed reads: what a block of a method asks for -/
def xgi (f : xH) (a ci j : Nat) (k : Int32 → Prop) : Prop := match f a with
  | some (.inr (.inr (c, fs))) => c = ci ∧ (match fs[j]? with
    | some (.int x) => k x
    | _ => False)
  | _ => False
def xgr (f : xH) (a ci j : Nat) (k : Nat → Prop) : Prop := match f a with
  | some (.inr (.inr (c, fs))) => c = ci ∧ (match fs[j]? with
    | some (.ref x) => k x
    | _ => False)
  | _ => False
def xpf (f : xH) (a ci j : Nat) (v : Value) (k : xH → Prop) : Prop := match f a with
  | some (.inr (.inr (c, fs))) => c = ci ∧ j < fs.length ∧ k (xup f a (xO ci (fs.set j v)))
  | _ => False
def xal (f : xH) (a t : Nat) (i : Int32) (k : Int32 → Prop) : Prop := match f a with
  | some (.inl (t', n, g)) => t' = t ∧ vp_in i n ∧ k (g i.toNatClampNeg)
  | _ => False
def xas (f : xH) (a t : Nat) (i x : Int32) (k : xH → Prop) : Prop := match f a with
  | some (.inl (t', n, g)) => t' = t ∧ vp_in i n ∧ k (xup f a (xI t n (upd g i.toNatClampNeg x)))
  | _ => False
def xrl (f : xH) (a t : Nat) (i : Int32) (k : Nat → Prop) : Prop := match f a with
  | some (.inr (.inl (t', n, g))) => t' = t ∧ vp_in i n ∧ (match g i.toNatClampNeg with
    | some q => k q
    | none => False)
  | _ => False
def xrs (f : xH) (a t ci : Nat) (i : Int32) (v : Nat) (k : xH → Prop) : Prop := match f a with
  | some (.inr (.inl (t', n, g))) => t' = t ∧ vp_in i n ∧ (∃ fs, f v = some (xO ci fs)) ∧ k (xup f a (xR t n (va_up g i.toNatClampNeg (some v))))
  | _ => False
def xle (f : xH) (a t : Nat) (k : Int32 → Prop) : Prop := match f a with
  | some (.inl (t', n, _)) => t' = t ∧ k (Int32.ofNat n)
  | some (.inr (.inl (t', n, _))) => t' = t ∧ k (Int32.ofNat n)
  | _ => False
def xvi (v : Option Value) (k : Int32 → Prop) : Prop := match v with
  | some (.int x) => k x
  | _ => False
def xvr (v : Option Value) (k : Nat → Prop) : Prop := match v with
  | some (.ref x) => k x
  | _ => False
def xvv (v : Option Value) (k : Prop) : Prop := match v with
  | none => k
  | _ => False
def xbr (c : Prop) (A B : Prop) : Prop := (c → A) ∧ (¬ c → B)
theorem xgi_e {f : xH} {a ci j : Nat} {K : Int32 → Prop} (h : xgi f a ci j K) : ∃ fs x, f a = some (xO ci fs) ∧ fs[j]? = some (.int x) ∧ K x := by
  unfold xgi at h
  split at h
  · next c fs he =>
    obtain ⟨rfl, h⟩ := h
    split at h
    · next x hx => exact ⟨fs, x, he, hx, h⟩
    · exact h.elim
  · exact h.elim
theorem xgr_e {f : xH} {a ci j : Nat} {K : Nat → Prop} (h : xgr f a ci j K) : ∃ fs x, f a = some (xO ci fs) ∧ fs[j]? = some (.ref x) ∧ K x := by
  unfold xgr at h
  split at h
  · next c fs he =>
    obtain ⟨rfl, h⟩ := h
    split at h
    · next x hx => exact ⟨fs, x, he, hx, h⟩
    · exact h.elim
  · exact h.elim
theorem xpf_e {f : xH} {a ci j : Nat} {v : Value} {K : xH → Prop} (h : xpf f a ci j v K) : ∃ fs, f a = some (xO ci fs) ∧ j < fs.length ∧ K (xup f a (xO ci (fs.set j v))) := by
  unfold xpf at h
  split at h
  · next c fs he =>
    obtain ⟨rfl, h⟩ := h
    exact ⟨fs, he, h⟩
  · exact h.elim
theorem xal_e {f : xH} {a t : Nat} {i : Int32} {K : Int32 → Prop} (h : xal f a t i K) : ∃ n g, f a = some (xI t n g) ∧ vp_in i n ∧ K (g i.toNatClampNeg) := by
  unfold xal at h
  split at h
  · next t' n g he =>
    obtain ⟨rfl, h⟩ := h
    exact ⟨n, g, he, h⟩
  · exact h.elim
theorem xas_e {f : xH} {a t : Nat} {i x : Int32} {K : xH → Prop} (h : xas f a t i x K) : ∃ n g, f a = some (xI t n g) ∧ vp_in i n ∧ K (xup f a (xI t n (upd g i.toNatClampNeg x))) := by
  unfold xas at h
  split at h
  · next t' n g he =>
    obtain ⟨rfl, h⟩ := h
    exact ⟨n, g, he, h⟩
  · exact h.elim
theorem xrl_e {f : xH} {a t : Nat} {i : Int32} {K : Nat → Prop} (h : xrl f a t i K) : ∃ n g q, f a = some (xR t n g) ∧ vp_in i n ∧ g i.toNatClampNeg = some q ∧ K q := by
  unfold xrl at h
  split at h
  · next t' n g he =>
    obtain ⟨rfl, h1, h⟩ := h
    split at h
    · next q hq => exact ⟨n, g, q, he, h1, hq, h⟩
    · exact h.elim
  · exact h.elim
theorem xrs_e {f : xH} {a t ci : Nat} {i : Int32} {v : Nat} {K : xH → Prop} (h : xrs f a t ci i v K) : ∃ n g, f a = some (xR t n g) ∧ vp_in i n ∧ (∃ fs, f v = some (xO ci fs)) ∧ K (xup f a (xR t n (va_up g i.toNatClampNeg (some v)))) := by
  unfold xrs at h
  split at h
  · next t' n g he =>
    obtain ⟨rfl, h⟩ := h
    exact ⟨n, g, he, h⟩
  · exact h.elim
section
variable {d : Nat} {sc : xS} {M : xM} {E : Option Value → xH → Prop} {pc n : Nat} {k : xKk} {lv : xL} {st : List Value} {f : xH} {cu su : Nat}
theorem s_ic {z : Int} (v : Int32) (hk : xlk (xm_cd M) pc = some (.iconst z, n, k)) (hv : Int32.ofInt z = v) (h : xWp (xT0, xSp xT0 d, sc, M, E) (pc + 1) lv (.int v :: st) f cu su) : xWp (xT0, xSp xT0 d, sc, M, E) pc lv st f cu su := xs hk (by subst hv; exact h)
theorem s_bp {z : Int} (v : Int32) (hk : xlk (xm_cd M) pc = some (.bipush z, n, k)) (hv : (Int8.ofInt z).toInt32 = v) (h : xWp (xT0, xSp xT0 d, sc, M, E) (pc + 2) lv (.int v :: st) f cu su) : xWp (xT0, xSp xT0 d, sc, M, E) pc lv st f cu su := xs hk (by subst hv; exact h)
theorem s_sp {z : Int} (v : Int32) (hk : xlk (xm_cd M) pc = some (.sipush z, n, k)) (hv : (Int16.ofInt z).toInt32 = v) (h : xWp (xT0, xSp xT0 d, sc, M, E) (pc + 3) lv (.int v :: st) f cu su) : xWp (xT0, xSp xT0 d, sc, M, E) pc lv st f cu su := xs hk (by subst hv; exact h)
theorem s_ldc {j : Nat} (v : Int32) (hk : xlk (xm_cd M) pc = some (.ldc j, n, k)) (hv : Int32.ofInt ((k.2.2.2.headD (0, 0)).1) = v) (h : xWp (xT0, xSp xT0 d, sc, M, E) (pc + 2) lv (.int v :: st) f cu su) : xWp (xT0, xSp xT0 d, sc, M, E) pc lv st f cu su := xs hk (by subst hv; exact h)
theorem s_lc {z : Fin 2} (v : Int64) (hk : xlk (xm_cd M) pc = some (.lconst z, n, k)) (hv : Int64.ofNat z.val = v) (h : xWp (xT0, xSp xT0 d, sc, M, E) (pc + 1) lv (.long v :: st) f cu su) : xWp (xT0, xSp xT0 d, sc, M, E) pc lv st f cu su := xs hk (by subst hv; exact h)
theorem s_ldc2 {j : Nat} (v : Int64) (hk : xlk (xm_cd M) pc = some (.ldc2_w j, n, k)) (hv : Int64.ofInt ((k.2.2.2.headD (0, 0)).1) = v) (h : xWp (xT0, xSp xT0 d, sc, M, E) (pc + 3) lv (.long v :: st) f cu su) : xWp (xT0, xSp xT0 d, sc, M, E) pc lv st f cu su := xs hk (by subst hv; exact h)
theorem s_i2l {x : Int32} (hk : xlk (xm_cd M) pc = some (.i2l, n, k)) (h : xWp (xT0, xSp xT0 d, sc, M, E) (pc + 1) lv (.long x.toInt64 :: st) f cu su) : xWp (xT0, xSp xT0 d, sc, M, E) pc lv (.int x :: st) f cu su := xs hk h
theorem s_iln {j : Fin 4} {x : Int32} (hk : xlk (xm_cd M) pc = some (.iload_n j, n, k)) (hl : lv[j.val]? = some (some (.int x))) (h : xWp (xT0, xSp xT0 d, sc, M, E) (pc + 1) lv (.int x :: st) f cu su) : xWp (xT0, xSp xT0 d, sc, M, E) pc lv st f cu su := xs hk (by unfold xstep; show xli lv _ _; unfold xli; rw [hl]; exact h)
theorem s_il {j : Nat} {x : Int32} (hk : xlk (xm_cd M) pc = some (.iload j, n, k)) (hl : lv[j]? = some (some (.int x))) (h : xWp (xT0, xSp xT0 d, sc, M, E) (pc + 2) lv (.int x :: st) f cu su) : xWp (xT0, xSp xT0 d, sc, M, E) pc lv st f cu su := xs hk (by unfold xstep; show xli lv _ _; unfold xli; rw [hl]; exact h)
theorem s_aln {j : Fin 4} {x : Nat} (hk : xlk (xm_cd M) pc = some (.aload_n j, n, k)) (hl : lv[j.val]? = some (some (.ref x))) (h : xWp (xT0, xSp xT0 d, sc, M, E) (pc + 1) lv (.ref x :: st) f cu su) : xWp (xT0, xSp xT0 d, sc, M, E) pc lv st f cu su := xs hk (by unfold xstep; show xla lv _ _; unfold xla; rw [hl]; exact h)
theorem s_al {j : Nat} {x : Nat} (hk : xlk (xm_cd M) pc = some (.aload j, n, k)) (hl : lv[j]? = some (some (.ref x))) (h : xWp (xT0, xSp xT0 d, sc, M, E) (pc + 2) lv (.ref x :: st) f cu su) : xWp (xT0, xSp xT0 d, sc, M, E) pc lv st f cu su := xs hk (by unfold xstep; show xla lv _ _; unfold xla; rw [hl]; exact h)
theorem s_isn {j : Fin 4} {x : Int32} (hk : xlk (xm_cd M) pc = some (.istore_n j, n, k)) (hl : j.val < lv.length) (h : xWp (xT0, xSp xT0 d, sc, M, E) (pc + 1) (lv.set j.val (some (.int x))) st f cu su) : xWp (xT0, xSp xT0 d, sc, M, E) pc lv (.int x :: st) f cu su := xs hk ⟨hl, h⟩
theorem s_is {j : Nat} {x : Int32} (hk : xlk (xm_cd M) pc = some (.istore j, n, k)) (hl : j < lv.length) (h : xWp (xT0, xSp xT0 d, sc, M, E) (pc + 2) (lv.set j (some (.int x))) st f cu su) : xWp (xT0, xSp xT0 d, sc, M, E) pc lv (.int x :: st) f cu su := xs hk ⟨hl, h⟩
theorem s_asn {j : Fin 4} {x : Nat} (hk : xlk (xm_cd M) pc = some (.astore_n j, n, k)) (hl : j.val < lv.length) (h : xWp (xT0, xSp xT0 d, sc, M, E) (pc + 1) (lv.set j.val (some (.ref x))) st f cu su) : xWp (xT0, xSp xT0 d, sc, M, E) pc lv (.ref x :: st) f cu su := xs hk ⟨hl, h⟩
theorem s_as {j : Nat} {x : Nat} (hk : xlk (xm_cd M) pc = some (.astore j, n, k)) (hl : j < lv.length) (h : xWp (xT0, xSp xT0 d, sc, M, E) (pc + 2) (lv.set j (some (.ref x))) st f cu su) : xWp (xT0, xSp xT0 d, sc, M, E) pc lv (.ref x :: st) f cu su := xs hk ⟨hl, h⟩
theorem s_inc {j : Nat} {z : Int} {x : Int32} (v : Int32) (hk : xlk (xm_cd M) pc = some (.iinc j z, n, k)) (hl : lv[j]? = some (some (.int x))) (hv : Int32.ofInt z = v) (h : xWp (xT0, xSp xT0 d, sc, M, E) (pc + 3) (lv.set j (some (.int (x + v)))) st f cu su) : xWp (xT0, xSp xT0 d, sc, M, E) pc lv st f cu su := xs hk (by subst hv; unfold xstep; show xli lv _ _; unfold xli; rw [hl]; exact h)
theorem s_iadd {x y : Int32} (hk : xlk (xm_cd M) pc = some (.iadd, n, k)) (h : xWp (xT0, xSp xT0 d, sc, M, E) (pc + 1) lv (.int (x + y) :: st) f cu su) : xWp (xT0, xSp xT0 d, sc, M, E) pc lv (.int y :: .int x :: st) f cu su := xs hk h
theorem s_isub {x y : Int32} (hk : xlk (xm_cd M) pc = some (.isub, n, k)) (h : xWp (xT0, xSp xT0 d, sc, M, E) (pc + 1) lv (.int (x - y) :: st) f cu su) : xWp (xT0, xSp xT0 d, sc, M, E) pc lv (.int y :: .int x :: st) f cu su := xs hk h
theorem s_imul {x y : Int32} (hk : xlk (xm_cd M) pc = some (.imul, n, k)) (h : xWp (xT0, xSp xT0 d, sc, M, E) (pc + 1) lv (.int (x * y) :: st) f cu su) : xWp (xT0, xSp xT0 d, sc, M, E) pc lv (.int y :: .int x :: st) f cu su := xs hk h
theorem s_iand {x y : Int32} (hk : xlk (xm_cd M) pc = some (.iand, n, k)) (h : xWp (xT0, xSp xT0 d, sc, M, E) (pc + 1) lv (.int (x &&& y) :: st) f cu su) : xWp (xT0, xSp xT0 d, sc, M, E) pc lv (.int y :: .int x :: st) f cu su := xs hk h
theorem s_ior {x y : Int32} (hk : xlk (xm_cd M) pc = some (.ior, n, k)) (h : xWp (xT0, xSp xT0 d, sc, M, E) (pc + 1) lv (.int (x ||| y) :: st) f cu su) : xWp (xT0, xSp xT0 d, sc, M, E) pc lv (.int y :: .int x :: st) f cu su := xs hk h
theorem s_ixor {x y : Int32} (hk : xlk (xm_cd M) pc = some (.ixor, n, k)) (h : xWp (xT0, xSp xT0 d, sc, M, E) (pc + 1) lv (.int (x ^^^ y) :: st) f cu su) : xWp (xT0, xSp xT0 d, sc, M, E) pc lv (.int y :: .int x :: st) f cu su := xs hk h
theorem s_ishl {x y : Int32} (hk : xlk (xm_cd M) pc = some (.ishl, n, k)) (h : xWp (xT0, xSp xT0 d, sc, M, E) (pc + 1) lv (.int (x <<< (y &&& 31)) :: st) f cu su) : xWp (xT0, xSp xT0 d, sc, M, E) pc lv (.int y :: .int x :: st) f cu su := xs hk h
theorem s_ishr {x y : Int32} (hk : xlk (xm_cd M) pc = some (.ishr, n, k)) (h : xWp (xT0, xSp xT0 d, sc, M, E) (pc + 1) lv (.int (x >>> (y &&& 31)) :: st) f cu su) : xWp (xT0, xSp xT0 d, sc, M, E) pc lv (.int y :: .int x :: st) f cu su := xs hk h
theorem s_iushr {x y : Int32} (hk : xlk (xm_cd M) pc = some (.iushr, n, k)) (h : xWp (xT0, xSp xT0 d, sc, M, E) (pc + 1) lv (.int (x.toUInt32 >>> (y.toUInt32 &&& Int32.toUInt32 31)).toInt32 :: st) f cu su) : xWp (xT0, xSp xT0 d, sc, M, E) pc lv (.int y :: .int x :: st) f cu su := xs hk h
theorem s_div {x y : Int32} (hk : xlk (xm_cd M) pc = some (.idiv, n, k)) (h : ¬ y = 0 ∧ xWp (xT0, xSp xT0 d, sc, M, E) (pc + 1) lv (.int (x / y) :: st) f cu su) : xWp (xT0, xSp xT0 d, sc, M, E) pc lv (.int y :: .int x :: st) f cu su := xs hk h
theorem s_rem {x y : Int32} (hk : xlk (xm_cd M) pc = some (.irem, n, k)) (h : ¬ y = 0 ∧ xWp (xT0, xSp xT0 d, sc, M, E) (pc + 1) lv (.int (x - x / y * y) :: st) f cu su) : xWp (xT0, xSp xT0 d, sc, M, E) pc lv (.int y :: .int x :: st) f cu su := xs hk h
theorem s_ineg {x : Int32} (hk : xlk (xm_cd M) pc = some (.ineg, n, k)) (h : xWp (xT0, xSp xT0 d, sc, M, E) (pc + 1) lv (.int (-x) :: st) f cu su) : xWp (xT0, xSp xT0 d, sc, M, E) pc lv (.int x :: st) f cu su := xs hk h
theorem s_i2b {x : Int32} (hk : xlk (xm_cd M) pc = some (.i2b, n, k)) (h : xWp (xT0, xSp xT0 d, sc, M, E) (pc + 1) lv (.int x.toInt8.toInt32 :: st) f cu su) : xWp (xT0, xSp xT0 d, sc, M, E) pc lv (.int x :: st) f cu su := xs hk h
theorem s_dup {v : Value} (hk : xlk (xm_cd M) pc = some (.dup, n, k)) (hv : v.category = 1) (h : xWp (xT0, xSp xT0 d, sc, M, E) (pc + 1) lv (v :: v :: st) f cu su) : xWp (xT0, xSp xT0 d, sc, M, E) pc lv (v :: st) f cu su := xs hk ⟨hv, h⟩
theorem s_pop {v : Value} (hk : xlk (xm_cd M) pc = some (.pop, n, k)) (hv : v.category = 1) (h : xWp (xT0, xSp xT0 d, sc, M, E) (pc + 1) lv st f cu su) : xWp (xT0, xSp xT0 d, sc, M, E) pc lv (v :: st) f cu su := xs hk ⟨hv, h⟩
theorem s_dup2 {v w : Value} (hk : xlk (xm_cd M) pc = some (.dup2, n, k)) (hv : v.category = 1) (hw : w.category = 1) (h : xWp (xT0, xSp xT0 d, sc, M, E) (pc + 1) lv (v :: w :: v :: w :: st) f cu su) : xWp (xT0, xSp xT0 d, sc, M, E) pc lv (v :: w :: st) f cu su := xs hk ⟨hv, hw, h⟩
theorem s_goto {o : Int} (hk : xlk (xm_cd M) pc = some (.goto o, n, k)) (h : xWp (xT0, xSp xT0 d, sc, M, E) k.2.1 lv st f cu su) : xWp (xT0, xSp xT0 d, sc, M, E) pc lv st f cu su := xs hk h
theorem s_if {c : ClassFile.Cond} {o : Int} {x : Int32} {A B : Prop} (hk : xlk (xm_cd M) pc = some (.ifCond c o, n, k)) (h : xbr (xif c x 0) A B) (hA : A → xWp (xT0, xSp xT0 d, sc, M, E) k.2.1 lv st f cu su) (hB : B → xWp (xT0, xSp xT0 d, sc, M, E) (pc + 3) lv st f cu su) : xWp (xT0, xSp xT0 d, sc, M, E) pc lv (.int x :: st) f cu su := xs hk ⟨fun q => hA (h.1 q), fun q => hB (h.2 q)⟩
theorem s_ifc {c : ClassFile.Cond} {o : Int} {x y : Int32} {A B : Prop} (hk : xlk (xm_cd M) pc = some (.if_icmp c o, n, k)) (h : xbr (xif c x y) A B) (hA : A → xWp (xT0, xSp xT0 d, sc, M, E) k.2.1 lv st f cu su) (hB : B → xWp (xT0, xSp xT0 d, sc, M, E) (pc + 3) lv st f cu su) : xWp (xT0, xSp xT0 d, sc, M, E) pc lv (.int y :: .int x :: st) f cu su := xs hk ⟨fun q => hA (h.1 q), fun q => hB (h.2 q)⟩
theorem s_ts {dd lo hi : Int} {os : Array Int} {x : Int32} (hk : xlk (xm_cd M) pc = some (.tableswitch dd lo hi os, n, k)) (h : xsel x k.2.1 (fun q => xWp (xT0, xSp xT0 d, sc, M, E) q lv st f cu su) k.2.2.2) : xWp (xT0, xSp xT0 d, sc, M, E) pc lv (.int x :: st) f cu su := xs hk h
theorem s_ls {dd : Int} {ps : Array (Int × Int)} {x : Int32} (hk : xlk (xm_cd M) pc = some (.lookupswitch dd ps, n, k)) (h : xsel x k.2.1 (fun q => xWp (xT0, xSp xT0 d, sc, M, E) q lv st f cu su) k.2.2.2) : xWp (xT0, xSp xT0 d, sc, M, E) pc lv (.int x :: st) f cu su := xs hk h
theorem s_iret {x : Int32} (hk : xlk (xm_cd M) pc = some (.ireturn, n, k)) (hr : xm_rt M = some .int) (hf : cu ≤ xm_mc M ∧ su ≤ xm_ms M) (h : E (some (.int x)) f) : xWp (xT0, xSp xT0 d, sc, M, E) pc lv [.int x] f cu su := xs hk ⟨rfl, hf, by unfold xrt; dsimp only [xgM]; rw [hr]; exact h⟩
theorem s_zret {x : Int32} (hk : xlk (xm_cd M) pc = some (.ireturn, n, k)) (hr : xm_rt M = some .boolean) (hf : cu ≤ xm_mc M ∧ su ≤ xm_ms M) (h : (x = 0 ∨ x = 1) ∧ E (some (.int x)) f) : xWp (xT0, xSp xT0 d, sc, M, E) pc lv [.int x] f cu su := xs hk ⟨rfl, hf, by unfold xrt; dsimp only [xgM]; rw [hr]; exact h⟩
theorem s_aret {x : Nat} (hk : xlk (xm_cd M) pc = some (.areturn, n, k)) (hf : cu ≤ xm_mc M ∧ su ≤ xm_ms M) (h : E (some (.ref x)) f) : xWp (xT0, xSp xT0 d, sc, M, E) pc lv [.ref x] f cu su := xs hk ⟨rfl, hf, h⟩
theorem s_ret (hk : xlk (xm_cd M) pc = some (.return_, n, k)) (hf : cu ≤ xm_mc M ∧ su ≤ xm_ms M) (h : E none f) : xWp (xT0, xSp xT0 d, sc, M, E) pc lv [] f cu su := xs hk ⟨rfl, hf, h⟩
theorem s_gi {j a : Nat} {K : Int32 → Prop} (hk : xlk (xm_cd M) pc = some (.getfield j, n, k)) (h : xgi f a k.2.1 k.2.2.1 K) (q : ∀ v, K v → xWp (xT0, xSp xT0 d, sc, M, E) (pc + 3) lv (.int v :: st) f cu su) : xWp (xT0, xSp xT0 d, sc, M, E) pc lv (.ref a :: st) f cu su := by
  obtain ⟨fs, x, h1, h2, h3⟩ := xgi_e h
  refine xs hk ?_
  show xob f a k.2.1 (fun fs => xfd fs k.2.2.1 (fun v => xWp (xT0, xSp xT0 d, sc, M, E) (pc + 3) lv (v :: st) f cu su))
  unfold xob
  rw [h1]
  refine ⟨rfl, ?_⟩
  show xfd fs k.2.2.1 _
  unfold xfd
  rw [h2]
  exact q _ h3
theorem s_gr {j a : Nat} {K : Nat → Prop} (hk : xlk (xm_cd M) pc = some (.getfield j, n, k)) (h : xgr f a k.2.1 k.2.2.1 K) (q : ∀ v, K v → xWp (xT0, xSp xT0 d, sc, M, E) (pc + 3) lv (.ref v :: st) f cu su) : xWp (xT0, xSp xT0 d, sc, M, E) pc lv (.ref a :: st) f cu su := by
  obtain ⟨fs, x, h1, h2, h3⟩ := xgr_e h
  refine xs hk ?_
  show xob f a k.2.1 (fun fs => xfd fs k.2.2.1 (fun v => xWp (xT0, xSp xT0 d, sc, M, E) (pc + 3) lv (v :: st) f cu su))
  unfold xob
  rw [h1]
  refine ⟨rfl, ?_⟩
  show xfd fs k.2.2.1 _
  unfold xfd
  rw [h2]
  exact q _ h3
theorem s_pf {j a : Nat} {v : Value} {K : xH → Prop} (hk : xlk (xm_cd M) pc = some (.putfield j, n, k)) (ht : xft ((k.2.2.2.headD (0, 9)).2) v) (h : xpf f a k.2.1 k.2.2.1 v K) (q : ∀ f', K f' → xWp (xT0, xSp xT0 d, sc, M, E) (pc + 3) lv st f' cu su) : xWp (xT0, xSp xT0 d, sc, M, E) pc lv (v :: .ref a :: st) f cu su := by
  obtain ⟨fs, h1, h2, h3⟩ := xpf_e h
  refine xs hk ?_
  show xob f a k.2.1 (fun fs => k.2.2.1 < fs.length ∧ xft ((k.2.2.2.headD (0, 9)).2) v ∧ xWp (xT0, xSp xT0 d, sc, M, E) (pc + 3) lv st (xup f a (xO k.2.1 (fs.set k.2.2.1 v))) cu su)
  unfold xob
  rw [h1]
  exact ⟨rfl, h2, ht, q _ h3⟩
theorem s_len {a : Nat} {K : Int32 → Prop} (hk : xlk (xm_cd M) pc = some (.arraylength, n, k)) (hs : sc = none) (h : xle f a k.2.1 K) (q : ∀ v, K v → xWp (xT0, xSp xT0 d, sc, M, E) (pc + 1) lv (.int v :: st) f cu su) : xWp (xT0, xSp xT0 d, sc, M, E) pc lv (.ref a :: st) f cu su := by
  refine xs hk ?_
  subst hs
  unfold xstep
  show xan f a (fun t n => t = k.2.1 ∧ xWp (xT0, xSp xT0 d, none, M, E) (pc + 1) lv (.int (Int32.ofNat n) :: st) f cu su)
  unfold xle at h
  unfold xan
  cases hfa : f a with
  | none => rw [hfa] at h; exact h.elim
  | some c =>
    rw [hfa] at h
    rcases c with ⟨t, n, g⟩ | ⟨t, n, g⟩ | ⟨ci, fs⟩
    · exact ⟨h.1, q _ h.2⟩
    · exact ⟨h.1, q _ h.2⟩
    · exact h.elim
theorem s_ial {a : Nat} {i : Int32} {K : Int32 → Prop} (hk : xlk (xm_cd M) pc = some (.iaload, n, k)) (hs : sc = none) (h : xal f a 0 i K) (q : ∀ v, K v → xWp (xT0, xSp xT0 d, sc, M, E) (pc + 1) lv (.int v :: st) f cu su) : xWp (xT0, xSp xT0 d, sc, M, E) pc lv (.int i :: .ref a :: st) f cu su := by
  obtain ⟨m, g, h1, h2, h3⟩ := xal_e h
  refine xs hk ?_
  subst hs
  show xin f a (fun t n g => t = 0 ∧ vp_in i n ∧ xWp (xT0, xSp xT0 d, none, M, E) (pc + 1) lv (.int (g i.toNatClampNeg) :: st) f cu su)
  unfold xin
  rw [h1]
  exact ⟨rfl, h2, q _ h3⟩
theorem s_bal {a t : Nat} {i : Int32} {K : Int32 → Prop} (hk : xlk (xm_cd M) pc = some (.baload, n, k)) (ht : t = 1 ∨ t = 2) (h : xal f a t i K) (q : ∀ v, K v → xWp (xT0, xSp xT0 d, sc, M, E) (pc + 1) lv (.int v :: st) f cu su) : xWp (xT0, xSp xT0 d, sc, M, E) pc lv (.int i :: .ref a :: st) f cu su := by
  obtain ⟨m, g, h1, h2, h3⟩ := xal_e h
  refine xs hk ?_
  show xin f a (fun t n g => (t = 1 ∨ t = 2) ∧ vp_in i n ∧ xWp (xT0, xSp xT0 d, sc, M, E) (pc + 1) lv (.int (g i.toNatClampNeg) :: st) f cu su)
  unfold xin
  rw [h1]
  exact ⟨ht, h2, q _ h3⟩
theorem s_iast {a : Nat} {i x : Int32} {K : xH → Prop} (hk : xlk (xm_cd M) pc = some (.iastore, n, k)) (h : xas f a 0 i x K) (q : ∀ f', K f' → xWp (xT0, xSp xT0 d, sc, M, E) (pc + 1) lv st f' cu su) : xWp (xT0, xSp xT0 d, sc, M, E) pc lv (.int x :: .int i :: .ref a :: st) f cu su := by
  obtain ⟨m, g, h1, h2, h3⟩ := xas_e h
  refine xs hk ?_
  show xin f a (fun t n g => t = 0 ∧ vp_in i n ∧ xWp (xT0, xSp xT0 d, sc, M, E) (pc + 1) lv st (xup f a (xI t n (upd g i.toNatClampNeg x))) cu su)
  unfold xin
  rw [h1]
  exact ⟨rfl, h2, q _ h3⟩
/-- into booleans: 0 or 1 -/
theorem s_zast {a : Nat} {i x : Int32} {K : xH → Prop} (hk : xlk (xm_cd M) pc = some (.bastore, n, k)) (h : (x = 0 ∨ x = 1) ∧ xas f a 1 i x K) (q : ∀ f', K f' → xWp (xT0, xSp xT0 d, sc, M, E) (pc + 1) lv st f' cu su) : xWp (xT0, xSp xT0 d, sc, M, E) pc lv (.int x :: .int i :: .ref a :: st) f cu su := by
  obtain ⟨hx, h⟩ := h
  obtain ⟨m, g, h1, h2, h3⟩ := xas_e h
  refine xs hk ?_
  show xin f a (fun t n g => vp_in i n ∧ xbs t x (fun y => xWp (xT0, xSp xT0 d, sc, M, E) (pc + 1) lv st (xup f a (xI t n (upd g i.toNatClampNeg y))) cu su))
  unfold xin
  rw [h1]
  exact ⟨h2, hx, q _ h3⟩
/-- into bytes: the lowest eight bits -/
theorem s_bast {a : Nat} {i x : Int32} {K : xH → Prop} (hk : xlk (xm_cd M) pc = some (.bastore, n, k)) (h : xas f a 2 i x.toInt8.toInt32 K) (q : ∀ f', K f' → xWp (xT0, xSp xT0 d, sc, M, E) (pc + 1) lv st f' cu su) : xWp (xT0, xSp xT0 d, sc, M, E) pc lv (.int x :: .int i :: .ref a :: st) f cu su := by
  obtain ⟨m, g, h1, h2, h3⟩ := xas_e h
  refine xs hk ?_
  show xin f a (fun t n g => vp_in i n ∧ xbs t x (fun y => xWp (xT0, xSp xT0 d, sc, M, E) (pc + 1) lv st (xup f a (xI t n (upd g i.toNatClampNeg y))) cu su))
  unfold xin
  rw [h1]
  exact ⟨h2, q _ h3⟩
theorem s_aal {a : Nat} {i : Int32} {K : Nat → Prop} (hk : xlk (xm_cd M) pc = some (.aaload, n, k)) (h : xrl f a k.2.1 i K) (q : ∀ v, K v → xWp (xT0, xSp xT0 d, sc, M, E) (pc + 1) lv (.ref v :: st) f cu su) : xWp (xT0, xSp xT0 d, sc, M, E) pc lv (.int i :: .ref a :: st) f cu su := by
  obtain ⟨m, g, y, h1, h2, h4, h3⟩ := xrl_e h
  refine xs hk ?_
  show xre f a (fun t n g => t = k.2.1 ∧ vp_in i n ∧ xWp (xT0, xSp xT0 d, sc, M, E) (pc + 1) lv (va_rf (g i.toNatClampNeg) :: st) f cu su)
  unfold xre
  rw [h1]
  refine ⟨rfl, h2, ?_⟩
  rw [h4]
  exact q _ h3
theorem s_aast {a v : Nat} {i : Int32} {K : xH → Prop} (hk : xlk (xm_cd M) pc = some (.aastore, n, k)) (h : xrs f a k.2.1 k.2.2.1 i v K) (q : ∀ f', K f' → xWp (xT0, xSp xT0 d, sc, M, E) (pc + 1) lv st f' cu su) : xWp (xT0, xSp xT0 d, sc, M, E) pc lv (.ref v :: .int i :: .ref a :: st) f cu su := by
  obtain ⟨m, g, h1, h2, h4, h3⟩ := xrs_e h
  refine xs hk ?_
  unfold xstep
  show xre f a (fun t n g => t = k.2.1 ∧ vp_in i n ∧ xis f (some v) k.2.2.1 ∧ xWp (xT0, xSp xT0 d, sc, M, E) (pc + 1) lv st (xup f a (xR t n (va_up g i.toNatClampNeg (some v)))) cu su)
  unfold xre
  rw [h1]
  exact ⟨rfl, h2, h4, q _ h3⟩
theorem s_min {j p b q : Nat} {x y : Int32} (hk : xlk (xm_cd M) pc = some (.invokestatic j, n, (p, b, q, [(2, 0)]))) (hl : (st.map fun v => v.category).sum ≤ 8) (hf : cu ≤ xm_mc M ∧ su ≤ xm_ms M) (h : xWp (xT0, xSp xT0 d, sc, M, E) (pc + 3) lv (.int (if y < x then y else x) :: st) f cu su) : xWp (xT0, xSp xT0 d, sc, M, E) pc lv (.int y :: .int x :: st) f cu su := xs hk ⟨hl, hf, h⟩
theorem s_max {j p b q : Nat} {x y : Int32} (hk : xlk (xm_cd M) pc = some (.invokestatic j, n, (p, b, q, [(2, 1)]))) (hl : (st.map fun v => v.category).sum ≤ 8) (hf : cu ≤ xm_mc M ∧ su ≤ xm_ms M) (h : xWp (xT0, xSp xT0 d, sc, M, E) (pc + 3) lv (.int (if x < y then y else x) :: st) f cu su) : xWp (xT0, xSp xT0 d, sc, M, E) pc lv (.int y :: .int x :: st) f cu su := xs hk ⟨hl, hf, h⟩
theorem s_in {j p b q : Nat} {x lo hi : Int64} (hk : xlk (xm_cd M) pc = some (.invokestatic j, n, (p, b, q, [(2, 2)]))) (hl : (st.map fun v => v.category).sum ≤ 8) (hf : cu ≤ xm_mc M ∧ su ≤ xm_ms M) (h : xWp (xT0, xSp xT0 d, sc, M, E) (pc + 3) lv (.int (if lo ≤ x ∧ x ≤ hi then 1 else 0) :: st) f cu su) : xWp (xT0, xSp xT0 d, sc, M, E) pc lv (.long hi :: .long lo :: .long x :: st) f cu su := xs hk ⟨hl, hf, h⟩
/-- a call of a method that makes nothing -/
theorem s_cv {j a : Nat} {N : xM} {As r : List Value} {p : Nat} {b : Nat} {K : Option Value → xH → Prop} (hk : xlk (xm_cd M) pc = some (.invokevirtual j, n, (p, b, As.length, []))) (hT : xT0 b = some N) (hN : xm_mc N = 0 ∧ xm_ms N = 0) (hs : st = As.reverse ++ .ref a :: r) (hr : (r.map fun v => v.category).sum ≤ 8) (hc : (.ref a :: As).all (fun v => v.category == 1) = true) (hf : cu ≤ xm_mc M ∧ su ≤ xm_ms M)
    (h : (∃ fs, f a = some (xO (xm_ci N) fs)) ∧ xSp xT0 d b (.ref a :: As) f K) (q : ∀ v f', K v f' → xWp (xT0, xSp xT0 d, sc, M, E) (pc + 3) lv (v.toList ++ r) f' cu su) : xWp (xT0, xSp xT0 d, sc, M, E) pc lv st f cu su := by
  refine xs hk ?_
  have hlen : st.length = As.length + 1 + r.length := by rw [hs]; simp; omega
  have ht : (st.take (As.length + 1)).reverse = .ref a :: As := by
    rw [hs, show As.reverse ++ .ref a :: r = (As.reverse ++ [.ref a]) ++ r by simp, List.take_append_of_le_length (by simp), List.take_of_length_le (by simp), List.reverse_append, List.reverse_reverse]
    rfl
  have hd : st.drop (As.length + 1) = r := by
    rw [hs, show As.reverse ++ .ref a :: r = (As.reverse ++ [.ref a]) ++ r by simp, List.drop_append_of_le_length (by simp), List.drop_of_length_le (by simp)]
    rfl
  refine ⟨by show As.length + 1 ≤ st.length; omega, ?_⟩
  show xrc (xT0, xSp xT0 d, sc, M, E) b (st.take (As.length + 1)).reverse f ∧ xcl (xT0, xSp xT0 d, sc, M, E) _ b (st.take (As.length + 1)).reverse (st.drop (As.length + 1)) pc lv f cu su
  rw [ht, hd]
  unfold xrc xcl
  dsimp only [xgT, xgM, xgC]
  rw [hT]
  refine ⟨h.1, hr, hc, ?_, ?_, ?_⟩
  · rw [hN.1]; exact hf.1
  · rw [hN.2]; exact hf.2
  · rw [hN.1, hN.2]
    exact xSp_mono xT0 d d (Nat.le_refl _) _ _ _ _ _ q h.2
theorem s_cs {j : Nat} {N : xM} {As r : List Value} {p : Nat} {b : Nat} {K : Option Value → xH → Prop} (hk : xlk (xm_cd M) pc = some (.invokestatic j, n, (p, b, As.length, []))) (hT : xT0 b = some N) (hN : xm_mc N = 0 ∧ xm_ms N = 0) (hs : st = As.reverse ++ r) (hr : (r.map fun v => v.category).sum ≤ 8) (hc : As.all (fun v => v.category == 1) = true) (hf : cu ≤ xm_mc M ∧ su ≤ xm_ms M)
    (h : xSp xT0 d b As f K) (q : ∀ v f', K v f' → xWp (xT0, xSp xT0 d, sc, M, E) (pc + 3) lv (v.toList ++ r) f' cu su) : xWp (xT0, xSp xT0 d, sc, M, E) pc lv st f cu su := by
  refine xs hk ?_
  have hlen : st.length = As.length + r.length := by rw [hs]; simp
  have ht : (st.take As.length).reverse = As := by
    rw [hs, List.take_append_of_le_length (by simp), List.take_of_length_le (by simp), List.reverse_reverse]
  have hd : st.drop As.length = r := by
    rw [hs, List.drop_append_of_le_length (by simp), List.drop_of_length_le (by simp)]
    rfl
  refine ⟨by show As.length ≤ st.length; omega, ?_⟩
  show xcl (xT0, xSp xT0 d, sc, M, E) _ b (st.take As.length).reverse (st.drop As.length) pc lv f cu su
  rw [ht, hd]
  unfold xcl
  dsimp only [xgT, xgM, xgC]
  rw [hT]
  refine ⟨hr, hc, ?_, ?_, ?_⟩
  · rw [hN.1]; exact hf.1
  · rw [hN.2]; exact hf.2
  · rw [hN.1, hN.2]
    exact xSp_mono xT0 d d (Nat.le_refl _) _ _ _ _ _ q h
theorem s_cvi {j a : Nat} {N : xM} {As r : List Value} {p : Nat} {b : Nat} {K : Int32 → xH → Prop} (hk : xlk (xm_cd M) pc = some (.invokevirtual j, n, (p, b, As.length, []))) (hT : xT0 b = some N) (hN : xm_mc N = 0 ∧ xm_ms N = 0) (hs : st = As.reverse ++ .ref a :: r) (hr : (r.map fun v => v.category).sum ≤ 8) (hc : (.ref a :: As).all (fun v => v.category == 1) = true) (hf : cu ≤ xm_mc M ∧ su ≤ xm_ms M)
    (h : (∃ fs, f a = some (xO (xm_ci N) fs)) ∧ xSp xT0 d b (.ref a :: As) f (fun w f' => xvi w (fun x => K x f'))) (q : ∀ x f', K x f' → xWp (xT0, xSp xT0 d, sc, M, E) (pc + 3) lv (.int x :: r) f' cu su) : xWp (xT0, xSp xT0 d, sc, M, E) pc lv st f cu su := by
  refine s_cv hk hT hN hs hr hc hf h (fun w f' hw => ?_)
  revert hw
  unfold xvi
  split
  · exact fun hw => q _ _ hw
  · exact fun hw => hw.elim
theorem s_cvr {j a : Nat} {N : xM} {As r : List Value} {p : Nat} {b : Nat} {K : Nat → xH → Prop} (hk : xlk (xm_cd M) pc = some (.invokevirtual j, n, (p, b, As.length, []))) (hT : xT0 b = some N) (hN : xm_mc N = 0 ∧ xm_ms N = 0) (hs : st = As.reverse ++ .ref a :: r) (hr : (r.map fun v => v.category).sum ≤ 8) (hc : (.ref a :: As).all (fun v => v.category == 1) = true) (hf : cu ≤ xm_mc M ∧ su ≤ xm_ms M)
    (h : (∃ fs, f a = some (xO (xm_ci N) fs)) ∧ xSp xT0 d b (.ref a :: As) f (fun w f' => xvr w (fun x => K x f'))) (q : ∀ x f', K x f' → xWp (xT0, xSp xT0 d, sc, M, E) (pc + 3) lv (.ref x :: r) f' cu su) : xWp (xT0, xSp xT0 d, sc, M, E) pc lv st f cu su := by
  refine s_cv hk hT hN hs hr hc hf h (fun w f' hw => ?_)
  revert hw
  unfold xvr
  split
  · exact fun hw => q _ _ hw
  · exact fun hw => hw.elim
theorem s_cvv {j a : Nat} {N : xM} {As r : List Value} {p : Nat} {b : Nat} {K : xH → Prop} (hk : xlk (xm_cd M) pc = some (.invokevirtual j, n, (p, b, As.length, []))) (hT : xT0 b = some N) (hN : xm_mc N = 0 ∧ xm_ms N = 0) (hs : st = As.reverse ++ .ref a :: r) (hr : (r.map fun v => v.category).sum ≤ 8) (hc : (.ref a :: As).all (fun v => v.category == 1) = true) (hf : cu ≤ xm_mc M ∧ su ≤ xm_ms M)
    (h : (∃ fs, f a = some (xO (xm_ci N) fs)) ∧ xSp xT0 d b (.ref a :: As) f (fun w f' => xvv w (K f'))) (q : ∀ f', K f' → xWp (xT0, xSp xT0 d, sc, M, E) (pc + 3) lv r f' cu su) : xWp (xT0, xSp xT0 d, sc, M, E) pc lv st f cu su := by
  refine s_cv hk hT hN hs hr hc hf h (fun w f' hw => ?_)
  revert hw
  unfold xvv
  split
  · exact fun hw => q _ hw
  · exact fun hw => hw.elim
theorem s_csi {j : Nat} {N : xM} {As r : List Value} {p : Nat} {b : Nat} {K : Int32 → xH → Prop} (hk : xlk (xm_cd M) pc = some (.invokestatic j, n, (p, b, As.length, []))) (hT : xT0 b = some N) (hN : xm_mc N = 0 ∧ xm_ms N = 0) (hs : st = As.reverse ++ r) (hr : (r.map fun v => v.category).sum ≤ 8) (hc : As.all (fun v => v.category == 1) = true) (hf : cu ≤ xm_mc M ∧ su ≤ xm_ms M)
    (h : xSp xT0 d b As f (fun w f' => xvi w (fun x => K x f'))) (q : ∀ x f', K x f' → xWp (xT0, xSp xT0 d, sc, M, E) (pc + 3) lv (.int x :: r) f' cu su) : xWp (xT0, xSp xT0 d, sc, M, E) pc lv st f cu su := by
  refine s_cs hk hT hN hs hr hc hf h (fun w f' hw => ?_)
  revert hw
  unfold xvi
  split
  · exact fun hw => q _ _ hw
  · exact fun hw => hw.elim
theorem s_csr {j : Nat} {N : xM} {As r : List Value} {p : Nat} {b : Nat} {K : Nat → xH → Prop} (hk : xlk (xm_cd M) pc = some (.invokestatic j, n, (p, b, As.length, []))) (hT : xT0 b = some N) (hN : xm_mc N = 0 ∧ xm_ms N = 0) (hs : st = As.reverse ++ r) (hr : (r.map fun v => v.category).sum ≤ 8) (hc : As.all (fun v => v.category == 1) = true) (hf : cu ≤ xm_mc M ∧ su ≤ xm_ms M)
    (h : xSp xT0 d b As f (fun w f' => xvr w (fun x => K x f'))) (q : ∀ x f', K x f' → xWp (xT0, xSp xT0 d, sc, M, E) (pc + 3) lv (.ref x :: r) f' cu su) : xWp (xT0, xSp xT0 d, sc, M, E) pc lv st f cu su := by
  refine s_cs hk hT hN hs hr hc hf h (fun w f' hw => ?_)
  revert hw
  unfold xvr
  split
  · exact fun hw => q _ _ hw
  · exact fun hw => hw.elim
theorem s_csv {j : Nat} {N : xM} {As r : List Value} {p : Nat} {b : Nat} {K : xH → Prop} (hk : xlk (xm_cd M) pc = some (.invokestatic j, n, (p, b, As.length, []))) (hT : xT0 b = some N) (hN : xm_mc N = 0 ∧ xm_ms N = 0) (hs : st = As.reverse ++ r) (hr : (r.map fun v => v.category).sum ≤ 8) (hc : As.all (fun v => v.category == 1) = true) (hf : cu ≤ xm_mc M ∧ su ≤ xm_ms M)
    (h : xSp xT0 d b As f (fun w f' => xvv w (K f'))) (q : ∀ f', K f' → xWp (xT0, xSp xT0 d, sc, M, E) (pc + 3) lv r f' cu su) : xWp (xT0, xSp xT0 d, sc, M, E) pc lv st f cu su := by
  refine s_cs hk hT hN hs hr hc hf h (fun w f' hw => ?_)
  revert hw
  unfold xvv
  split
  · exact fun hw => q _ hw
  · exact fun hw => hw.elim
end
