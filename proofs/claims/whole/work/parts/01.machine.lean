/-! 01 THE MACHINE IN SMALL. A world is a partial map from addresses to cells; a method is a table of decoded instructions with their links; xWp is the least predicate that is closed under one instruction: 'from here the method comes to a return with E'. Nothing of it speaks of the real machine: part 02 ties the two once for all methods. -/
abbrev xC : Type := (Nat × Nat × (Nat → Int32)) ⊕ ((Nat × Nat × (Nat → Option Nat)) ⊕ (Nat × List Value))
abbrev xH : Type := Nat → Option xC
abbrev xL : Type := List (Option Value)
/-- an array of numbers: the number of its type, its length, its contents -/
abbrev xI (t n : Nat) (g : Nat → Int32) : xC := .inl (t, n, g)
/-- an array of references -/
abbrev xR (t n : Nat) (g : Nat → Option Nat) : xC := .inr (.inl (t, n, g))
/-- an object: the number of its class, its fields -/
abbrev xO (ci : Nat) (fs : List Value) : xC := .inr (.inr (ci, fs))
def xup (f : xH) (a : Nat) (e : xC) : xH := fun j => if j = a then some e else f j
theorem xup_s (f : xH) (a : Nat) (e : xC) : xup f a e a = some e := by simp [xup]
theorem xup_n (f : xH) {a b : Nat} (e : xC) (h : b ≠ a) : xup f a e b = f b := by simp [xup, h]
theorem xup_xup (f : xH) (a : Nat) (e e' : xC) : xup (xup f a e) a e' = xup f a e' := by
  funext j; simp only [xup]; split <;> rfl
theorem xup_id {f : xH} {a : Nat} {e : xC} (h : f a = some e) : xup f a e = f := by
  funext j; simp only [xup]; split
  · next h1 => rw [h1, h]
  · rfl
theorem xup_comm (f : xH) {a b : Nat} (e e' : xC) (h : a ≠ b) : xup (xup f a e) b e' = xup (xup f b e') a e := by
  funext j; simp only [xup]; split
  · next h1 => subst h1; rw [if_neg (fun q => h q.symm)]
  · rfl
/-- a link: the place of its word in the table of words; two numbers; keys and targets (a constant: its number is the first key) -/
abbrev xKk : Type := Nat × Nat × Nat × List (Int × Nat)
abbrev xE : Type := Nat × Instr × Nat × xKk
/-- name, bytes, locals, what it returns, (cells, slots) that it may make, the number of its class, its code -/
abbrev xM : Type := MethodName × ByteArray × Nat × Option FieldType × (Nat × Nat) × Nat × List xE
abbrev xm_nm (M : xM) : MethodName := M.1
abbrev xm_by (M : xM) : ByteArray := M.2.1
abbrev xm_ml (M : xM) : Nat := M.2.2.1
abbrev xm_rt (M : xM) : Option FieldType := M.2.2.2.1
abbrev xm_mc (M : xM) : Nat := M.2.2.2.2.1.1
abbrev xm_ms (M : xM) : Nat := M.2.2.2.2.1.2
abbrev xm_ci (M : xM) : Nat := M.2.2.2.2.2.1
abbrev xm_cd (M : xM) : List xE := M.2.2.2.2.2.2
def xlk : List xE → Nat → Option (Instr × Nat × xKk)
  | [], _ => none
  | e :: r, pc => if e.1 = pc then some e.2 else xlk r pc
theorem xlk_mem : ∀ {cd : List xE} {pc : Nat} {i : Instr} {n : Nat} {k : xKk}, xlk cd pc = some (i, n, k) → (pc, i, n, k) ∈ cd
  | [], _, _, _, _, h => by cases h
  | e :: r, pc, i, n, k, h => by
    unfold xlk at h
    by_cases hb : e.1 = pc
    · rw [if_pos hb] at h
      have h2 : e.2 = (i, n, k) := Option.some.inj h
      rw [← hb, ← h2]
      exact List.mem_cons_self
    · rw [if_neg hb] at h
      exact List.mem_cons_of_mem _ (xlk_mem h)
/-- pc, locals, stack, heap, cells and slots that were made -/
abbrev xK : Type := Nat → xL → List Value → xH → Nat → Nat → Prop
abbrev xCall : Type := Nat → List Value → xH → (Option Value → xH → Prop) → Prop
abbrev xT : Type := Nat → Option xM
/-- the script: an array that is no cell of the world -/
abbrev xS : Type := Option (Nat × Nat × (Nat → Int32))
-- what lies on the stack
def x1 (st : List Value) (k : Int32 → List Value → Prop) : Prop := match st with
  | .int x :: r => k x r
  | _ => False
def x2 (st : List Value) (k : Int32 → Int32 → List Value → Prop) : Prop := match st with
  | .int y :: .int x :: r => k x y r
  | _ => False
def xa (st : List Value) (k : Nat → List Value → Prop) : Prop := match st with
  | .ref a :: r => k a r
  | _ => False
def xia (st : List Value) (k : Int32 → Nat → List Value → Prop) : Prop := match st with
  | .int i :: .ref a :: r => k i a r
  | _ => False
def xva (st : List Value) (k : Value → Nat → List Value → Prop) : Prop := match st with
  | v :: .ref a :: r => k v a r
  | _ => False
def xiia (st : List Value) (k : Int32 → Int32 → Nat → List Value → Prop) : Prop := match st with
  | .int x :: .int i :: .ref a :: r => k x i a r
  | _ => False
def xvia (st : List Value) (k : Option Nat → Int32 → Nat → List Value → Prop) : Prop := match st with
  | .ref v :: .int i :: .ref a :: r => k (some v) i a r
  | .null :: .int i :: .ref a :: r => k none i a r
  | _ => False
def xo (st : List Value) (k : Option Nat → List Value → Prop) : Prop := match st with
  | .ref v :: r => k (some v) r
  | .null :: r => k none r
  | _ => False
def xoo (st : List Value) (k : Option Nat → Option Nat → List Value → Prop) : Prop := xo st (fun y r => xo r (fun x r => k x y r))
def xv (st : List Value) (k : Value → List Value → Prop) : Prop := match st with
  | v :: r => v.category = 1 ∧ k v r
  | _ => False
-- what lies in the locals
def xli (lv : xL) (i : Nat) (k : Int32 → Prop) : Prop := match lv[i]? with
  | some (some (.int x)) => k x
  | _ => False
def xla (lv : xL) (i : Nat) (k : Option Nat → Prop) : Prop := match lv[i]? with
  | some (some (.ref x)) => k (some x)
  | some (some .null) => k none
  | _ => False
-- what lies in the cells
def xob (f : xH) (a ci : Nat) (k : List Value → Prop) : Prop := match f a with
  | some (.inr (.inr (c, fs))) => c = ci ∧ k fs
  | _ => False
def xfd (fs : List Value) (j : Nat) (k : Value → Prop) : Prop := match fs[j]? with
  | some v => k v
  | none => False
def xin (f : xH) (a : Nat) (k : Nat → Nat → (Nat → Int32) → Prop) : Prop := match f a with
  | some (.inl (t, n, g)) => k t n g
  | _ => False
def xre (f : xH) (a : Nat) (k : Nat → Nat → (Nat → Option Nat) → Prop) : Prop := match f a with
  | some (.inr (.inl (t, n, g))) => k t n g
  | _ => False
/-- is the cell an object of class ci, or a null -/
def xis (f : xH) (v : Option Nat) (ci : Nat) : Prop := match v with
  | none => True
  | some a => ∃ fs, f a = some (xO ci fs)
/-- the script, or a cell -/
def xsc (sc : xS) (f : xH) (a : Nat) (k : Nat → Nat → (Nat → Int32) → Prop) : Prop := match sc with
  | some (b, n, g) => (a = b ∧ k 0 n g) ∨ (a ≠ b ∧ xin f a k)
  | none => xin f a k
def xan (f : xH) (a : Nat) (k : Nat → Nat → Prop) : Prop := match f a with
  | some (.inl (t, n, _)) => k t n
  | some (.inr (.inl (t, n, _))) => k t n
  | _ => False
def xln (sc : xS) (f : xH) (a : Nat) (k : Nat → Nat → Prop) : Prop := match sc with
  | some (b, n, _) => (a = b ∧ k 0 n) ∨ (a ≠ b ∧ xan f a k)
  | none => xan f a k
/-- fits a field: 0 int, 1 a reference, 2 boolean -/
def xft (t : Nat) (v : Value) : Prop := match t with
  | 0 => ∃ x, v = .int x
  | 1 => v = .null ∨ ∃ a, v = .ref a
  | 2 => v = .int 0 ∨ v = .int 1
  | _ => False
def xsel (x : Int32) (d : Nat) (k : Nat → Prop) : List (Int × Nat) → Prop
  | [] => k d
  | q :: r => (x = Int32.ofInt q.1 → k q.2) ∧ (¬ x = Int32.ofInt q.1 → xsel x d k r)
def xif (c : ClassFile.Cond) (x y : Int32) : Prop := match c with
  | .eq => x = y
  | .ne => ¬ x = y
  | .lt => x < y
  | .ge => y ≤ x
  | .gt => y < x
  | .le => x ≤ y
/-- the arguments that lie on the stack, the last on top -/
def xar (st : List Value) (n : Nat) (k : List Value → List Value → Prop) : Prop := n ≤ st.length ∧ k (st.take n).reverse (st.drop n)
/-- what a new object holds: 0 int or boolean: 0; else null -/
def xdf (ts : List Nat) : List Value := ts.map (fun t => if t = 1 then .null else .int 0)
/-- all that a method's steps look at: the methods, what its callees do, the script, its own row, its end -/
abbrev xG : Type := xT × xCall × xS × xM × (Option Value → xH → Prop)
abbrev xgT (G : xG) : xT := G.1
abbrev xgC (G : xG) : xCall := G.2.1
abbrev xgS (G : xG) : xS := G.2.2.1
abbrev xgM (G : xG) : xM := G.2.2.2.1
abbrev xgE (G : xG) : Option Value → xH → Prop := G.2.2.2.2
/-- a call: of the callee j with the arguments as -/
def xcl (G : xG) (K : xK) (j : Nat) (as r : List Value) (pc : Nat) (lv : xL) (f : xH) (cu su : Nat) : Prop := match xgT G j with
  | some M => (r.map fun v => v.category).sum ≤ 8 ∧ as.all (fun v => v.category == 1) = true ∧ cu + xm_mc M ≤ xm_mc (xgM G) ∧ su + xm_ms M ≤ xm_ms (xgM G) ∧ xgC G j as f (fun v f' => K (pc + 3) lv (v.toList ++ r) f' (cu + xm_mc M) (su + xm_ms M))
  | none => False
/-- the receiver is an object of the callee's class -/
def xrc (G : xG) (j : Nat) (as : List Value) (f : xH) : Prop := match xgT G j, as with
  | some M, .ref a :: _ => ∃ fs, f a = some (xO (xm_ci M) fs)
  | _, _ => False
def xiv (G : xG) (K : xK) (k : xKk) (pc : Nat) (lv : xL) (st : List Value) (f : xH) (cu su : Nat) : Prop :=
  xar st (k.2.2.1 + 1) (fun as r => xrc G k.2.1 as f ∧ xcl G K k.2.1 as r pc lv f cu su)
def xis_ (G : xG) (K : xK) (k : xKk) (pc : Nat) (lv : xL) (st : List Value) (f : xH) (cu su : Nat) : Prop :=
  xar st k.2.2.1 (fun as r => xcl G K k.2.1 as r pc lv f cu su)
def xfin (G : xG) (cu su : Nat) : Prop := cu ≤ xm_mc (xgM G) ∧ su ≤ xm_ms (xgM G)
/-- the library: 0 Math.min, 1 Math.max; 2 the reference's in(x, l, h) -/
def x3l (st : List Value) (k : Int64 → Int64 → Int64 → List Value → Prop) : Prop := match st with
  | .long h :: .long l :: .long x :: r => k x l h r
  | _ => False
def xlb (G : xG) (K : xK) (j : Nat) (pc : Nat) (lv : xL) (st : List Value) (f : xH) (cu su : Nat) : Prop := match j with
  | 0 => x2 st (fun x y r => (r.map fun v => v.category).sum ≤ 8 ∧ xfin G cu su ∧ K (pc + 3) lv (.int (if y < x then y else x) :: r) f cu su)
  | 1 => x2 st (fun x y r => (r.map fun v => v.category).sum ≤ 8 ∧ xfin G cu su ∧ K (pc + 3) lv (.int (if x < y then y else x) :: r) f cu su)
  | 2 => x3l st (fun x l h r => (r.map fun v => v.category).sum ≤ 8 ∧ xfin G cu su ∧ K (pc + 3) lv (.int (if l ≤ x ∧ x ≤ h then 1 else 0) :: r) f cu su)
  | _ => False
/-- the ways to call: 0 plain, 1 a nest mate, 2 the library -/
def xin_ (G : xG) (K : xK) (k : xKk) (pc : Nat) (lv : xL) (st : List Value) (f : xH) (cu su : Nat) : Prop := match k.2.2.2 with
  | [(2, j)] => xlb G K j pc lv st f cu su
  | _ => xis_ G K k pc lv st f cu su
def xsp (G : xG) (K : xK) (k : xKk) (pc : Nat) (lv : xL) (st : List Value) (f : xH) (cu su : Nat) : Prop := match k.2.2.2 with
  | [(2, _)] => xa st (fun _ r => (r.map fun v => v.category).sum ≤ 8 ∧ K (pc + 3) lv r f cu su)
  | _ => xar st (k.2.2.1 + 1) (fun as r => (∃ a as', as = .ref a :: as') ∧ xcl G K k.2.1 as r pc lv f cu su)
def xrt (G : xG) (x : Int32) (f : xH) : Prop := match xm_rt (xgM G) with
  | some .int => xgE G (some (.int x)) f
  | some .boolean => (x = 0 ∨ x = 1) ∧ xgE G (some (.int x)) f
  | _ => False
/-- what is stored: 1 boolean, 2 byte -/
def xbs (t : Nat) (x : Int32) (k : Int32 → Prop) : Prop := match t with
  | 1 => (x = 0 ∨ x = 1) ∧ k x
  | 2 => k x.toInt8.toInt32
  | _ => False
/-- a new array q of N rows r 0 .. of K numbers -/
def xmu (t : Nat) (f : xH) (q : Nat) (r : Nat → Nat) (N K : Nat) : xH := fun a => if a = q then some (xR t N (fun i => if i < N then some (r i) else none)) else if a ∈ (List.range N).map r then some (xI 0 K (fun _ => 0)) else f a
def xstep (G : xG) (K : xK) (pc : Nat) (i : Instr) (n : Nat) (k : xKk) (lv : xL) (st : List Value) (f : xH) (cu su : Nat) : Prop := match i with
  | .aconst_null => K (pc + 1) lv (.null :: st) f cu su
  | .iconst z => K (pc + 1) lv (.int (Int32.ofInt z) :: st) f cu su
  | .bipush z => K (pc + 2) lv (.int (Int8.ofInt z).toInt32 :: st) f cu su
  | .sipush z => K (pc + 3) lv (.int (Int16.ofInt z).toInt32 :: st) f cu su
  | .ldc _ => K (pc + 2) lv (.int (Int32.ofInt ((k.2.2.2.headD (0, 0)).1)) :: st) f cu su
  | .ldc_w _ => K (pc + 3) lv (.int (Int32.ofInt ((k.2.2.2.headD (0, 0)).1)) :: st) f cu su
  | .lconst z => K (pc + 1) lv (.long (Int64.ofNat z.val) :: st) f cu su
  | .ldc2_w _ => K (pc + 3) lv (.long (Int64.ofInt ((k.2.2.2.headD (0, 0)).1)) :: st) f cu su
  | .i2l => x1 st (fun x r => K (pc + 1) lv (.long x.toInt64 :: r) f cu su)
  | .iload_n j => xli lv j.val (fun x => K (pc + 1) lv (.int x :: st) f cu su)
  | .iload j => xli lv j (fun x => K (pc + 2) lv (.int x :: st) f cu su)
  | .aload_n j => xla lv j.val (fun x => K (pc + 1) lv (va_rf x :: st) f cu su)
  | .aload j => xla lv j (fun x => K (pc + 2) lv (va_rf x :: st) f cu su)
  | .istore_n j => x1 st (fun x r => j.val < lv.length ∧ K (pc + 1) (lv.set j.val (some (.int x))) r f cu su)
  | .istore j => x1 st (fun x r => j < lv.length ∧ K (pc + 2) (lv.set j (some (.int x))) r f cu su)
  | .astore_n j => xo st (fun x r => j.val < lv.length ∧ K (pc + 1) (lv.set j.val (some (va_rf x))) r f cu su)
  | .astore j => xo st (fun x r => j < lv.length ∧ K (pc + 2) (lv.set j (some (va_rf x))) r f cu su)
  | .iinc j z => xli lv j (fun x => K (pc + 3) (lv.set j (some (.int (x + Int32.ofInt z)))) st f cu su)
  | .iadd => x2 st (fun x y r => K (pc + 1) lv (.int (x + y) :: r) f cu su)
  | .isub => x2 st (fun x y r => K (pc + 1) lv (.int (x - y) :: r) f cu su)
  | .imul => x2 st (fun x y r => K (pc + 1) lv (.int (x * y) :: r) f cu su)
  | .iand => x2 st (fun x y r => K (pc + 1) lv (.int (x &&& y) :: r) f cu su)
  | .ior => x2 st (fun x y r => K (pc + 1) lv (.int (x ||| y) :: r) f cu su)
  | .ixor => x2 st (fun x y r => K (pc + 1) lv (.int (x ^^^ y) :: r) f cu su)
  | .idiv => x2 st (fun x y r => ¬ y = 0 ∧ K (pc + 1) lv (.int (x / y) :: r) f cu su)
  | .irem => x2 st (fun x y r => ¬ y = 0 ∧ K (pc + 1) lv (.int (x - x / y * y) :: r) f cu su)
  | .ineg => x1 st (fun x r => K (pc + 1) lv (.int (-x) :: r) f cu su)
  | .ishl => x2 st (fun x y r => K (pc + 1) lv (.int (x <<< (y &&& 31)) :: r) f cu su)
  | .ishr => x2 st (fun x y r => K (pc + 1) lv (.int (x >>> (y &&& 31)) :: r) f cu su)
  | .iushr => x2 st (fun x y r => K (pc + 1) lv (.int (x.toUInt32 >>> (y.toUInt32 &&& Int32.toUInt32 31)).toInt32 :: r) f cu su)
  | .i2b => x1 st (fun x r => K (pc + 1) lv (.int x.toInt8.toInt32 :: r) f cu su)
  | .dup => xv st (fun v r => K (pc + 1) lv (v :: v :: r) f cu su)
  | .pop => xv st (fun _ r => K (pc + 1) lv r f cu su)
  | .dup_x1 => xv st (fun v r => xv r (fun w r => K (pc + 1) lv (v :: w :: v :: r) f cu su))
  | .dup_x2 => xv st (fun v r => xv r (fun w r => xv r (fun u r => K (pc + 1) lv (v :: w :: u :: v :: r) f cu su)))
  | .dup2 => xv st (fun v r => xv r (fun w r => K (pc + 1) lv (v :: w :: v :: w :: r) f cu su))
  | .goto _ => K k.2.1 lv st f cu su
  | .ifCond c _ => x1 st (fun x r => (xif c x 0 → K k.2.1 lv r f cu su) ∧ (¬ xif c x 0 → K (pc + 3) lv r f cu su))
  | .if_icmp c _ => x2 st (fun x y r => (xif c x y → K k.2.1 lv r f cu su) ∧ (¬ xif c x y → K (pc + 3) lv r f cu su))
  | .if_acmp .eq _ => xoo st (fun x y r => (x = y → K k.2.1 lv r f cu su) ∧ (¬ x = y → K (pc + 3) lv r f cu su))
  | .if_acmp .ne _ => xoo st (fun x y r => (¬ x = y → K k.2.1 lv r f cu su) ∧ (x = y → K (pc + 3) lv r f cu su))
  | .ifnull _ => xo st (fun x r => (x = none → K k.2.1 lv r f cu su) ∧ (¬ x = none → K (pc + 3) lv r f cu su))
  | .ifnonnull _ => xo st (fun x r => (¬ x = none → K k.2.1 lv r f cu su) ∧ (x = none → K (pc + 3) lv r f cu su))
  | .tableswitch _ _ _ _ => x1 st (fun x r => xsel x k.2.1 (fun q => K q lv r f cu su) k.2.2.2)
  | .lookupswitch _ _ => x1 st (fun x r => xsel x k.2.1 (fun q => K q lv r f cu su) k.2.2.2)
  | .ireturn => x1 st (fun x r => r = [] ∧ xfin G cu su ∧ xrt G x f)
  | .areturn => xo st (fun x r => r = [] ∧ xfin G cu su ∧ xgE G (some (va_rf x)) f)
  | .return_ => st = [] ∧ xfin G cu su ∧ xgE G none f
  | .getfield _ => xa st (fun a r => xob f a k.2.1 (fun fs => xfd fs k.2.2.1 (fun v => K (pc + 3) lv (v :: r) f cu su)))
  | .putfield _ => xva st (fun v a r => xob f a k.2.1 (fun fs => k.2.2.1 < fs.length ∧ xft ((k.2.2.2.headD (0, 9)).2) v ∧ K (pc + 3) lv r (xup f a (xO k.2.1 (fs.set k.2.2.1 v))) cu su))
  | .arraylength => xa st (fun a r => xln (xgS G) f a (fun t n => t = k.2.1 ∧ K (pc + 1) lv (.int (Int32.ofNat n) :: r) f cu su))
  | .iaload => xia st (fun i a r => xsc (xgS G) f a (fun t n g => t = 0 ∧ vp_in i n ∧ K (pc + 1) lv (.int (g i.toNatClampNeg) :: r) f cu su))
  | .iastore => xiia st (fun x i a r => xin f a (fun t n g => t = 0 ∧ vp_in i n ∧ K (pc + 1) lv r (xup f a (xI t n (upd g i.toNatClampNeg x))) cu su))
  | .baload => xia st (fun i a r => xin f a (fun t n g => (t = 1 ∨ t = 2) ∧ vp_in i n ∧ K (pc + 1) lv (.int (g i.toNatClampNeg) :: r) f cu su))
  | .bastore => xiia st (fun x i a r => xin f a (fun t n g => vp_in i n ∧ xbs t x (fun y => K (pc + 1) lv r (xup f a (xI t n (upd g i.toNatClampNeg y))) cu su)))
  | .aaload => xia st (fun i a r => xre f a (fun t n g => t = k.2.1 ∧ vp_in i n ∧ K (pc + 1) lv (va_rf (g i.toNatClampNeg) :: r) f cu su))
  | .aastore => xvia st (fun v i a r => xre f a (fun t n g => t = k.2.1 ∧ vp_in i n ∧ xis f v k.2.2.1 ∧ K (pc + 1) lv r (xup f a (xR t n (va_up g i.toNatClampNeg v))) cu su))
  | .newarray _ => x1 st (fun x r => ¬ x < 0 ∧ x.toNatClampNeg ≤ 100000 ∧ cu + 1 ≤ xm_mc (xgM G) ∧ su + x.toNatClampNeg ≤ xm_ms (xgM G) ∧ ∀ q, f q = none → K (pc + 2) lv (.ref q :: r) (xup f q (xI k.2.1 x.toNatClampNeg (fun _ => 0))) (cu + 1) (su + x.toNatClampNeg))
  | .anewarray _ => x1 st (fun x r => ¬ x < 0 ∧ x.toNatClampNeg ≤ 100000 ∧ cu + 1 ≤ xm_mc (xgM G) ∧ su + x.toNatClampNeg ≤ xm_ms (xgM G) ∧ ∀ q, f q = none → K (pc + 3) lv (.ref q :: r) (xup f q (xR k.2.1 x.toNatClampNeg (fun _ => none))) (cu + 1) (su + x.toNatClampNeg))
  | .multianewarray _ _ => x2 st (fun n y r => ¬ n < 0 ∧ ¬ y < 0 ∧ n.toNatClampNeg ≤ 1000 ∧ y.toNatClampNeg ≤ 1000 ∧ cu + (1 + n.toNatClampNeg) ≤ xm_mc (xgM G) ∧ su + (n.toNatClampNeg + n.toNatClampNeg * y.toNatClampNeg) ≤ xm_ms (xgM G) ∧
      ∀ q w, f q = none → (∀ i, i < n.toNatClampNeg → f (w i) = none ∧ w i ≠ q) → (∀ i j, i < n.toNatClampNeg → j < n.toNatClampNeg → w i = w j → i = j) → K (pc + 4) lv (.ref q :: r) (xmu k.2.1 f q w n.toNatClampNeg y.toNatClampNeg) (cu + 1 + n.toNatClampNeg) (su + n.toNatClampNeg + n.toNatClampNeg * y.toNatClampNeg))
  | .new _ => cu + 1 ≤ xm_mc (xgM G) ∧ su + k.2.2.1 ≤ xm_ms (xgM G) ∧ ∀ q, f q = none → K (pc + 3) lv (.ref q :: st) (xup f q (xO k.2.1 (xdf (k.2.2.2.map Prod.snd)))) (cu + 1) (su + k.2.2.1)
  | .invokevirtual _ => xiv G K k pc lv st f cu su
  | .invokestatic _ => xin_ G K k pc lv st f cu su
  | .invokespecial _ => xsp G K k pc lv st f cu su
  | _ => False
def xgo (G : xG) (K : xK) : xK := fun pc lv st f cu su => match xlk (xm_cd (xgM G)) pc with
  | some (i, n, k) => xstep G K pc i n k lv st f cu su
  | none => False
def xcls (G : xG) (K : xK) : Prop := ∀ pc lv st f cu su, xgo G K pc lv st f cu su → K pc lv st f cu su
def xWp (G : xG) : xK := fun pc lv st f cu su => ∀ K : xK, xcls G K → K pc lv st f cu su
def xen (as : List Value) (n : Nat) : xL := as.map some ++ List.replicate (n - as.length) none
/-- what a call comes to, with calls that nest d deep at most -/
def xSp (T : xT) : Nat → xCall
  | 0, _, _, _, _ => False
  | d + 1, j, as, f, post => match T j with
    | some M => xWp (T, xSp T d, none, M, post) 0 (xen as (xm_ml M)) [] f 0 0
    | none => False
