/-! what is said of the library's methods, and of the kinds of methods -/
def xcK (B : List Jvm.Cond) (cl : List vw_C) (kd : List Nat) (pl : List (Nat × Nat)) (j : Nat) (N : xM) : Bool := match kd[j]?, pl[j]? with
  | some 0, some p => xcW B p.1 (.instanceMethod (xm_nm N)) && (xcW B p.2 (.selects (xm_nm N).cls (xm_nm N) (xm_nm N)) && (match cl[xm_ci N]? with
    | some q => decide (q.1 = (xm_nm N).cls)
    | none => false))
  | some 1, some p => xcW B p.1 (.static (xm_nm N))
  | some 2, some p => xcW B p.1 (.instanceMethod (xm_nm N)) && (decide ((xm_nm N).name = "<init>") && (xm_rt N).isNone)
  | _, _ => false
theorem xcK_ok {B : List Jvm.Cond} {cl : List vw_C} {kd : List Nat} {pl : List (Nat × Nat)} {j : Nat} {N : xM} (h : xcK B cl kd pl j N = true) : xkf B cl kd j N := by
  unfold xcK at h
  unfold xkf
  split at h
  · next h1 h2 =>
    rw [h1]
    obtain ⟨g1, g2⟩ := (Bool.and_eq_true _ _).mp h
    obtain ⟨g3, g4⟩ := (Bool.and_eq_true _ _).mp g2
    refine ⟨List.mem_of_getElem? (xcW_ok g1), List.mem_of_getElem? (xcW_ok g3), ?_⟩
    split at g4
    · next q hq => exact ⟨q, hq, of_decide_eq_true g4⟩
    · cases g4
  · next h1 h2 =>
    rw [h1]
    exact List.mem_of_getElem? (xcW_ok h)
  · next h1 h2 =>
    rw [h1]
    obtain ⟨g1, g2⟩ := (Bool.and_eq_true _ _).mp h
    obtain ⟨g3, g4⟩ := (Bool.and_eq_true _ _).mp g2
    exact ⟨List.mem_of_getElem? (xcW_ok g1), of_decide_eq_true g3, Option.isNone_iff_eq_none.mp g4⟩
  · cases h
def xcKs (B : List Jvm.Cond) (cl : List vw_C) (kd : List Nat) (pl : List (Nat × Nat)) : Nat → List xM → Bool
  | _, [] => true
  | j, N :: r => xcK B cl kd pl j N && xcKs B cl kd pl (j + 1) r
theorem xcKs_ok {B : List Jvm.Cond} {cl : List vw_C} {kd : List Nat} {pl : List (Nat × Nat)} : ∀ {l : List xM} {a : Nat}, xcKs B cl kd pl a l = true → ∀ j N, l[j]? = some N → xkf B cl kd (a + j) N
  | [], _, _, _, _, h => by cases h
  | N :: r, a, h, 0, M, hj => by
    cases hj
    exact xcK_ok ((Bool.and_eq_true _ _).mp h).1
  | N :: r, a, h, j + 1, M, hj => by
    have := xcKs_ok ((Bool.and_eq_true _ _).mp h).2 j M hj
    rw [show a + (j + 1) = a + 1 + j by omega]
    exact this
theorem xkf_ok : ∀ j N, xT0 j = some N → xkf xB xcs xkd j N := fun j N h => by
  have := xcKs_ok (a := 0) (show xcKs xB xcs xkd xpl 0 xTl = true by decide +kernel) j N h
  rw [Nat.zero_add] at this
  exact this
theorem xlib_ok : xlib xB := ⟨⟨List.mem_of_getElem? (i := 316) (by decide +kernel), List.mem_of_getElem? (i := 77) (by decide +kernel), List.mem_of_getElem? (i := 317) (by decide +kernel)⟩, ⟨List.mem_of_getElem? (i := 104) (by decide +kernel), List.mem_of_getElem? (i := 105) (by decide +kernel)⟩, List.mem_of_getElem? (i := 95) (by decide +kernel), List.mem_of_getElem? (i := 96) (by decide +kernel)⟩
