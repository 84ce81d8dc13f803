/-! 7e the other object: its arrays; FILES in them -/
def mLay (Λ : yL) (m : Nat) : Prop := yW Λ ∧ yo Λ m 11 ∧ own Λ m = m ∧ yn Λ (Λ.2.1 11 1 m) 11 1 m 2 100 ∧ yn Λ (Λ.2.1 11 3 m) 11 3 m 2 18 ∧ yn Λ (Λ.2.1 11 5 m) 11 5 m 2 2340 ∧ yn Λ (Λ.2.1 11 6 m) 11 6 m 0 130 ∧ yn Λ (Λ.2.1 11 7 m) 11 7 m 2 6240 ∧ yn Λ (Λ.2.1 11 8 m) 11 8 m 0 130 ∧ yn Λ (Λ.2.1 11 9 m) 11 9 m 0 13 ∧ yn Λ (Λ.2.1 11 11 m) 11 11 m 0 220 ∧ yn Λ (Λ.2.1 11 12 m) 11 12 m 2 3960 ∧ yn Λ (Λ.2.1 11 13 m) 11 13 m 0 220 ∧ yn Λ (Λ.2.1 11 14 m) 11 14 m 2 3960 ∧ yn Λ (Λ.2.1 11 15 m) 11 15 m 0 220 ∧ yn Λ (Λ.2.1 11 16 m) 11 16 m 0 220 ∧ yn Λ (Λ.2.1 11 17 m) 11 17 m 0 220 ∧ yn Λ (Λ.2.1 11 18 m) 11 18 m 0 220 ∧ yn Λ (Λ.2.1 11 19 m) 11 19 m 0 220 ∧ yn Λ (Λ.2.1 11 20 m) 11 20 m 0 10560 ∧ yn Λ (Λ.2.1 11 21 m) 11 21 m 0 10560 ∧ yn Λ (Λ.2.1 11 22 m) 11 22 m 0 9 ∧ yn Λ (Λ.2.1 11 24 m) 11 24 m 0 50 ∧ yn Λ (Λ.2.1 11 25 m) 11 25 m 0 50 ∧ yn Λ (Λ.2.1 11 26 m) 11 26 m 0 2500 ∧ yn Λ (Λ.2.1 11 27 m) 11 27 m 0 10 ∧ yn Λ (Λ.2.1 11 28 m) 11 28 m 0 10 ∧ yn Λ (Λ.2.1 11 31 m) 11 31 m 1 24 ∧ yn Λ (Λ.2.1 11 32 m) 11 32 m 0 24 ∧ yn Λ (Λ.2.1 11 33 m) 11 33 m 0 24 ∧ yn Λ (Λ.2.1 11 35 m) 11 35 m 2 1200 ∧ yn Λ (Λ.2.1 11 36 m) 11 36 m 1 240 ∧ yn Λ (Λ.2.1 11 37 m) 11 37 m 2 1440 ∧ yn Λ (Λ.2.1 11 38 m) 11 38 m 0 30 ∧ yn Λ (Λ.2.1 11 39 m) 11 39 m 2 360 ∧ yn Λ (Λ.2.1 11 40 m) 11 40 m 0 20 ∧ yn Λ (Λ.2.1 11 41 m) 11 41 m 0 20 ∧ yn Λ (Λ.2.1 11 42 m) 11 42 m 0 2 ∧ yn Λ (Λ.2.1 11 47 m) 11 47 m 0 10
theorem mk1 {Λ : yL} {m : Nat} (h : mLay Λ m) : yn Λ (Λ.2.1 11 1 m) 11 1 m 2 100 := h.2.2.2.1
theorem mk3 {Λ : yL} {m : Nat} (h : mLay Λ m) : yn Λ (Λ.2.1 11 3 m) 11 3 m 2 18 := h.2.2.2.2.1
theorem mk5 {Λ : yL} {m : Nat} (h : mLay Λ m) : yn Λ (Λ.2.1 11 5 m) 11 5 m 2 2340 := h.2.2.2.2.2.1
theorem mk6 {Λ : yL} {m : Nat} (h : mLay Λ m) : yn Λ (Λ.2.1 11 6 m) 11 6 m 0 130 := h.2.2.2.2.2.2.1
theorem mk7 {Λ : yL} {m : Nat} (h : mLay Λ m) : yn Λ (Λ.2.1 11 7 m) 11 7 m 2 6240 := h.2.2.2.2.2.2.2.1
theorem mk8 {Λ : yL} {m : Nat} (h : mLay Λ m) : yn Λ (Λ.2.1 11 8 m) 11 8 m 0 130 := h.2.2.2.2.2.2.2.2.1
theorem mk9 {Λ : yL} {m : Nat} (h : mLay Λ m) : yn Λ (Λ.2.1 11 9 m) 11 9 m 0 13 := h.2.2.2.2.2.2.2.2.2.1
theorem mk11 {Λ : yL} {m : Nat} (h : mLay Λ m) : yn Λ (Λ.2.1 11 11 m) 11 11 m 0 220 := h.2.2.2.2.2.2.2.2.2.2.1
theorem mk12 {Λ : yL} {m : Nat} (h : mLay Λ m) : yn Λ (Λ.2.1 11 12 m) 11 12 m 2 3960 := h.2.2.2.2.2.2.2.2.2.2.2.1
theorem mk13 {Λ : yL} {m : Nat} (h : mLay Λ m) : yn Λ (Λ.2.1 11 13 m) 11 13 m 0 220 := h.2.2.2.2.2.2.2.2.2.2.2.2.1
theorem mk14 {Λ : yL} {m : Nat} (h : mLay Λ m) : yn Λ (Λ.2.1 11 14 m) 11 14 m 2 3960 := h.2.2.2.2.2.2.2.2.2.2.2.2.2.1
theorem mk15 {Λ : yL} {m : Nat} (h : mLay Λ m) : yn Λ (Λ.2.1 11 15 m) 11 15 m 0 220 := h.2.2.2.2.2.2.2.2.2.2.2.2.2.2.1
theorem mk16 {Λ : yL} {m : Nat} (h : mLay Λ m) : yn Λ (Λ.2.1 11 16 m) 11 16 m 0 220 := h.2.2.2.2.2.2.2.2.2.2.2.2.2.2.2.1
theorem mk17 {Λ : yL} {m : Nat} (h : mLay Λ m) : yn Λ (Λ.2.1 11 17 m) 11 17 m 0 220 := h.2.2.2.2.2.2.2.2.2.2.2.2.2.2.2.2.1
theorem mk18 {Λ : yL} {m : Nat} (h : mLay Λ m) : yn Λ (Λ.2.1 11 18 m) 11 18 m 0 220 := h.2.2.2.2.2.2.2.2.2.2.2.2.2.2.2.2.2.1
theorem mk19 {Λ : yL} {m : Nat} (h : mLay Λ m) : yn Λ (Λ.2.1 11 19 m) 11 19 m 0 220 := h.2.2.2.2.2.2.2.2.2.2.2.2.2.2.2.2.2.2.1
theorem mk20 {Λ : yL} {m : Nat} (h : mLay Λ m) : yn Λ (Λ.2.1 11 20 m) 11 20 m 0 10560 := h.2.2.2.2.2.2.2.2.2.2.2.2.2.2.2.2.2.2.2.1
theorem mk21 {Λ : yL} {m : Nat} (h : mLay Λ m) : yn Λ (Λ.2.1 11 21 m) 11 21 m 0 10560 := h.2.2.2.2.2.2.2.2.2.2.2.2.2.2.2.2.2.2.2.2.1
theorem mk22 {Λ : yL} {m : Nat} (h : mLay Λ m) : yn Λ (Λ.2.1 11 22 m) 11 22 m 0 9 := h.2.2.2.2.2.2.2.2.2.2.2.2.2.2.2.2.2.2.2.2.2.1
theorem mk24 {Λ : yL} {m : Nat} (h : mLay Λ m) : yn Λ (Λ.2.1 11 24 m) 11 24 m 0 50 := h.2.2.2.2.2.2.2.2.2.2.2.2.2.2.2.2.2.2.2.2.2.2.1
theorem mk25 {Λ : yL} {m : Nat} (h : mLay Λ m) : yn Λ (Λ.2.1 11 25 m) 11 25 m 0 50 := h.2.2.2.2.2.2.2.2.2.2.2.2.2.2.2.2.2.2.2.2.2.2.2.1
theorem mk26 {Λ : yL} {m : Nat} (h : mLay Λ m) : yn Λ (Λ.2.1 11 26 m) 11 26 m 0 2500 := h.2.2.2.2.2.2.2.2.2.2.2.2.2.2.2.2.2.2.2.2.2.2.2.2.1
theorem mk27 {Λ : yL} {m : Nat} (h : mLay Λ m) : yn Λ (Λ.2.1 11 27 m) 11 27 m 0 10 := h.2.2.2.2.2.2.2.2.2.2.2.2.2.2.2.2.2.2.2.2.2.2.2.2.2.1
theorem mk28 {Λ : yL} {m : Nat} (h : mLay Λ m) : yn Λ (Λ.2.1 11 28 m) 11 28 m 0 10 := h.2.2.2.2.2.2.2.2.2.2.2.2.2.2.2.2.2.2.2.2.2.2.2.2.2.2.1
theorem mk31 {Λ : yL} {m : Nat} (h : mLay Λ m) : yn Λ (Λ.2.1 11 31 m) 11 31 m 1 24 := h.2.2.2.2.2.2.2.2.2.2.2.2.2.2.2.2.2.2.2.2.2.2.2.2.2.2.2.1
theorem mk32 {Λ : yL} {m : Nat} (h : mLay Λ m) : yn Λ (Λ.2.1 11 32 m) 11 32 m 0 24 := h.2.2.2.2.2.2.2.2.2.2.2.2.2.2.2.2.2.2.2.2.2.2.2.2.2.2.2.2.1
theorem mk33 {Λ : yL} {m : Nat} (h : mLay Λ m) : yn Λ (Λ.2.1 11 33 m) 11 33 m 0 24 := h.2.2.2.2.2.2.2.2.2.2.2.2.2.2.2.2.2.2.2.2.2.2.2.2.2.2.2.2.2.1
theorem mk35 {Λ : yL} {m : Nat} (h : mLay Λ m) : yn Λ (Λ.2.1 11 35 m) 11 35 m 2 1200 := h.2.2.2.2.2.2.2.2.2.2.2.2.2.2.2.2.2.2.2.2.2.2.2.2.2.2.2.2.2.2.1
theorem mk36 {Λ : yL} {m : Nat} (h : mLay Λ m) : yn Λ (Λ.2.1 11 36 m) 11 36 m 1 240 := h.2.2.2.2.2.2.2.2.2.2.2.2.2.2.2.2.2.2.2.2.2.2.2.2.2.2.2.2.2.2.2.1
theorem mk37 {Λ : yL} {m : Nat} (h : mLay Λ m) : yn Λ (Λ.2.1 11 37 m) 11 37 m 2 1440 := h.2.2.2.2.2.2.2.2.2.2.2.2.2.2.2.2.2.2.2.2.2.2.2.2.2.2.2.2.2.2.2.2.1
theorem mk38 {Λ : yL} {m : Nat} (h : mLay Λ m) : yn Λ (Λ.2.1 11 38 m) 11 38 m 0 30 := h.2.2.2.2.2.2.2.2.2.2.2.2.2.2.2.2.2.2.2.2.2.2.2.2.2.2.2.2.2.2.2.2.2.1
theorem mk39 {Λ : yL} {m : Nat} (h : mLay Λ m) : yn Λ (Λ.2.1 11 39 m) 11 39 m 2 360 := h.2.2.2.2.2.2.2.2.2.2.2.2.2.2.2.2.2.2.2.2.2.2.2.2.2.2.2.2.2.2.2.2.2.2.1
theorem mk40 {Λ : yL} {m : Nat} (h : mLay Λ m) : yn Λ (Λ.2.1 11 40 m) 11 40 m 0 20 := h.2.2.2.2.2.2.2.2.2.2.2.2.2.2.2.2.2.2.2.2.2.2.2.2.2.2.2.2.2.2.2.2.2.2.2.1
theorem mk41 {Λ : yL} {m : Nat} (h : mLay Λ m) : yn Λ (Λ.2.1 11 41 m) 11 41 m 0 20 := h.2.2.2.2.2.2.2.2.2.2.2.2.2.2.2.2.2.2.2.2.2.2.2.2.2.2.2.2.2.2.2.2.2.2.2.2.1
theorem mk42 {Λ : yL} {m : Nat} (h : mLay Λ m) : yn Λ (Λ.2.1 11 42 m) 11 42 m 0 2 := h.2.2.2.2.2.2.2.2.2.2.2.2.2.2.2.2.2.2.2.2.2.2.2.2.2.2.2.2.2.2.2.2.2.2.2.2.2.1
theorem mk47 {Λ : yL} {m : Nat} (h : mLay Λ m) : yn Λ (Λ.2.1 11 47 m) 11 47 m 0 10 := h.2.2.2.2.2.2.2.2.2.2.2.2.2.2.2.2.2.2.2.2.2.2.2.2.2.2.2.2.2.2.2.2.2.2.2.2.2.2
/-- arrays in groups, by the width of a place -/
def wid (j : Nat) : Nat := if j = 5 ∨ j = 12 ∨ j = 14 ∨ j = 39 then 18 else if j = 7 ∨ j = 20 ∨ j = 21 ∨ j = 37 then 48 else 1
def grp (j : Nat) : Nat := if 5 ≤ j ∧ j ≤ 8 then 1 else if 11 ≤ j ∧ j ≤ 21 then 2 else if j = 37 ∨ j = 38 then 3 else if 39 ≤ j ∧ j ≤ 41 then 4 else 0
/-- S' is S but for the places F of a group -/
def zS (m g : Nat) (F : Nat → Prop) (S S' : yS) : Prop := (∀ c j a, yI S' c j a = yI S c j a ∧ yR S' c j a = yR S c j a) ∧ (∀ c j a, ¬ (c = 11 ∧ a = m ∧ grp j = g) → yA S' c j a = yA S c j a) ∧ ∀ j i, grp j = g → ¬ F (i / wid j) → yA S' 11 j m i = yA S 11 j m i
theorem zS_rf {m g : Nat} {F : Nat → Prop} {S : yS} : zS m g F S S := ⟨fun _ _ _ => ⟨rfl, rfl⟩, fun _ _ _ _ => rfl, fun _ _ _ _ => rfl⟩
theorem zS_tr {m g : Nat} {F : Nat → Prop} {S S1 S2 : yS} (h1 : zS m g F S S1) (h2 : zS m g F S1 S2) : zS m g F S S2 := ⟨fun c j a => ⟨(h2.1 c j a).1.trans (h1.1 c j a).1, (h2.1 c j a).2.trans (h1.1 c j a).2⟩, fun c j a q => (h2.2.1 c j a q).trans (h1.2.1 c j a q), fun j i q q2 => (h2.2.2 j i q q2).trans (h1.2.2 j i q q2)⟩
theorem zS_mo {m g : Nat} {F F' : Nat → Prop} {S S1 : yS} (h1 : zS m g F S S1) (h : ∀ i, F i → F' i) : zS m g F' S S1 := ⟨h1.1, h1.2.1, fun j i q q2 => h1.2.2 j i q (fun z => q2 (h _ z))⟩
theorem zS_w {m g j : Nat} {F : Nat → Prop} {S : yS} {h : Nat → Int32} (hg : grp j = g) (hh : ∀ i, ¬ F (i / wid j) → h i = yA S 11 j m i) : zS m g F S (ywA S 11 j m h) := by
  refine ⟨fun _ _ _ => ⟨rfl, rfl⟩, fun c k a q => yA_n _ _ (fun z => q ⟨z.1, z.2.2, by rw [z.2.1]; exact hg⟩), fun k i q q2 => ?_⟩
  by_cases e : k = j
  · subst e; rw [yA_s]; exact hh i q2
  · rw [yA_n _ _ (fun z => e z.2.1)]
theorem zS_u {m g j i : Nat} {F : Nat → Prop} {S : yS} {v : Int32} (hg : grp j = g) (hF : F (i / wid j)) : zS m g F S (ywA S 11 j m (upd (yA S 11 j m) i v)) := zS_w hg (fun k hk => pk_un (fun e => hk (by rw [e]; exact hF)))
theorem zS_c {m g j f p n : Nat} {F : Nat → Prop} {S : yS} {A : Nat → Int32} (hg : grp j = g) (hF : F f) (hw : 0 < wid j) (hn : n ≤ wid j) : zS m g F S (ywA S 11 j m (va_cpy A (yA S 11 j m) p (wid j * f) n)) := zS_w hg (fun k hk => by
  rw [pk_cpy_out]
  rcases Nat.lt_or_ge k (wid j * f) with c | c
  · exact Or.inl c
  · refine Or.inr ?_
    rcases Nat.lt_or_ge k (wid j * f + wid j) with c2 | c2
    · exact absurd hF (fun z => hk (by
        have : k / wid j = f := by
          rw [Nat.div_eq_iff hw]
          constructor
          · rw [Nat.mul_comm]; exact c
          · have : wid j * f = f * wid j := Nat.mul_comm _ _
            omega
        rw [this]; exact z))
    · omega)
/-- a FILE -/
def mF (S : yS) (m f : Nat) (q : Fl) : Prop := (yA S 11 6 m f = nI q.1.length ∧ q.1.length ≤ 17 ∧ rg (yA S 11 5 m) (18 * f) q.1) ∧ (yA S 11 8 m f = nI q.2.length ∧ q.2.length ≤ 48 ∧ rg (yA S 11 7 m) (48 * f) q.2)
theorem rg_id {A : Nat → Int32} {p : Nat} {bs : List Nat} (h : rg A p bs) : ∀ k, k < bs.length → (A (p + k)).toInt8.toInt32 = A (p + k) := fun k hk => by rw [(h k hk).1, sb_id]
theorem div18 {f k : Nat} (h : k < 18) : (18 * f + k) / 18 = f := by omega
theorem div48 {f k : Nat} (h : k < 48) : (48 * f + k) / 48 = f := by omega
theorem mF_z {m g f : Nat} {F : Nat → Prop} {S S' : yS} {q : Fl} (h : zS m g F S S') (hF : g = 1 → ¬ F f) (hq : mF S m f q) : mF S' m f q := by
  by_cases e : g = 1
  · subst e
    have hF := hF rfl
    obtain ⟨⟨a1, a2, a3⟩, b1, b2, b3⟩ := hq
    refine ⟨⟨?_, a2, rg_e a3 (fun k hk => ?_)⟩, ?_, b2, rg_e b3 (fun k hk => ?_)⟩
    · rw [h.2.2 6 f rfl (by rw [show wid 6 = 1 from rfl, Nat.div_one]; exact hF)]; exact a1
    · exact h.2.2 5 _ rfl (by rw [show wid 5 = 18 from rfl, div18 (by omega)]; exact hF)
    · rw [h.2.2 8 f rfl (by rw [show wid 8 = 1 from rfl, Nat.div_one]; exact hF)]; exact b1
    · exact h.2.2 7 _ rfl (by rw [show wid 7 = 48 from rfl, div48 (by omega)]; exact hF)
  · have e2 : ∀ j, 5 ≤ j → j ≤ 8 → yA S' 11 j m = yA S 11 j m := fun j h1 h2 => h.2.1 11 j m (fun z => e (by rw [← z.2.2]; unfold grp; rw [if_pos ⟨h1, h2⟩]))
    unfold mF
    rw [e2 6 (by omega) (by omega), e2 5 (by omega) (by omega), e2 8 (by omega) (by omega), e2 7 (by omega) (by omega)]
    exact hq
def mT (S : yS) (m t : Nat) (fs : List Fl) : Prop := fs.length ≤ 10 ∧ yA S 11 9 m t = nI fs.length ∧ ∀ i, i < fs.length → mF S m (10 * t + i) (fs.getD i fl0)
section
variable {Λ : yL} {f0 : xH} {S S' : yS} {m d t f g : Nat} {fl ql : Fl} {fs : List Fl} {bs cs : List Nat} {post : Option Value → xH → Prop}
theorem n18 (f : Nat) : (18 : Int32) * nI f = nI (18 * f) := pk_mul 18 f
theorem n48 (f : Nat) : (48 : Int32) * nI f = nI (48 * f) := pk_mul 48 f
/-- a FILE gets its PATH, its CONTENT -/
theorem mF_p {g1 : Nat → Int32} {p : Nat} (hb : bs.length ≤ 17) (hr : rg g1 p bs) (hq : yA S 11 8 m f = nI cs.length ∧ cs.length ≤ 48 ∧ rg (yA S 11 7 m) (48 * f) cs) : mF (ywA (ywA S 11 5 m (va_cpy g1 (yA S 11 5 m) p (18 * f) bs.length)) 11 6 m (upd (yA (ywA S 11 5 m (va_cpy g1 (yA S 11 5 m) p (18 * f) bs.length)) 11 6 m) f (nI bs.length))) m f (bs, cs) := by
  refine ⟨⟨?_, hb, ?_⟩, ?_⟩
  · rw [yA_s, pk_us]
  · rw [yA_n _ _ (by omega), yA_s]; exact rg_cpy hr (Nat.le_refl _)
  · rw [yA_n _ _ (by omega), yA_n _ _ (by omega), yA_n _ _ (by omega), yA_n _ _ (by omega)]; exact hq
theorem Mo_moveFile_sp (hL : mLay Λ m) (hf : f < 130) (hg : g < 130) (hfg : f ≠ g) (hq : mF S m f fl) (hp : ∀ S', zS m 1 (fun i => i = g) S S' → mF S' m g fl → post none (yH Λ f0 S')) : xSp xT0 (d + 2) j_Mo_moveFile [.ref m, .int (nI f), .int (nI g)] (yH Λ f0 S) post := by
  have hW := hL.1
  have ho := hL.2.1
  obtain ⟨⟨a1, a2, a3⟩, b1, b2, b3⟩ := id hq
  refine xSp_of (M := m_Mo_moveFile) rfl (b_Mo_moveFile_0 (ygr ho rfl (ygr ho rfl (ygr ho rfl (yal (mk6 hL) (vp_in_nI hf (by omega)) ?_)))))
  rw [nI_clamp (by omega), a1, n18, n18, n48, n48]
  refine Mo_move_sp hW (mk5 hL) (mk5 hL) (rg_id a3) (by omega) (by omega) (by omega) (by omega) (Or.inr (by omega)) (xvvI (ygr ho rfl (ygr ho rfl (yal (mk6 hL) (vp_in_nI hf (by omega)) (yas (mk6 hL) (yW_n hW (mk6 hL)) (vp_in_nI hg (by omega)) (ygr ho rfl (ygr ho rfl (ygr ho rfl (yal (mk8 hL) (vp_in_nI hf (by omega)) ?_)))))))))
  rw [nI_clamp (by omega), nI_clamp (by omega)]
  have e6 : yA (ywA S 11 5 m (va_cpy (yA S 11 5 m) (yA S 11 5 m) (18 * f) (18 * g) fl.1.length)) 11 6 m f = nI fl.1.length := by rw [yA_n _ _ (by omega)]; exact a1
  rw [e6]
  have k1 : zS m 1 (fun i => i = g) S (ywA S 11 5 m (va_cpy (yA S 11 5 m) (yA S 11 5 m) (18 * f) (18 * g) fl.1.length)) := zS_c (j := 5) (f := g) rfl rfl (by decide) (by show _ ≤ 18; omega)
  have k2 : zS m 1 (fun i => i = g) S (ywA (ywA S 11 5 m (va_cpy (yA S 11 5 m) (yA S 11 5 m) (18 * f) (18 * g) fl.1.length)) 11 6 m (upd (yA (ywA S 11 5 m (va_cpy (yA S 11 5 m) (yA S 11 5 m) (18 * f) (18 * g) fl.1.length)) 11 6 m) g (nI fl.1.length))) := zS_tr k1 (zS_u rfl (by show g / 1 = g; omega))
  have hpth : yA (ywA (ywA S 11 5 m (va_cpy (yA S 11 5 m) (yA S 11 5 m) (18 * f) (18 * g) fl.1.length)) 11 6 m (upd (yA (ywA S 11 5 m (va_cpy (yA S 11 5 m) (yA S 11 5 m) (18 * f) (18 * g) fl.1.length)) 11 6 m) g (nI fl.1.length))) 11 6 m g = nI fl.1.length ∧ rg (yA (ywA (ywA S 11 5 m (va_cpy (yA S 11 5 m) (yA S 11 5 m) (18 * f) (18 * g) fl.1.length)) 11 6 m (upd (yA (ywA S 11 5 m (va_cpy (yA S 11 5 m) (yA S 11 5 m) (18 * f) (18 * g) fl.1.length)) 11 6 m) g (nI fl.1.length))) 11 5 m) (18 * g) fl.1 := by
    refine ⟨by rw [yA_s, pk_us], ?_⟩
    rw [yA_n _ _ (by omega), yA_s]
    exact rg_cpy a3 (Nat.le_refl _)
  generalize ywA (ywA S 11 5 m (va_cpy (yA S 11 5 m) (yA S 11 5 m) (18 * f) (18 * g) fl.1.length)) 11 6 m (upd (yA (ywA S 11 5 m (va_cpy (yA S 11 5 m) (yA S 11 5 m) (18 * f) (18 * g) fl.1.length)) 11 6 m) g (nI fl.1.length)) = S2 at *
  have hq2 := mF_z k2 (fun _ => hfg) hq
  obtain ⟨_, c1, c2, c3⟩ := id hq2
  rw [c1]
  refine Mo_move_sp hW (mk7 hL) (mk7 hL) (rg_id c3) (by omega) (by omega) (by omega) (by omega) (Or.inr (by omega)) (xvvI (ygr ho rfl (ygr ho rfl (yal (mk8 hL) (vp_in_nI hf (by omega)) (yas (mk8 hL) (yW_n hW (mk8 hL)) (vp_in_nI hg (by omega)) ?_)))))
  rw [nI_clamp (by omega), nI_clamp (by omega)]
  have e8 : yA (ywA S2 11 7 m (va_cpy (yA S2 11 7 m) (yA S2 11 7 m) (48 * f) (48 * g) fl.2.length)) 11 8 m f = nI fl.2.length := by rw [yA_n _ _ (by omega)]; exact c1
  rw [e8]
  have k3 : zS m 1 (fun i => i = g) S2 (ywA S2 11 7 m (va_cpy (yA S2 11 7 m) (yA S2 11 7 m) (48 * f) (48 * g) fl.2.length)) := zS_c (j := 7) (f := g) rfl rfl (by decide) (by show _ ≤ 48; omega)
  refine hp _ (zS_tr (zS_tr k2 k3) (zS_u rfl (by show g / 1 = g; omega))) ⟨⟨?_, a2, ?_⟩, ?_, b2, ?_⟩
  · rw [yA_n _ _ (by omega), yA_n _ _ (by omega)]; exact hpth.1
  · rw [yA_n _ _ (by omega), yA_n _ _ (by omega)]; exact hpth.2
  · rw [yA_s, pk_us]
  · rw [yA_n _ _ (by omega), yA_s]; exact rg_cpy c3 (Nat.le_refl _)
theorem Mo_find_sp (hL : mLay Λ m) (ht : t < 13) (hT : mT S m t fs) {r c j o n p : Nat} (hr : yn Λ r c j o 2 n) (hg : rg (yA S c j o) p bs) (hb : p + bs.length ≤ n) (hn : n < 2 ^ 30) (hp : post (some (.int (if fnd fs bs < fs.length then nI (fnd fs bs) else -2))) (yH Λ f0 S)) : xSp xT0 (d + 2) j_Mo_find [.ref m, .int (nI t), .ref r, .int (nI p), .int (nI bs.length)] (yH Λ f0 S) post := by
  have ho := hL.2.1
  have hl := hT.1
  refine xSp_of (M := m_Mo_find) rfl (b_Mo_find_0 ?_)
  have hlo : ∀ k, k ≤ fs.length → ((∀ i, i < k → decide ((fs.getD i fl0).1 = bs) = false) → xWp (xT0, xSp xT0 (d + 1), none, m_Mo_find, post) 3 [some (.ref m), some (.int (nI t)), some (.ref r), some (.int (nI p)), some (.int (nI bs.length)), some (.int (nI k))] [] (yH Λ f0 S) 0 0) := by
    refine loopUp ?_ ?_
    · intro hg2
      refine b_Mo_find_3 (ygr ho rfl (yal (mk9 hL) (vp_in_nI ht (by omega)) ?_))
      rw [nI_clamp (by omega), hT.2.1]
      refine brle (by omega) (by omega) (fun _ => ?_) (fun q => by omega)
      have e : fnd fs bs = fs.length := fstI_eq (Nat.le_refl _) hg2 (Or.inl rfl)
      rw [e, if_neg (Nat.lt_irrefl _)] at hp
      exact hp
    · intro k hk ih hg2
      obtain ⟨⟨a1, a2, a3⟩, -⟩ := hT.2.2 k hk
      refine b_Mo_find_3 (ygr ho rfl (yal (mk9 hL) (vp_in_nI ht (by omega)) ?_))
      rw [nI_clamp (by omega), hT.2.1, nI_1]
      refine brle (by omega) (by omega) (fun q => by omega) (fun _ => ygr ho rfl (Mo_at_sp (xviI (ygr ho rfl (Mo_at_sp (xviI (yal (mk6 hL) (vp_in_nI (by omega) (by omega)) ?_)))))))
      rw [nI_clamp (by omega), a1, n18]
      refine Mo_order_sp (mk5 hL) hr a3 hg (by omega) hb (by omega) hn (xviI ⟨fun c1 => ih (fun i hi => ?_), fun c1 => ?_⟩)
      · by_cases z : i = k
        · rw [z]; exact decide_eq_false (fun w => c1 (ordM_0.mpr w))
        · exact hg2 i (by omega)
      · have e : fnd fs bs = k := fstI_eq (Nat.le_of_lt hk) hg2 (Or.inr (decide_eq_true (ordM_0.mp (Classical.not_not.mp c1))))
        rw [e, if_pos hk] at hp
        exact hp
  exact hlo 0 (Nat.zero_le _) (fun i hi => absurd hi (Nat.not_lt_zero _))
theorem barT_t {fs : List Fl} {bs : List Nat} {k : Nat} (hk : k < fs.length) : barT (fs.take (k + 1)) bs = (barT (fs.take k) bs || (abvB (fs.getD k fl0).1 bs || abvB bs (fs.getD k fl0).1)) := by
  unfold barT
  rw [List.take_succ, List.any_append, List.getD_eq_getElem?_getD, List.getElem?_eq_getElem hk]
  simp
theorem Mo_isBlocked_sp (hL : mLay Λ m) (ht : t < 13) (hT : mT S m t fs) {r c j o n p : Nat} (hr : yn Λ r c j o 2 n) (hg : rg (yA S c j o) p bs) (hb : p + bs.length ≤ n) (hn : n < 2 ^ 30) (hp : post (some (.int (bI (barT fs bs)))) (yH Λ f0 S)) : xSp xT0 (d + 4) j_Mo_isBlocked [.ref m, .int (nI t), .ref r, .int (nI p), .int (nI bs.length)] (yH Λ f0 S) post := by
  have ho := hL.2.1
  have hl := hT.1
  refine xSp_of (M := m_Mo_isBlocked) rfl (b_Mo_isBlocked_0 ?_)
  have hlo : ∀ k, k ≤ fs.length → xWp (xT0, xSp xT0 (d + 3), none, m_Mo_isBlocked, post) 6 [some (.ref m), some (.int (nI t)), some (.ref r), some (.int (nI p)), some (.int (nI bs.length)), some (.int (bI (barT (fs.take k) bs))), some (.int (nI k))] [] (yH Λ f0 S) 0 0 := by
    refine loopUp ?_ ?_
    · refine b_Mo_isBlocked_6 (ygr ho rfl (yal (mk9 hL) (vp_in_nI ht (by omega)) ?_))
      rw [nI_clamp (by omega), hT.2.1, List.take_length]
      refine brle (by omega) (by omega) (fun _ => ⟨?_, hp⟩) (fun q => by omega)
      cases barT fs bs
      · exact Or.inl rfl
      · exact Or.inr rfl
    · intro k hk ih
      obtain ⟨⟨a1, a2, a3⟩, -⟩ := hT.2.2 k hk
      rw [barT_t hk] at ih
      refine b_Mo_isBlocked_6 (ygr ho rfl (yal (mk9 hL) (vp_in_nI ht (by omega)) ?_))
      rw [nI_clamp (by omega), hT.2.1, nI_1]
      refine brle (by omega) (by omega) (fun q => by omega) (fun _ => brBn (fun c1 => ?_) (fun c1 => ygr ho rfl (Mo_at_sp (xviI (ygr ho rfl (Mo_at_sp (xviI (yal (mk6 hL) (vp_in_nI (by omega) (by omega)) ?_))))))))
      · rw [c1] at ih; exact ih
      · rw [nI_clamp (by omega), a1, n18]
        rw [c1, Bool.false_or] at ih
        refine Mo_isInTheWay_sp (mk5 hL) hr a3 hg (by omega) hb (by omega) hn (xviI (brB (fun e => ?_) (fun e => ?_)))
        · rw [e] at ih; exact ih
        · rw [e] at ih; exact ih
  exact hlo 0 (Nat.zero_le _)
end
