/-! 7g the other object: its whole state; feed, end, path -/
def mTa (S : yS) (m : Nat) (bs : List Nat) : Prop := bs.length ≤ 80 ∧ yI S 11 2 m = nI bs.length ∧ rg (yA S 11 1 m) 0 bs
def mHa (S : yS) (m : Nat) (bs : List Nat) : Prop := bs.length ≤ 17 ∧ yI S 11 4 m = nI bs.length ∧ rg (yA S 11 3 m) 0 bs
def mTs (S : yS) (m : Nat) (ts : List (List Fl)) : Prop := ts.length ≤ 12 ∧ yI S 11 10 m = nI ts.length ∧ ∀ t, t < ts.length → mT S m t (ts.getD t [])
/-- numbers that stand in an array -/
def rz (A : Nat → Int32) (p : Nat) (zs : List Int32) : Prop := ∀ k, k < zs.length → A (p + k) = zs.getD k 0
def mS (S : yS) (m s : Nat) (v : Sv) : Prop := yA S 11 11 m s = v.1 ∧ (yA S 11 13 m s = nI v.2.1.length ∧ v.2.1.length ≤ 17 ∧ rg (yA S 11 12 m) (18 * s) v.2.1) ∧ (yA S 11 15 m s = nI v.2.2.1.length ∧ v.2.2.1.length ≤ 17 ∧ rg (yA S 11 14 m) (18 * s) v.2.2.1) ∧ (yA S 11 16 m s = v.2.2.2.1 ∧ yA S 11 17 m s = v.2.2.2.2.1 ∧ yA S 11 18 m s = v.2.2.2.2.2.1 ∧ yA S 11 19 m s = v.2.2.2.2.2.2.1) ∧ (v.2.2.2.2.2.2.2.1.length ≤ 48 ∧ rz (yA S 11 20 m) (48 * s) v.2.2.2.2.2.2.2.1) ∧ (v.2.2.2.2.2.2.2.2.length ≤ 48 ∧ rz (yA S 11 21 m) (48 * s) v.2.2.2.2.2.2.2.2)
def mP (S : yS) (m p : Nat) (vs : List Sv) : Prop := vs.length ≤ 24 ∧ yA S 11 22 m p = nI vs.length ∧ ∀ i, i < vs.length → mS S m (24 * p + i) (vs.getD i sv0)
def mPs (S : yS) (m : Nat) (ps : List (List Sv)) : Prop := ps.length ≤ 8 ∧ yI S 11 23 m = nI ps.length ∧ ∀ p, p < ps.length → mP S m p (ps.getD p [])
def mCo (S : yS) (m : Nat) (cl : List (Nat × Nat)) : Prop := cl.length ≤ 24 ∧ yI S 11 34 m = nI cl.length ∧ ∀ k, k < cl.length → yA S 11 32 m k = nI (cl.getD k (0, 0)).1 ∧ yA S 11 33 m k = nI (cl.getD k (0, 0)).2
def mSl (S : yS) (m s : Nat) (o : Option (List Nat)) : Prop := match o with
  | none => yA S 11 38 m s = -2
  | some b => yA S 11 38 m s = nI b.length ∧ b.length ≤ 48 ∧ rg (yA S 11 37 m) (48 * s) b
def mLe (S : yS) (m r : Nat) (e : Le) : Prop := yA S 11 40 m r = nI e.1.length ∧ e.1.length ≤ 17 ∧ rg (yA S 11 39 m) (18 * r) e.1 ∧ yA S 11 41 m r = nI e.2 ∧ e.2 < 30
def mLi (S : yS) (m i : Nat) (L : List Le) : Prop := L.length ≤ 10 ∧ yA S 11 42 m i = nI L.length ∧ ∀ k, k < L.length → mLe S m (10 * i + k) (L.getD k le0)
def mDi (S : yS) (m : Nat) (D : Dv) : Prop := (∀ s, s < 30 → mSl S m s (D.1 s)) ∧ (∀ i, i < 2 → mLi S m i (D.2.1 i)) ∧ D.2.2.1 < 2 ∧ yI S 11 43 m = nI D.2.2.1 ∧ yI S 11 44 m = D.2.2.2.1 ∧ yI S 11 45 m = bI D.2.2.2.2.2 ∧ yI S 11 46 m = D.2.2.2.2.1
def mQ (Λ : yL) (S : yS) (m : Nat) (B : Ab) : Prop := mLay Λ m ∧ mTa S m B.1 ∧ mHa S m B.2.1 ∧ mTs S m (aT B) ∧ mPs S m (aP B) ∧ mCo S m B.2.2.2.2.1 ∧ mDi S m (aD B)
theorem mX {m j : Nat} {J : Nat → Prop} {S S' : yS} (k : zX m J S S') (h : ¬ J j) : yI S' 11 j m = yI S 11 j m ∧ yA S' 11 j m = yA S 11 j m := ⟨(k 11 j m (fun z => h z.2.2)).1, (k 11 j m (fun z => h z.2.2)).2.1⟩
section
variable {Λ : yL} {f0 : xH} {S S' : yS} {m d t f g : Nat} {J : Nat → Prop} {fs : List Fl} {ts : List (List Fl)} {v : Sv} {vs : List Sv} {ps : List (List Sv)} {cl : List (Nat × Nat)} {D : Dv} {bs cs : List Nat} {B : Ab} {x y a b c e z : Int32} {post : Option Value → xH → Prop}
theorem mTa_x (k : zX m J S S') (h : ∀ j, 1 ≤ j → j ≤ 2 → ¬ J j) (q : mTa S m bs) : mTa S' m bs := by
  unfold mTa
  rw [(mX k (h 1 (by omega) (by omega))).2, (mX k (h 2 (by omega) (by omega))).1]
  exact q
theorem mHa_x (k : zX m J S S') (h : ∀ j, 3 ≤ j → j ≤ 4 → ¬ J j) (q : mHa S m bs) : mHa S' m bs := by
  unfold mHa
  rw [(mX k (h 3 (by omega) (by omega))).2, (mX k (h 4 (by omega) (by omega))).1]
  exact q
theorem mF_x {q : Fl} (k : zX m J S S') (h : ∀ j, 5 ≤ j → j ≤ 8 → ¬ J j) (hq : mF S m f q) : mF S' m f q := by
  unfold mF
  rw [(mX k (h 5 (by omega) (by omega))).2, (mX k (h 6 (by omega) (by omega))).2, (mX k (h 7 (by omega) (by omega))).2, (mX k (h 8 (by omega) (by omega))).2]
  exact hq
theorem mT_x (k : zX m J S S') (h : ∀ j, 5 ≤ j → j ≤ 9 → ¬ J j) (q : mT S m t fs) : mT S' m t fs := by
  refine ⟨q.1, ?_, fun i hi => mF_x k (fun j h1 h2 => h j h1 (by omega)) (q.2.2 i hi)⟩
  rw [(mX k (h 9 (by omega) (by omega))).2]
  exact q.2.1
theorem mTs_x (k : zX m J S S') (h : ∀ j, 5 ≤ j → j ≤ 10 → ¬ J j) (q : mTs S m ts) : mTs S' m ts := by
  refine ⟨q.1, ?_, fun t ht => mT_x k (fun j h1 h2 => h j h1 (by omega)) (q.2.2 t ht)⟩
  rw [(mX k (h 10 (by omega) (by omega))).1]
  exact q.2.1
theorem mS_x {s : Nat} (k : zX m J S S') (h : ∀ j, 11 ≤ j → j ≤ 21 → ¬ J j) (q : mS S m s v) : mS S' m s v := by
  unfold mS
  rw [(mX k (h 11 (by omega) (by omega))).2, (mX k (h 12 (by omega) (by omega))).2, (mX k (h 13 (by omega) (by omega))).2, (mX k (h 14 (by omega) (by omega))).2, (mX k (h 15 (by omega) (by omega))).2, (mX k (h 16 (by omega) (by omega))).2, (mX k (h 17 (by omega) (by omega))).2, (mX k (h 18 (by omega) (by omega))).2, (mX k (h 19 (by omega) (by omega))).2, (mX k (h 20 (by omega) (by omega))).2, (mX k (h 21 (by omega) (by omega))).2]
  exact q
theorem mP_x {p : Nat} (k : zX m J S S') (h : ∀ j, 11 ≤ j → j ≤ 22 → ¬ J j) (q : mP S m p vs) : mP S' m p vs := by
  refine ⟨q.1, ?_, fun i hi => mS_x k (fun j h1 h2 => h j h1 (by omega)) (q.2.2 i hi)⟩
  rw [(mX k (h 22 (by omega) (by omega))).2]
  exact q.2.1
theorem mPs_x (k : zX m J S S') (h : ∀ j, 11 ≤ j → j ≤ 23 → ¬ J j) (q : mPs S m ps) : mPs S' m ps := by
  refine ⟨q.1, ?_, fun t ht => mP_x k (fun j h1 h2 => h j h1 (by omega)) (q.2.2 t ht)⟩
  rw [(mX k (h 23 (by omega) (by omega))).1]
  exact q.2.1
theorem mCo_x (k : zX m J S S') (h : ∀ j, 32 ≤ j → j ≤ 34 → ¬ J j) (q : mCo S m cl) : mCo S' m cl := by
  unfold mCo
  rw [(mX k (h 32 (by omega) (by omega))).2, (mX k (h 33 (by omega) (by omega))).2, (mX k (h 34 (by omega) (by omega))).1]
  exact q
theorem mSl_x {s : Nat} {o : Option (List Nat)} (k : zX m J S S') (h : ∀ j, 37 ≤ j → j ≤ 38 → ¬ J j) (q : mSl S m s o) : mSl S' m s o := by
  unfold mSl at q ⊢
  rw [(mX k (h 37 (by omega) (by omega))).2, (mX k (h 38 (by omega) (by omega))).2]
  exact q
theorem mLe_x {r : Nat} {q : Le} (k : zX m J S S') (h : ∀ j, 39 ≤ j → j ≤ 41 → ¬ J j) (hq : mLe S m r q) : mLe S' m r q := by
  unfold mLe
  rw [(mX k (h 39 (by omega) (by omega))).2, (mX k (h 40 (by omega) (by omega))).2, (mX k (h 41 (by omega) (by omega))).2]
  exact hq
theorem mLi_x {i : Nat} {L : List Le} (k : zX m J S S') (h : ∀ j, 39 ≤ j → j ≤ 42 → ¬ J j) (q : mLi S m i L) : mLi S' m i L := by
  refine ⟨q.1, ?_, fun t ht => mLe_x k (fun j h1 h2 => h j h1 (by omega)) (q.2.2 t ht)⟩
  rw [(mX k (h 42 (by omega) (by omega))).2]
  exact q.2.1
theorem mDi_x (k : zX m J S S') (h : ∀ j, 37 ≤ j → j ≤ 46 → ¬ J j) (q : mDi S m D) : mDi S' m D := by
  refine ⟨fun s hs => mSl_x k (fun j h1 h2 => h j h1 (by omega)) (q.1 s hs), fun i hi => mLi_x k (fun j h1 h2 => h j (by omega) (by omega)) (q.2.1 i hi), q.2.2.1, ?_, ?_, ?_, ?_⟩
  · rw [(mX k (h 43 (by omega) (by omega))).1]; exact q.2.2.2.1
  · rw [(mX k (h 44 (by omega) (by omega))).1]; exact q.2.2.2.2.1
  · rw [(mX k (h 45 (by omega) (by omega))).1]; exact q.2.2.2.2.2.1
  · rw [(mX k (h 46 (by omega) (by omega))).1]; exact q.2.2.2.2.2.2
/-- rows that no call tells of -/
abbrev scr (j : Nat) : Prop := j = 0 ∨ (24 ≤ j ∧ j ≤ 31) ∨ j = 35 ∨ j = 36 ∨ j = 47
theorem mQ_x (k : zX m J S S') (hJ : ∀ j, J j → scr j) (q : mQ Λ S m B) : mQ Λ S' m B := by
  obtain ⟨q0, q1, q2, q3, q4, q5, q6⟩ := q
  have hn : ∀ j, ¬ scr j → ¬ J j := fun j h z => h (hJ j z)
  exact ⟨q0, mTa_x k (fun j _ _ => hn j (by unfold scr; omega)) q1, mHa_x k (fun j _ _ => hn j (by unfold scr; omega)) q2, mTs_x k (fun j _ _ => hn j (by unfold scr; omega)) q3, mPs_x k (fun j _ _ => hn j (by unfold scr; omega)) q4, mCo_x k (fun j _ _ => hn j (by unfold scr; omega)) q5, mDi_x k (fun j _ _ => hn j (by unfold scr; omega)) q6⟩
theorem mQ_0 (q : mQ Λ S m B) : mQ Λ (ywI S 11 0 m x) m B := mQ_x (J := fun j => j = 0) (zX_wI rfl) (fun j e => Or.inl e) q
/-- the tape has changed -/
theorem mQ_a (k : zX m (fun j => j = 0 ∨ j = 1 ∨ j = 2) S S') (q : mQ Λ S m B) (h : mTa S' m bs) : mQ Λ S' m (bs, B.2) := by
  obtain ⟨q0, q1, q2, q3, q4, q5, q6⟩ := q
  exact ⟨q0, h, mHa_x k (fun j _ _ => by omega) q2, mTs_x k (fun j _ _ => by omega) q3, mPs_x k (fun j _ _ => by omega) q4, mCo_x k (fun j _ _ => by omega) q5, mDi_x k (fun j _ _ => by omega) q6⟩
theorem mQ_ah (k : zX m (fun j => j ≤ 4) S S') (q : mQ Λ S m B) (h : mTa S' m bs) (h2 : mHa S' m cs) : mQ Λ S' m (bs, cs, B.2.2) := by
  obtain ⟨q0, q1, q2, q3, q4, q5, q6⟩ := q
  exact ⟨q0, h, h2, mTs_x k (fun j _ _ => by omega) q3, mPs_x k (fun j _ _ => by omega) q4, mCo_x k (fun j _ _ => by omega) q5, mDi_x k (fun j _ _ => by omega) q6⟩
theorem Mo_noTree_sp (q : mQ Λ S m B) (h1 : ∀ i, i < (aT B).length → x = nI i → tIx (aT B).length x = some i → post (some (.int 0)) (yH Λ f0 S)) (h0 : tIx (aT B).length x = none → post (some (.int 1)) (yH Λ f0 S)) : xSp xT0 (d + 1) j_Mo_noTree [.ref m, .int x] (yH Λ f0 S) post := by
  have hl := q.2.2.2.1.1
  refine xSp_of (M := m_Mo_noTree) rfl (b_Mo_noTree_0 (ygi q.1.2.1 rfl ?_))
  rw [q.2.2.2.1.2.1]
  exact brTn (by omega) (L_n (by omega)) h0 h1
theorem Mo_noPatch_sp (q : mQ Λ S m B) (h1 : ∀ i, i < (aP B).length → x = nI i → tIx (aP B).length x = some i → post (some (.int 0)) (yH Λ f0 S)) (h0 : tIx (aP B).length x = none → post (some (.int 1)) (yH Λ f0 S)) : xSp xT0 (d + 1) j_Mo_noPatch [.ref m, .int x] (yH Λ f0 S) post := by
  have hl := q.2.2.2.2.1.1
  refine xSp_of (M := m_Mo_noPatch) rfl (b_Mo_noPatch_0 (ygi q.1.2.1 rfl ?_))
  rw [q.2.2.2.2.1.2.1]
  exact brTn (by omega) (L_n (by omega)) h0 h1
theorem byteS (y : Int32) : y.toInt8.toInt32 = sb (y.toBitVec.toNat % 256) := by
  unfold sb
  refine congrArg Int8.toInt32 (Int8.toBitVec_inj.mp ?_)
  rw [Int32.toBitVec_toInt8, Int32.toBitVec_toInt8]
  refine BitVec.eq_of_toNat_eq ?_
  rw [BitVec.signExtend_eq_setWidth_of_le _ (by omega), BitVec.signExtend_eq_setWidth_of_le _ (by omega), BitVec.toNat_setWidth, BitVec.toNat_setWidth, pk_tn (by omega)]
  omega
/-- one byte of five numbers -/
def fdN (a b c e z : Int32) (k : Nat) : Int32 := if k < 4 then a else if k < 8 then b else if k < 12 then c else if k < 16 then e else z
theorem fd_g (a b c e z : Int32) {k : Nat} (hk : k < 20) : (be4 a ++ be4 b ++ be4 c ++ be4 e ++ be4 z).getD k 0 = (fdN a b c e z k).toBitVec.toNat / 2 ^ (24 - 8 * (k % 4)) % 256 := by
  have h : k = 0 ∨ k = 1 ∨ k = 2 ∨ k = 3 ∨ k = 4 ∨ k = 5 ∨ k = 6 ∨ k = 7 ∨ k = 8 ∨ k = 9 ∨ k = 10 ∨ k = 11 ∨ k = 12 ∨ k = 13 ∨ k = 14 ∨ k = 15 ∨ k = 16 ∨ k = 17 ∨ k = 18 ∨ k = 19 := by omega
  rcases h with h | h | h | h | h | h | h | h | h | h | h | h | h | h | h | h | h | h | h | h <;> (rw [h]; rfl)
theorem shI {r : Nat} (h : r < 4) : (((nI (24 - 8 * r)).toUInt32 &&& Int32.toUInt32 31).toBitVec % 32).toNat = 24 - 8 * r := by
  have h : r = 0 ∨ r = 1 ∨ r = 2 ∨ r = 3 := by omega
  rcases h with h | h | h | h <;> (rw [h]; decide +kernel)
theorem M_feed (q : mQ Λ S m B) (hp : ∀ S', yFr (A11 m) S S' → mQ Λ S' m (a_feed B a b c e z).1 → post (some (.int (a_feed B a b c e z).2)) (yH Λ f0 S')) : xSp xT0 (d + 8) j_Mo_feed [.ref m, .int a, .int b, .int c, .int e, .int z] (yH Λ f0 S) post := by
  have hL := q.1
  have ho := hL.2.1
  have hl := q.2.1.1
  unfold a_feed at hp
  refine xSp_of (M := m_Mo_feed) rfl (b_Mo_feed_0 (ypf ho rfl (ygi ho rfl ?_)))
  rw [ywI_ne _ _ (by omega), q.2.1.2.1]
  have e20 : nI B.1.length + 20 = nI (B.1.length + 20) := nI_add _ 20
  rw [e20]
  refine brle (b := 80) (by omega) (by omega) (fun c1 => ?_) (fun c1 => ?_)
  · rw [if_neg (by omega)] at hp
    have hlo : ∀ k, k ≤ 20 → (∀ S1 (u7 : Option Value), zX m (fun j => j = 0 ∨ j = 1 ∨ j = 2) S S1 → yI S1 11 2 m = nI B.1.length → rg (yA S1 11 1 m) 0 (B.1 ++ (be4 a ++ be4 b ++ be4 c ++ be4 e ++ be4 z).take k) → xWp (xT0, xSp xT0 (d + 7), none, m_Mo_feed, post) 23 [some (.ref m), some (.int a), some (.int b), some (.int c), some (.int e), some (.int z), some (.int (nI k)), u7] [] (yH Λ f0 S1) 0 0) := by
      refine loopUp ?_ ?_
      · intro S1 u7 k1 e1 hr
        refine b_Mo_feed_23 (brle (a := 20) (by omega) (by omega) (fun _ => ygi ho rfl (ypf ho rfl (ygi ho rfl ?_))) (fun c => by omega))
        rw [e1, e20, ywI_s]
        rw [List.take_of_length_le (show (be4 a ++ be4 b ++ be4 c ++ be4 e ++ be4 z).length ≤ 20 from Nat.le_refl _)] at hr
        have k2 : zX m (fun j => j = 0 ∨ j = 1 ∨ j = 2) S (ywI S1 11 2 m (nI (B.1.length + 20))) := zX_tr k1 (zX_wI (Or.inr (Or.inr rfl)))
        have el : (B.1 ++ be4 a ++ be4 b ++ be4 c ++ be4 e ++ be4 z).length = B.1.length + 20 := by simp only [List.length_append]; rfl
        refine hp _ (zX_Fr k2) (mQ_a k2 q ⟨by rw [el]; omega, by rw [el, ywI_s], ?_⟩)
        have e3 : B.1 ++ be4 a ++ be4 b ++ be4 c ++ be4 e ++ be4 z = B.1 ++ (be4 a ++ be4 b ++ be4 c ++ be4 e ++ be4 z) := by simp only [List.append_assoc]
        rw [e3]
        exact hr
      · intro k hk ih S1 u7 k1 e1 hr
        have h76 : ∀ w, w = fdN a b c e z k → xWp (xT0, xSp xT0 (d + 7), none, m_Mo_feed, post) 76 [some (.ref m), some (.int a), some (.int b), some (.int c), some (.int e), some (.int z), some (.int (nI k)), u7] [.int w] (yH Λ f0 S1) 0 0 := by
          intro w ew
          have es : (24 : Int32) - (8 * (nI k - nI k / 4 * 4)) = nI (24 - 8 * (k % 4)) := by
            have e4 : nI k - nI k / 4 * 4 = nI (k % 4) := pk_rem (d := 4) (by omega) (by omega) (by omega)
            have e8 : (8 : Int32) * nI (k % 4) = nI (8 * (k % 4)) := pk_mul 8 _
            rw [e4, e8]
            exact pk_sub (a := 24) (by omega)
          refine b_Mo_feed_76 (ygr ho rfl (ygi ho rfl ⟨by decide, ?_⟩))
          rw [e1, nI_add, es, nI_1, byteS, byteS, pk_ushr w _ _ (shI (Nat.mod_lt _ (by omega)))]
          refine yas (mk1 hL) (yW_n hL.1 (mk1 hL)) (vp_in_nI (by omega) (by omega)) ?_
          rw [nI_clamp (by omega)]
          have hbb : w.toBitVec.toNat / 2 ^ (24 - 8 * (k % 4)) % 256 < 256 := Nat.mod_lt _ (by omega)
          have esb : sb ((sb (w.toBitVec.toNat / 2 ^ (24 - 8 * (k % 4)) % 256)).toBitVec.toNat % 256) = sb (w.toBitVec.toNat / 2 ^ (24 - 8 * (k % 4)) % 256) := by rw [← byteS, sb_id]
          rw [esb]
          refine ih _ _ (zX_tr k1 (zX_wA (Or.inr (Or.inl rfl)))) e1 (fun i hi => ?_)
          rw [yA_s]
          have el : ((be4 a ++ be4 b ++ be4 c ++ be4 e ++ be4 z).take k).length = k := by rw [List.length_take]; show min k 20 = k; omega
          have el2 : ((be4 a ++ be4 b ++ be4 c ++ be4 e ++ be4 z).take (k + 1)).length = k + 1 := by rw [List.length_take]; show min (k + 1) 20 = k + 1; omega
          rw [List.length_append, el2] at hi
          have hgd : ∀ i, i < B.1.length + k → (B.1 ++ (be4 a ++ be4 b ++ be4 c ++ be4 e ++ be4 z).take (k + 1)).getD i 0 = (B.1 ++ (be4 a ++ be4 b ++ be4 c ++ be4 e ++ be4 z).take k).getD i 0 := fun i hi => by
            rw [List.getD_eq_getElem?_getD, List.getD_eq_getElem?_getD]
            rcases Nat.lt_or_ge i B.1.length with w1 | w1
            · rw [List.getElem?_append_left w1, List.getElem?_append_left w1]
            · rw [List.getElem?_append_right w1, List.getElem?_append_right w1, List.getElem?_take, List.getElem?_take, if_pos (by omega), if_pos (by omega)]
          by_cases w2 : i = B.1.length + k
          · subst w2
            have eg : (B.1 ++ (be4 a ++ be4 b ++ be4 c ++ be4 e ++ be4 z).take (k + 1)).getD (B.1.length + k) 0 = w.toBitVec.toNat / 2 ^ (24 - 8 * (k % 4)) % 256 := by
              rw [List.getD_eq_getElem?_getD, List.getElem?_append_right (by omega), show B.1.length + k - B.1.length = k by omega, List.getElem?_take, if_pos (by omega), ← List.getD_eq_getElem?_getD, fd_g a b c e z hk, ew]
            rw [eg, Nat.zero_add, pk_us]
            exact ⟨rfl, hbb⟩
          · rw [hgd i (by omega), pk_un (by omega)]
            exact hr i (by rw [List.length_append, el]; omega)
        refine b_Mo_feed_23 (brle (a := 20) (by omega) (by omega) (fun c => by omega) (fun _ => brle (a := 4) (by omega) (by omega) (fun c4 => brle (a := 8) (by omega) (by omega) (fun c8 => brle (a := 12) (by omega) (by omega) (fun c12 => brle (a := 16) (by omega) (by omega) (fun c16 => h76 z ?_) (fun c16 => h76 e ?_)) (fun c12 => h76 c ?_)) (fun c8 => h76 b ?_)) (fun c4 => h76 a ?_)))
        · unfold fdN; rw [if_neg (by omega), if_neg (by omega), if_neg (by omega), if_neg (by omega)]
        · unfold fdN; rw [if_neg (by omega), if_neg (by omega), if_neg (by omega), if_pos (by omega)]
        · unfold fdN; rw [if_neg (by omega), if_neg (by omega), if_pos (by omega)]
        · unfold fdN; rw [if_neg (by omega), if_pos (by omega)]
        · unfold fdN; rw [if_pos (by omega)]
    refine hlo 0 (Nat.zero_le _) _ none (zX_wI (Or.inl rfl)) (by rw [ywI_ne _ _ (by omega)]; exact q.2.1.2.1) ?_
    rw [List.take_zero, List.append_nil]
    exact q.2.1.2.2
  · rw [if_pos (by omega)] at hp
    exact hp _ (zX_Fr (zX_wI (J := fun _ => True) trivial)) (mQ_0 q)
theorem M_end (q : mQ Λ S m B) (hp : ∀ S', yFr (A11 m) S S' → mQ Λ S' m (a_end B a).1 → post (some (.int (a_end B a).2)) (yH Λ f0 S')) : xSp xT0 (d + 8) j_Mo_end [.ref m, .int a] (yH Λ f0 S) post := by
  have hL := q.1
  have ho := hL.2.1
  have hl := q.2.1.1
  unfold a_end at hp
  have h0 : yFr (A11 m) S (ywI S 11 0 m 0) := zX_Fr (zX_wI (J := fun _ => True) trivial)
  refine xSp_of (M := m_Mo_end) rfl (b_Mo_end_0 (ypf ho rfl (brT (n := 21) (by omega) rfl (fun e => ?_) (fun k hk e e2 => ygi ho rfl ?_))))
  · rw [e] at hp
    exact hp _ h0 (mQ_0 q)
  · rw [e2] at hp
    dsimp only at hp
    rw [ywI_ne _ _ (by omega), q.2.1.2.1]
    refine brle (a := 20) (by omega) (by omega) (fun c1 => ygi ho rfl (ypf ho rfl (ygi ho rfl ?_))) (fun c1 => ?_)
    · rw [if_neg (by omega)] at hp
      have e3 : (nI B.1.length + nI k) - 20 = nI (B.1.length - 20 + k) := by
        rw [nI_add]
        have : nI (B.1.length + k) - nI 20 = nI (B.1.length + k - 20) := pk_sub (by omega)
        have e4 : B.1.length + k - 20 = B.1.length - 20 + k := by omega
        rw [e4] at this
        exact this
      have e5 : yI (ywI S 11 0 m 0) 11 2 m = nI B.1.length := by rw [ywI_ne _ _ (by omega)]; exact q.2.1.2.1
      rw [ywI_s, e5, e, e3]
      have k2 : zX m (fun j => j = 0 ∨ j = 1 ∨ j = 2) S (ywI (ywI S 11 0 m 0) 11 2 m (nI (B.1.length - 20 + k))) := zX_tr (zX_wI (Or.inl rfl)) (zX_wI (Or.inr (Or.inr rfl)))
      have el : (B.1.take (B.1.length - 20 + k)).length = B.1.length - 20 + k := by rw [List.length_take]; omega
      exact hp _ (zX_Fr k2) (mQ_a k2 q ⟨by rw [el]; omega, by rw [el, ywI_s], rg_take q.2.1.2.2⟩)
    · rw [if_pos (by omega)] at hp
      exact hp _ h0 (mQ_0 q)
end
