/-! 7zp rows for what makes cells -/
def xnw (f : xH) (c : xC) (K : Nat → xH → Prop) : Prop := ∀ q, f q = none → K q (xup f q c)
def xnm (f : xH) (t N K : Nat) (P : Nat → (Nat → Nat) → xH → Prop) : Prop := ∀ q w, f q = none → (∀ i, i < N → f (w i) = none ∧ w i ≠ q) → (∀ i j, i < N → j < N → w i = w j → i = j) → P q w (xmu t f q w N K)
def xsl (L : Nat) (xs : Nat → Int32) (i : Int32) (K : Int32 → Prop) : Prop := vp_in i L ∧ K (xs i.toNatClampNeg)
section
variable {d : Nat} {sc : xS} {M : xM} {E : Option Value → xH → Prop} {pc n : Nat} {k : xKk} {lv : xL} {st : List Value} {f : xH} {cu su : Nat}
theorem s_new {j : Nat} {fs : List Value} {K : Nat → xH → Prop} (nn : Nat) (hk : xlk (xm_cd M) pc = some (.new j, n, k)) (hn : k.2.2.1 = nn) (hf : xdf (k.2.2.2.map Prod.snd) = fs) (h1 : cu + 1 ≤ xm_mc M) (h2 : su + nn ≤ xm_ms M) (h : xnw f (xO k.2.1 fs) K) (g : ∀ q f', K q f' → xWp (xT0, xSp xT0 d, sc, M, E) (pc + 3) lv (.ref q :: st) f' (cu + 1) (su + nn)) : xWp (xT0, xSp xT0 d, sc, M, E) pc lv st f cu su := by
  subst hn
  subst hf
  exact xs hk ⟨h1, h2, fun q hq => g q _ (h q hq)⟩
theorem s_na {j} {x : Int32} {K : Nat → xH → Prop} (nn : Nat) (hk : xlk (xm_cd M) pc = some (.newarray j, n, k)) (hx : x.toNatClampNeg = nn) (h0 : ¬ x < 0) (h9 : nn ≤ 100000) (h1 : cu + 1 ≤ xm_mc M) (h2 : su + nn ≤ xm_ms M) (h : xnw f (xI k.2.1 nn (fun _ => 0)) K) (g : ∀ q f', K q f' → xWp (xT0, xSp xT0 d, sc, M, E) (pc + 2) lv (.ref q :: st) f' (cu + 1) (su + nn)) : xWp (xT0, xSp xT0 d, sc, M, E) pc lv (.int x :: st) f cu su := by
  subst hx
  exact xs hk ⟨h0, h9, h1, h2, fun q hq => g q _ (h q hq)⟩
theorem s_ana {j : Nat} {x : Int32} {K : Nat → xH → Prop} (nn : Nat) (hk : xlk (xm_cd M) pc = some (.anewarray j, n, k)) (hx : x.toNatClampNeg = nn) (h0 : ¬ x < 0) (h9 : nn ≤ 100000) (h1 : cu + 1 ≤ xm_mc M) (h2 : su + nn ≤ xm_ms M) (h : xnw f (xR k.2.1 nn (fun _ => none)) K) (g : ∀ q f', K q f' → xWp (xT0, xSp xT0 d, sc, M, E) (pc + 3) lv (.ref q :: st) f' (cu + 1) (su + nn)) : xWp (xT0, xSp xT0 d, sc, M, E) pc lv (.int x :: st) f cu su := by
  subst hx
  exact xs hk ⟨h0, h9, h1, h2, fun q hq => g q _ (h q hq)⟩
theorem s_mna {j e : Nat} {x y : Int32} {K : Nat → (Nat → Nat) → xH → Prop} (nn yy : Nat) (hk : xlk (xm_cd M) pc = some (.multianewarray j e, n, k)) (hx : x.toNatClampNeg = nn) (hy : y.toNatClampNeg = yy) (h0 : ¬ x < 0) (h0' : ¬ y < 0) (h9 : nn ≤ 1000) (h9' : yy ≤ 1000) (h1 : cu + (1 + nn) ≤ xm_mc M) (h2 : su + (nn + nn * yy) ≤ xm_ms M) (h : xnm f k.2.1 nn yy K) (g : ∀ q w f', K q w f' → xWp (xT0, xSp xT0 d, sc, M, E) (pc + 4) lv (.ref q :: st) f' (cu + 1 + nn) (su + nn + nn * yy)) : xWp (xT0, xSp xT0 d, sc, M, E) pc lv (.int y :: .int x :: st) f cu su := by
  subst hx
  subst hy
  exact xs hk ⟨h0, h0', h9, h9', h1, h2, fun q w e1 e2 e3 => g q w _ (h q w e1 e2 e3)⟩
theorem s_spo {j p b q a z : Nat} (hk : xlk (xm_cd M) pc = some (.invokespecial j, n, (p, b, q, [(2, z)]))) (hl : (st.map fun v => v.category).sum ≤ 8) (h : xWp (xT0, xSp xT0 d, sc, M, E) (pc + 3) lv st f cu su) : xWp (xT0, xSp xT0 d, sc, M, E) pc lv (.ref a :: st) f cu su := xs hk ⟨hl, h⟩
theorem s_csp {j a : Nat} {N : xM} {As r : List Value} {p b mc ms : Nat} {K : xH → Prop} (hk : xlk (xm_cd M) pc = some (.invokespecial j, n, (p, b, As.length, []))) (hT : xT0 b = some N) (hN : xm_mc N = mc ∧ xm_ms N = ms) (hs : st = As.reverse ++ .ref a :: r) (hr : (r.map fun v => v.category).sum ≤ 8) (hc : (.ref a :: As).all (fun v => v.category == 1) = true) (h1 : cu + mc ≤ xm_mc M) (h2 : su + ms ≤ xm_ms M)
    (h : xSp xT0 d b (.ref a :: As) f (fun w f' => xvv w (K f'))) (q : ∀ f', K f' → xWp (xT0, xSp xT0 d, sc, M, E) (pc + 3) lv r f' (cu + mc) (su + ms)) : xWp (xT0, xSp xT0 d, sc, M, E) pc lv st f cu su := by
  obtain ⟨e1, e2⟩ := hN
  subst e1
  subst e2
  refine xs hk ?_
  have hlen : st.length = As.length + 1 + r.length := by rw [hs]; simp; omega
  have ht : (st.take (As.length + 1)).reverse = .ref a :: As := by
    rw [hs, show As.reverse ++ .ref a :: r = (As.reverse ++ [.ref a]) ++ r by simp, List.take_append_of_le_length (by simp), List.take_of_length_le (by simp), List.reverse_append, List.reverse_reverse]
    rfl
  have hd : st.drop (As.length + 1) = r := by
    rw [hs, show As.reverse ++ .ref a :: r = (As.reverse ++ [.ref a]) ++ r by simp, List.drop_append_of_le_length (by simp), List.drop_of_length_le (by simp)]
    rfl
  refine ⟨by show As.length + 1 ≤ st.length; omega, ?_⟩
  show (∃ a as', (st.take (As.length + 1)).reverse = .ref a :: as') ∧ xcl (xT0, xSp xT0 d, sc, M, E) _ b (st.take (As.length + 1)).reverse (st.drop (As.length + 1)) pc lv f cu su
  rw [ht, hd]
  refine ⟨⟨a, As, rfl⟩, ?_⟩
  unfold xcl
  dsimp only [xgT, xgC, xgM]
  rw [hT]
  refine ⟨hr, hc, h1, h2, ?_⟩
  refine xSp_mono xT0 d d (Nat.le_refl _) _ _ _ _ _ (fun v f' hw => ?_) h
  revert hw
  unfold xvv
  split
  · exact fun hw => q _ hw
  · exact fun hw => hw.elim
theorem s_lsc {b L : Nat} {xs' : Nat → Int32} (hk : xlk (xm_cd M) pc = some (.arraylength, n, k)) (ht : k.2.1 = 0) (h : xWp (xT0, xSp xT0 d, some (b, L, xs'), M, E) (pc + 1) lv (.int (Int32.ofNat L) :: st) f cu su) : xWp (xT0, xSp xT0 d, some (b, L, xs'), M, E) pc lv (.ref b :: st) f cu su := xs hk (Or.inl ⟨rfl, ht.symm, h⟩)
theorem s_isc {b L : Nat} {xs' : Nat → Int32} {i : Int32} {K : Int32 → Prop} (hk : xlk (xm_cd M) pc = some (.iaload, n, k)) (h : xsl L xs' i K) (q : ∀ v, K v → xWp (xT0, xSp xT0 d, some (b, L, xs'), M, E) (pc + 1) lv (.int v :: st) f cu su) : xWp (xT0, xSp xT0 d, some (b, L, xs'), M, E) pc lv (.int i :: .ref b :: st) f cu su := xs hk (Or.inl ⟨rfl, rfl, h.1, q _ h.2⟩)
end
