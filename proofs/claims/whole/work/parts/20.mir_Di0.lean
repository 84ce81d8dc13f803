/-! blocks of Di, 0 -/
theorem l_Di_difference_0 : xlk (xm_cd m_Di_difference) 0 = some (.aload_n 3, 1, (0, 0, 0, [])) := rfl
theorem l_Di_difference_1 : xlk (xm_cd m_Di_difference) 1 = some (.invokevirtual 34, 3, (435, 49, 0, [])) := rfl
theorem l_Di_difference_4 : xlk (xm_cd m_Di_difference) 4 = some (.iconst 0, 1, (0, 0, 0, [])) := rfl
theorem l_Di_difference_5 : xlk (xm_cd m_Di_difference) 5 = some (.istore 4, 2, (0, 0, 0, [])) := rfl
theorem l_Di_difference_7 : xlk (xm_cd m_Di_difference) 7 = some (.iload 4, 2, (0, 0, 0, [])) := rfl
theorem l_Di_difference_9 : xlk (xm_cd m_Di_difference) 9 = some (.aload_n 1, 1, (0, 0, 0, [])) := rfl
theorem l_Di_difference_10 : xlk (xm_cd m_Di_difference) 10 = some (.invokevirtual 39, 3, (439, 37, 0, [])) := rfl
theorem l_Di_difference_13 : xlk (xm_cd m_Di_difference) 13 = some (.if_icmp .ge 75, 3, (0, 88, 0, [])) := rfl
theorem l_Di_difference_16 : xlk (xm_cd m_Di_difference) 16 = some (.aload_n 2, 1, (0, 0, 0, [])) := rfl
theorem l_Di_difference_17 : xlk (xm_cd m_Di_difference) 17 = some (.aload_n 1, 1, (0, 0, 0, [])) := rfl
theorem l_Di_difference_18 : xlk (xm_cd m_Di_difference) 18 = some (.iload 4, 2, (0, 0, 0, [])) := rfl
theorem l_Di_difference_20 : xlk (xm_cd m_Di_difference) 20 = some (.invokevirtual 45, 3, (440, 39, 1, [])) := rfl
theorem l_Di_difference_23 : xlk (xm_cd m_Di_difference) 23 = some (.invokevirtual 49, 3, (441, 28, 1, [])) := rfl
theorem l_Di_difference_26 : xlk (xm_cd m_Di_difference) 26 = some (.istore 5, 2, (0, 0, 0, [])) := rfl
theorem l_Di_difference_28 : xlk (xm_cd m_Di_difference) 28 = some (.aload_n 0, 1, (0, 0, 0, [])) := rfl
theorem l_Di_difference_29 : xlk (xm_cd m_Di_difference) 29 = some (.getfield 18, 3, (195, 7, 1, [])) := rfl
theorem l_Di_difference_32 : xlk (xm_cd m_Di_difference) 32 = some (.iload 4, 2, (0, 0, 0, [])) := rfl
theorem l_Di_difference_34 : xlk (xm_cd m_Di_difference) 34 = some (.iload 5, 2, (0, 0, 0, [])) := rfl
theorem l_Di_difference_36 : xlk (xm_cd m_Di_difference) 36 = some (.iconst (-1), 1, (0, 0, 0, [])) := rfl
theorem l_Di_difference_37 : xlk (xm_cd m_Di_difference) 37 = some (.if_icmp .ne 7, 3, (0, 44, 0, [])) := rfl
theorem l_Di_difference_40 : xlk (xm_cd m_Di_difference) 40 = some (.iconst 1, 1, (0, 0, 0, [])) := rfl
theorem l_Di_difference_41 : xlk (xm_cd m_Di_difference) 41 = some (.goto 4, 3, (0, 45, 0, [])) := rfl
theorem l_Di_difference_44 : xlk (xm_cd m_Di_difference) 44 = some (.iconst 0, 1, (0, 0, 0, [])) := rfl
theorem l_Di_difference_45 : xlk (xm_cd m_Di_difference) 45 = some (.bastore, 1, (0, 0, 0, [])) := rfl
theorem l_Di_difference_46 : xlk (xm_cd m_Di_difference) 46 = some (.iload 5, 2, (0, 0, 0, [])) := rfl
theorem l_Di_difference_48 : xlk (xm_cd m_Di_difference) 48 = some (.iconst (-1), 1, (0, 0, 0, [])) := rfl
theorem l_Di_difference_49 : xlk (xm_cd m_Di_difference) 49 = some (.if_icmp .eq 33, 3, (0, 82, 0, [])) := rfl
theorem l_Di_difference_52 : xlk (xm_cd m_Di_difference) 52 = some (.aload_n 1, 1, (0, 0, 0, [])) := rfl
theorem l_Di_difference_53 : xlk (xm_cd m_Di_difference) 53 = some (.iload 4, 2, (0, 0, 0, [])) := rfl
theorem l_Di_difference_55 : xlk (xm_cd m_Di_difference) 55 = some (.invokevirtual 53, 3, (442, 40, 1, [])) := rfl
theorem l_Di_difference_58 : xlk (xm_cd m_Di_difference) 58 = some (.aload_n 2, 1, (0, 0, 0, [])) := rfl
theorem l_Di_difference_59 : xlk (xm_cd m_Di_difference) 59 = some (.iload 5, 2, (0, 0, 0, [])) := rfl
theorem l_Di_difference_61 : xlk (xm_cd m_Di_difference) 61 = some (.invokevirtual 53, 3, (442, 40, 1, [])) := rfl
theorem l_Di_difference_64 : xlk (xm_cd m_Di_difference) 64 = some (.invokevirtual 56, 3, (443, 29, 1, [])) := rfl
theorem l_Di_difference_67 : xlk (xm_cd m_Di_difference) 67 = some (.ifCond .ne 15, 3, (0, 82, 0, [])) := rfl
theorem l_Di_difference_70 : xlk (xm_cd m_Di_difference) 70 = some (.aload_n 0, 1, (0, 0, 0, [])) := rfl
theorem l_Di_difference_71 : xlk (xm_cd m_Di_difference) 71 = some (.iconst 2, 1, (0, 0, 0, [])) := rfl
theorem l_Di_difference_72 : xlk (xm_cd m_Di_difference) 72 = some (.aload_n 1, 1, (0, 0, 0, [])) := rfl
theorem l_Di_difference_73 : xlk (xm_cd m_Di_difference) 73 = some (.iload 4, 2, (0, 0, 0, [])) := rfl
theorem l_Di_difference_75 : xlk (xm_cd m_Di_difference) 75 = some (.aload_n 2, 1, (0, 0, 0, [])) := rfl
theorem l_Di_difference_76 : xlk (xm_cd m_Di_difference) 76 = some (.iload 5, 2, (0, 0, 0, [])) := rfl
theorem l_Di_difference_78 : xlk (xm_cd m_Di_difference) 78 = some (.aload_n 3, 1, (0, 0, 0, [])) := rfl
theorem l_Di_difference_79 : xlk (xm_cd m_Di_difference) 79 = some (.invokevirtual 62, 3, (444, 50, 6, [])) := rfl
theorem l_Di_difference_82 : xlk (xm_cd m_Di_difference) 82 = some (.iinc 4 1, 3, (0, 0, 0, [])) := rfl
theorem l_Di_difference_85 : xlk (xm_cd m_Di_difference) 85 = some (.goto (-78), 3, (0, 7, 0, [])) := rfl
theorem l_Di_difference_88 : xlk (xm_cd m_Di_difference) 88 = some (.iconst 0, 1, (0, 0, 0, [])) := rfl
theorem l_Di_difference_89 : xlk (xm_cd m_Di_difference) 89 = some (.istore 4, 2, (0, 0, 0, [])) := rfl
theorem l_Di_difference_91 : xlk (xm_cd m_Di_difference) 91 = some (.iload 4, 2, (0, 0, 0, [])) := rfl
theorem l_Di_difference_93 : xlk (xm_cd m_Di_difference) 93 = some (.aload_n 2, 1, (0, 0, 0, [])) := rfl
theorem l_Di_difference_94 : xlk (xm_cd m_Di_difference) 94 = some (.invokevirtual 39, 3, (439, 37, 0, [])) := rfl
theorem l_Di_difference_97 : xlk (xm_cd m_Di_difference) 97 = some (.if_icmp .ge 35, 3, (0, 132, 0, [])) := rfl
theorem l_Di_difference_100 : xlk (xm_cd m_Di_difference) 100 = some (.aload_n 0, 1, (0, 0, 0, [])) := rfl
theorem l_Di_difference_101 : xlk (xm_cd m_Di_difference) 101 = some (.getfield 22, 3, (196, 7, 2, [])) := rfl
theorem l_Di_difference_104 : xlk (xm_cd m_Di_difference) 104 = some (.iload 4, 2, (0, 0, 0, [])) := rfl
theorem l_Di_difference_106 : xlk (xm_cd m_Di_difference) 106 = some (.aload_n 1, 1, (0, 0, 0, [])) := rfl
theorem l_Di_difference_107 : xlk (xm_cd m_Di_difference) 107 = some (.aload_n 2, 1, (0, 0, 0, [])) := rfl
theorem l_Di_difference_108 : xlk (xm_cd m_Di_difference) 108 = some (.iload 4, 2, (0, 0, 0, [])) := rfl
theorem l_Di_difference_110 : xlk (xm_cd m_Di_difference) 110 = some (.invokevirtual 45, 3, (440, 39, 1, [])) := rfl
theorem l_Di_difference_113 : xlk (xm_cd m_Di_difference) 113 = some (.invokevirtual 49, 3, (441, 28, 1, [])) := rfl
theorem l_Di_difference_116 : xlk (xm_cd m_Di_difference) 116 = some (.iconst (-1), 1, (0, 0, 0, [])) := rfl
theorem l_Di_difference_117 : xlk (xm_cd m_Di_difference) 117 = some (.if_icmp .ne 7, 3, (0, 124, 0, [])) := rfl
theorem l_Di_difference_120 : xlk (xm_cd m_Di_difference) 120 = some (.iconst 1, 1, (0, 0, 0, [])) := rfl
theorem l_Di_difference_121 : xlk (xm_cd m_Di_difference) 121 = some (.goto 4, 3, (0, 125, 0, [])) := rfl
theorem l_Di_difference_124 : xlk (xm_cd m_Di_difference) 124 = some (.iconst 0, 1, (0, 0, 0, [])) := rfl
theorem l_Di_difference_125 : xlk (xm_cd m_Di_difference) 125 = some (.bastore, 1, (0, 0, 0, [])) := rfl
theorem l_Di_difference_126 : xlk (xm_cd m_Di_difference) 126 = some (.iinc 4 1, 3, (0, 0, 0, [])) := rfl
theorem l_Di_difference_129 : xlk (xm_cd m_Di_difference) 129 = some (.goto (-38), 3, (0, 91, 0, [])) := rfl
theorem l_Di_difference_132 : xlk (xm_cd m_Di_difference) 132 = some (.aload_n 0, 1, (0, 0, 0, [])) := rfl
theorem l_Di_difference_133 : xlk (xm_cd m_Di_difference) 133 = some (.aload_n 1, 1, (0, 0, 0, [])) := rfl
theorem l_Di_difference_134 : xlk (xm_cd m_Di_difference) 134 = some (.aload_n 2, 1, (0, 0, 0, [])) := rfl
theorem l_Di_difference_135 : xlk (xm_cd m_Di_difference) 135 = some (.aload_n 3, 1, (0, 0, 0, [])) := rfl
theorem l_Di_difference_136 : xlk (xm_cd m_Di_difference) 136 = some (.invokevirtual 66, 3, (520, 68, 3, [])) := rfl
theorem l_Di_difference_139 : xlk (xm_cd m_Di_difference) 139 = some (.aload_n 0, 1, (0, 0, 0, [])) := rfl
theorem l_Di_difference_140 : xlk (xm_cd m_Di_difference) 140 = some (.aload_n 1, 1, (0, 0, 0, [])) := rfl
theorem l_Di_difference_141 : xlk (xm_cd m_Di_difference) 141 = some (.aload_n 2, 1, (0, 0, 0, [])) := rfl
theorem l_Di_difference_142 : xlk (xm_cd m_Di_difference) 142 = some (.aload_n 3, 1, (0, 0, 0, [])) := rfl
theorem l_Di_difference_143 : xlk (xm_cd m_Di_difference) 143 = some (.invokevirtual 70, 3, (526, 70, 3, [])) := rfl
theorem l_Di_difference_146 : xlk (xm_cd m_Di_difference) 146 = some (.aload_n 0, 1, (0, 0, 0, [])) := rfl
theorem l_Di_difference_147 : xlk (xm_cd m_Di_difference) 147 = some (.aload_n 1, 1, (0, 0, 0, [])) := rfl
theorem l_Di_difference_148 : xlk (xm_cd m_Di_difference) 148 = some (.aload_n 2, 1, (0, 0, 0, [])) := rfl
theorem l_Di_difference_149 : xlk (xm_cd m_Di_difference) 149 = some (.aload_n 3, 1, (0, 0, 0, [])) := rfl
set_option maxRecDepth 20000 in
theorem l_Di_difference_150 : xlk (xm_cd m_Di_difference) 150 = some (.invokevirtual 73, 3, (539, 74, 3, [])) := rfl
set_option maxRecDepth 20000 in
theorem l_Di_difference_153 : xlk (xm_cd m_Di_difference) 153 = some (.return_, 1, (0, 0, 0, [])) := rfl
def B_Di_difference_0 (d : Nat) (E : Option Value → xH → Prop) (f : xH) (a0 : Nat) (a1 : Nat) (a2 : Nat) (a3 : Nat) : Prop :=
  (∃ fs, f a3 = some (xO 5 fs)) ∧ xSp xT0 d j_Pa_empty [.ref a3] f (fun w1 f2 => xvv w1 (xWp (xT0, xSp xT0 d, none, m_Di_difference, E) 7 [some (.ref a0), some (.ref a1), some (.ref a2), some (.ref a3), some (.int 0), none] [] f2 0 0))
theorem b_Di_difference_0 {d : Nat} {E : Option Value → xH → Prop} {f : xH} {a0 : Nat} {a1 : Nat} {a2 : Nat} {a3 : Nat} (h : B_Di_difference_0 d E f a0 a1 a2 a3) : xWp (xT0, xSp xT0 d, none, m_Di_difference, E) 0 [some (.ref a0), some (.ref a1), some (.ref a2), some (.ref a3), none, none] [] f 0 0 := by
  unfold B_Di_difference_0 at h
  refine s_aln l_Di_difference_0 rfl ?_
  refine s_cvv (As := []) (r := []) l_Di_difference_1 rfl ⟨rfl, rfl⟩ rfl (Nat.le_of_ble_eq_true rfl) rfl ⟨Nat.zero_le _, Nat.zero_le _⟩ h (fun f2 h => ?_)
  refine s_ic 0 l_Di_difference_4 rfl ?_
  refine s_is l_Di_difference_5 (Nat.le_of_ble_eq_true rfl) ?_
  exact h
def B_Di_difference_7 (d : Nat) (E : Option Value → xH → Prop) (f : xH) (a0 : Nat) (a1 : Nat) (a2 : Nat) (a3 : Nat) (x4 : Int32) (u5 : Option Value) : Prop :=
  (∃ fs, f a1 = some (xO 2 fs)) ∧ xSp xT0 d j_Tr_size [.ref a1] f (fun w1 f2 => xvi w1 (fun v3 => xbr (v3 ≤ x4) (xWp (xT0, xSp xT0 d, none, m_Di_difference, E) 91 [some (.ref a0), some (.ref a1), some (.ref a2), some (.ref a3), some (.int 0), u5] [] f2 0 0) ((∃ fs, f2 a1 = some (xO 2 fs)) ∧ xSp xT0 d j_Tr_pathAt [.ref a1, .int x4] f2 (fun w4 f5 => xvr w4 (fun r6 => (∃ fs, f5 a2 = some (xO 2 fs)) ∧ xSp xT0 d j_Tr_find [.ref a2, .ref r6] f5 (fun w7 f8 => xvi w7 (fun v9 => xgr f8 a0 7 1 (fun r10 => xbr (¬ v9 = (-1)) (xWp (xT0, xSp xT0 d, none, m_Di_difference, E) 45 [some (.ref a0), some (.ref a1), some (.ref a2), some (.ref a3), some (.int x4), some (.int v9)] [.int 0, .int x4, .ref r10] f8 0 0) (xWp (xT0, xSp xT0 d, none, m_Di_difference, E) 45 [some (.ref a0), some (.ref a1), some (.ref a2), some (.ref a3), some (.int x4), some (.int v9)] [.int 1, .int x4, .ref r10] f8 0 0)))))))))
theorem b_Di_difference_7 {d : Nat} {E : Option Value → xH → Prop} {f : xH} {a0 : Nat} {a1 : Nat} {a2 : Nat} {a3 : Nat} {x4 : Int32} {u5 : Option Value} (h : B_Di_difference_7 d E f a0 a1 a2 a3 x4 u5) : xWp (xT0, xSp xT0 d, none, m_Di_difference, E) 7 [some (.ref a0), some (.ref a1), some (.ref a2), some (.ref a3), some (.int x4), u5] [] f 0 0 := by
  unfold B_Di_difference_7 at h
  refine s_il l_Di_difference_7 rfl ?_
  refine s_aln l_Di_difference_9 rfl ?_
  refine s_cvi (As := []) (r := [.int x4]) l_Di_difference_10 rfl ⟨rfl, rfl⟩ rfl (Nat.le_of_ble_eq_true rfl) rfl ⟨Nat.zero_le _, Nat.zero_le _⟩ h (fun v3 f2 h => ?_)
  refine s_ifc l_Di_difference_13 h (fun h => ?_) (fun h => ?_)
  · refine s_ic 0 l_Di_difference_88 rfl ?_
    refine s_is l_Di_difference_89 (Nat.le_of_ble_eq_true rfl) ?_
    exact h
  · refine s_aln l_Di_difference_16 rfl ?_
    refine s_aln l_Di_difference_17 rfl ?_
    refine s_il l_Di_difference_18 rfl ?_
    refine s_cvr (As := [.int x4]) (r := [.ref a2]) l_Di_difference_20 rfl ⟨rfl, rfl⟩ rfl (Nat.le_of_ble_eq_true rfl) rfl ⟨Nat.zero_le _, Nat.zero_le _⟩ h (fun r6 f5 h => ?_)
    refine s_cvi (As := [.ref r6]) (r := []) l_Di_difference_23 rfl ⟨rfl, rfl⟩ rfl (Nat.le_of_ble_eq_true rfl) rfl ⟨Nat.zero_le _, Nat.zero_le _⟩ h (fun v9 f8 h => ?_)
    refine s_is l_Di_difference_26 (Nat.le_of_ble_eq_true rfl) ?_
    refine s_aln l_Di_difference_28 rfl ?_
    refine s_gr l_Di_difference_29 h (fun r10 h => ?_)
    refine s_il l_Di_difference_32 rfl ?_
    refine s_il l_Di_difference_34 rfl ?_
    refine s_ic (-1) l_Di_difference_36 rfl ?_
    refine s_ifc l_Di_difference_37 h (fun h => ?_) (fun h => ?_)
    · refine s_ic 0 l_Di_difference_44 rfl ?_
      exact h
    · refine s_ic 1 l_Di_difference_40 rfl ?_
      refine s_goto l_Di_difference_41 ?_
      exact h
def B_Di_difference_45 (d : Nat) (E : Option Value → xH → Prop) (f : xH) (a0 : Nat) (a1 : Nat) (a2 : Nat) (a3 : Nat) (x4 : Int32) (x5 : Int32) (s0 : Int32) (s1 : Int32) (s2 : Nat) : Prop :=
  (s0 = 0 ∨ s0 = 1) ∧ xas f s2 1 s1 s0 (fun f1 => xbr (x5 = (-1)) (xWp (xT0, xSp xT0 d, none, m_Di_difference, E) 7 [some (.ref a0), some (.ref a1), some (.ref a2), some (.ref a3), some (.int (x4 + 1)), some (.int x5)] [] f1 0 0) ((∃ fs, f1 a1 = some (xO 2 fs)) ∧ xSp xT0 d j_Tr_contentAt [.ref a1, .int x4] f1 (fun w2 f3 => xvr w2 (fun r4 => (∃ fs, f3 a2 = some (xO 2 fs)) ∧ xSp xT0 d j_Tr_contentAt [.ref a2, .int x5] f3 (fun w5 f6 => xvr w5 (fun r7 => (∃ fs, f6 r4 = some (xO 1 fs)) ∧ xSp xT0 d j_By_equalTo [.ref r4, .ref r7] f6 (fun w8 f9 => xvi w8 (fun v10 => xbr (¬ v10 = 0) (xWp (xT0, xSp xT0 d, none, m_Di_difference, E) 7 [some (.ref a0), some (.ref a1), some (.ref a2), some (.ref a3), some (.int (x4 + 1)), some (.int x5)] [] f9 0 0) ((∃ fs, f9 a0 = some (xO 7 fs)) ∧ xSp xT0 d j_Di_addStep [.ref a0, .int 2, .ref a1, .int x4, .ref a2, .int x5, .ref a3] f9 (fun w11 f12 => xvv w11 (xWp (xT0, xSp xT0 d, none, m_Di_difference, E) 7 [some (.ref a0), some (.ref a1), some (.ref a2), some (.ref a3), some (.int (x4 + 1)), some (.int x5)] [] f12 0 0)))))))))))
theorem b_Di_difference_45 {d : Nat} {E : Option Value → xH → Prop} {f : xH} {a0 : Nat} {a1 : Nat} {a2 : Nat} {a3 : Nat} {x4 : Int32} {x5 : Int32} {s0 : Int32} {s1 : Int32} {s2 : Nat} (h : B_Di_difference_45 d E f a0 a1 a2 a3 x4 x5 s0 s1 s2) : xWp (xT0, xSp xT0 d, none, m_Di_difference, E) 45 [some (.ref a0), some (.ref a1), some (.ref a2), some (.ref a3), some (.int x4), some (.int x5)] [.int s0, .int s1, .ref s2] f 0 0 := by
  unfold B_Di_difference_45 at h
  refine s_zast l_Di_difference_45 h (fun f1 h => ?_)
  refine s_il l_Di_difference_46 rfl ?_
  refine s_ic (-1) l_Di_difference_48 rfl ?_
  refine s_ifc l_Di_difference_49 h (fun h => ?_) (fun h => ?_)
  · refine s_inc 1 l_Di_difference_82 rfl rfl ?_
    refine s_goto l_Di_difference_85 ?_
    exact h
  · refine s_aln l_Di_difference_52 rfl ?_
    refine s_il l_Di_difference_53 rfl ?_
    refine s_cvr (As := [.int x4]) (r := []) l_Di_difference_55 rfl ⟨rfl, rfl⟩ rfl (Nat.le_of_ble_eq_true rfl) rfl ⟨Nat.zero_le _, Nat.zero_le _⟩ h (fun r4 f3 h => ?_)
    refine s_aln l_Di_difference_58 rfl ?_
    refine s_il l_Di_difference_59 rfl ?_
    refine s_cvr (As := [.int x5]) (r := [.ref r4]) l_Di_difference_61 rfl ⟨rfl, rfl⟩ rfl (Nat.le_of_ble_eq_true rfl) rfl ⟨Nat.zero_le _, Nat.zero_le _⟩ h (fun r7 f6 h => ?_)
    refine s_cvi (As := [.ref r7]) (r := []) l_Di_difference_64 rfl ⟨rfl, rfl⟩ rfl (Nat.le_of_ble_eq_true rfl) rfl ⟨Nat.zero_le _, Nat.zero_le _⟩ h (fun v10 f9 h => ?_)
    refine s_if l_Di_difference_67 h (fun h => ?_) (fun h => ?_)
    · refine s_inc 1 l_Di_difference_82 rfl rfl ?_
      refine s_goto l_Di_difference_85 ?_
      exact h
    · refine s_aln l_Di_difference_70 rfl ?_
      refine s_ic 2 l_Di_difference_71 rfl ?_
      refine s_aln l_Di_difference_72 rfl ?_
      refine s_il l_Di_difference_73 rfl ?_
      refine s_aln l_Di_difference_75 rfl ?_
      refine s_il l_Di_difference_76 rfl ?_
      refine s_aln l_Di_difference_78 rfl ?_
      refine s_cvv (As := [.int 2, .ref a1, .int x4, .ref a2, .int x5, .ref a3]) (r := []) l_Di_difference_79 rfl ⟨rfl, rfl⟩ rfl (Nat.le_of_ble_eq_true rfl) rfl ⟨Nat.zero_le _, Nat.zero_le _⟩ h (fun f12 h => ?_)
      refine s_inc 1 l_Di_difference_82 rfl rfl ?_
      refine s_goto l_Di_difference_85 ?_
      exact h
def B_Di_difference_91 (d : Nat) (E : Option Value → xH → Prop) (f : xH) (a0 : Nat) (a1 : Nat) (a2 : Nat) (a3 : Nat) (x4 : Int32) (u5 : Option Value) : Prop :=
  (∃ fs, f a2 = some (xO 2 fs)) ∧ xSp xT0 d j_Tr_size [.ref a2] f (fun w1 f2 => xvi w1 (fun v3 => xbr (v3 ≤ x4) ((∃ fs, f2 a0 = some (xO 7 fs)) ∧ xSp xT0 d j_Di_addMoves [.ref a0, .ref a1, .ref a2, .ref a3] f2 (fun w4 f5 => xvv w4 ((∃ fs, f5 a0 = some (xO 7 fs)) ∧ xSp xT0 d j_Di_addMovesWithChange [.ref a0, .ref a1, .ref a2, .ref a3] f5 (fun w6 f7 => xvv w6 ((∃ fs, f7 a0 = some (xO 7 fs)) ∧ xSp xT0 d j_Di_addOthers [.ref a0, .ref a1, .ref a2, .ref a3] f7 (fun w8 f9 => xvv w8 (E none f9))))))) (xgr f2 a0 7 2 (fun r10 => (∃ fs, f2 a2 = some (xO 2 fs)) ∧ xSp xT0 d j_Tr_pathAt [.ref a2, .int x4] f2 (fun w11 f12 => xvr w11 (fun r13 => (∃ fs, f12 a1 = some (xO 2 fs)) ∧ xSp xT0 d j_Tr_find [.ref a1, .ref r13] f12 (fun w14 f15 => xvi w14 (fun v16 => xbr (¬ v16 = (-1)) (xas f15 r10 1 x4 0 (fun f17 => xWp (xT0, xSp xT0 d, none, m_Di_difference, E) 91 [some (.ref a0), some (.ref a1), some (.ref a2), some (.ref a3), some (.int (x4 + 1)), u5] [] f17 0 0)) (xas f15 r10 1 x4 1 (fun f18 => xWp (xT0, xSp xT0 d, none, m_Di_difference, E) 91 [some (.ref a0), some (.ref a1), some (.ref a2), some (.ref a3), some (.int (x4 + 1)), u5] [] f18 0 0))))))))))
theorem b_Di_difference_91 {d : Nat} {E : Option Value → xH → Prop} {f : xH} {a0 : Nat} {a1 : Nat} {a2 : Nat} {a3 : Nat} {x4 : Int32} {u5 : Option Value} (h : B_Di_difference_91 d E f a0 a1 a2 a3 x4 u5) : xWp (xT0, xSp xT0 d, none, m_Di_difference, E) 91 [some (.ref a0), some (.ref a1), some (.ref a2), some (.ref a3), some (.int x4), u5] [] f 0 0 := by
  unfold B_Di_difference_91 at h
  refine s_il l_Di_difference_91 rfl ?_
  refine s_aln l_Di_difference_93 rfl ?_
  refine s_cvi (As := []) (r := [.int x4]) l_Di_difference_94 rfl ⟨rfl, rfl⟩ rfl (Nat.le_of_ble_eq_true rfl) rfl ⟨Nat.zero_le _, Nat.zero_le _⟩ h (fun v3 f2 h => ?_)
  refine s_ifc l_Di_difference_97 h (fun h => ?_) (fun h => ?_)
  · refine s_aln l_Di_difference_132 rfl ?_
    refine s_aln l_Di_difference_133 rfl ?_
    refine s_aln l_Di_difference_134 rfl ?_
    refine s_aln l_Di_difference_135 rfl ?_
    refine s_cvv (As := [.ref a1, .ref a2, .ref a3]) (r := []) l_Di_difference_136 rfl ⟨rfl, rfl⟩ rfl (Nat.le_of_ble_eq_true rfl) rfl ⟨Nat.zero_le _, Nat.zero_le _⟩ h (fun f5 h => ?_)
    refine s_aln l_Di_difference_139 rfl ?_
    refine s_aln l_Di_difference_140 rfl ?_
    refine s_aln l_Di_difference_141 rfl ?_
    refine s_aln l_Di_difference_142 rfl ?_
    refine s_cvv (As := [.ref a1, .ref a2, .ref a3]) (r := []) l_Di_difference_143 rfl ⟨rfl, rfl⟩ rfl (Nat.le_of_ble_eq_true rfl) rfl ⟨Nat.zero_le _, Nat.zero_le _⟩ h (fun f7 h => ?_)
    refine s_aln l_Di_difference_146 rfl ?_
    refine s_aln l_Di_difference_147 rfl ?_
    refine s_aln l_Di_difference_148 rfl ?_
    refine s_aln l_Di_difference_149 rfl ?_
    refine s_cvv (As := [.ref a1, .ref a2, .ref a3]) (r := []) l_Di_difference_150 rfl ⟨rfl, rfl⟩ rfl (Nat.le_of_ble_eq_true rfl) rfl ⟨Nat.zero_le _, Nat.zero_le _⟩ h (fun f9 h => ?_)
    exact s_ret l_Di_difference_153 ⟨Nat.zero_le _, Nat.zero_le _⟩ h
  · refine s_aln l_Di_difference_100 rfl ?_
    refine s_gr l_Di_difference_101 h (fun r10 h => ?_)
    refine s_il l_Di_difference_104 rfl ?_
    refine s_aln l_Di_difference_106 rfl ?_
    refine s_aln l_Di_difference_107 rfl ?_
    refine s_il l_Di_difference_108 rfl ?_
    refine s_cvr (As := [.int x4]) (r := [.ref a1, .int x4, .ref r10]) l_Di_difference_110 rfl ⟨rfl, rfl⟩ rfl (Nat.le_of_ble_eq_true rfl) rfl ⟨Nat.zero_le _, Nat.zero_le _⟩ h (fun r13 f12 h => ?_)
    refine s_cvi (As := [.ref r13]) (r := [.int x4, .ref r10]) l_Di_difference_113 rfl ⟨rfl, rfl⟩ rfl (Nat.le_of_ble_eq_true rfl) rfl ⟨Nat.zero_le _, Nat.zero_le _⟩ h (fun v16 f15 h => ?_)
    refine s_ic (-1) l_Di_difference_116 rfl ?_
    refine s_ifc l_Di_difference_117 h (fun h => ?_) (fun h => ?_)
    · refine s_ic 0 l_Di_difference_124 rfl ?_
      refine s_zast l_Di_difference_125 ⟨Or.inl rfl, h⟩ (fun f17 h => ?_)
      refine s_inc 1 l_Di_difference_126 rfl rfl ?_
      refine s_goto l_Di_difference_129 ?_
      exact h
    · refine s_ic 1 l_Di_difference_120 rfl ?_
      refine s_goto l_Di_difference_121 ?_
      refine s_zast l_Di_difference_125 ⟨Or.inr rfl, h⟩ (fun f18 h => ?_)
      refine s_inc 1 l_Di_difference_126 rfl rfl ?_
      refine s_goto l_Di_difference_129 ?_
      exact h
theorem l_Di_addStep_0 : xlk (xm_cd m_Di_addStep) 0 = some (.aload_n 2, 1, (0, 0, 0, [])) := rfl
theorem l_Di_addStep_1 : xlk (xm_cd m_Di_addStep) 1 = some (.iload_n 3, 1, (0, 0, 0, [])) := rfl
theorem l_Di_addStep_2 : xlk (xm_cd m_Di_addStep) 2 = some (.invokevirtual 53, 3, (442, 40, 1, [])) := rfl
theorem l_Di_addStep_5 : xlk (xm_cd m_Di_addStep) 5 = some (.astore 7, 2, (0, 0, 0, [])) := rfl
theorem l_Di_addStep_7 : xlk (xm_cd m_Di_addStep) 7 = some (.aload 4, 2, (0, 0, 0, [])) := rfl
theorem l_Di_addStep_9 : xlk (xm_cd m_Di_addStep) 9 = some (.iload 5, 2, (0, 0, 0, [])) := rfl
theorem l_Di_addStep_11 : xlk (xm_cd m_Di_addStep) 11 = some (.invokevirtual 53, 3, (442, 40, 1, [])) := rfl
theorem l_Di_addStep_14 : xlk (xm_cd m_Di_addStep) 14 = some (.astore 8, 2, (0, 0, 0, [])) := rfl
theorem l_Di_addStep_16 : xlk (xm_cd m_Di_addStep) 16 = some (.aload 6, 2, (0, 0, 0, [])) := rfl
theorem l_Di_addStep_18 : xlk (xm_cd m_Di_addStep) 18 = some (.invokevirtual 104, 3, (447, 51, 0, [])) := rfl
theorem l_Di_addStep_21 : xlk (xm_cd m_Di_addStep) 21 = some (.astore 9, 2, (0, 0, 0, [])) := rfl
theorem l_Di_addStep_23 : xlk (xm_cd m_Di_addStep) 23 = some (.aload 9, 2, (0, 0, 0, [])) := rfl
theorem l_Di_addStep_25 : xlk (xm_cd m_Di_addStep) 25 = some (.iload_n 1, 1, (0, 0, 0, [])) := rfl
theorem l_Di_addStep_26 : xlk (xm_cd m_Di_addStep) 26 = some (.putfield 108, 3, (0, 4, 4, [(0, 0)])) := rfl
theorem l_Di_addStep_29 : xlk (xm_cd m_Di_addStep) 29 = some (.aload 9, 2, (0, 0, 0, [])) := rfl
theorem l_Di_addStep_31 : xlk (xm_cd m_Di_addStep) 31 = some (.iload_n 1, 1, (0, 0, 0, [])) := rfl
theorem l_Di_addStep_32 : xlk (xm_cd m_Di_addStep) 32 = some (.ifCond .ne 13, 3, (0, 45, 0, [])) := rfl
theorem l_Di_addStep_35 : xlk (xm_cd m_Di_addStep) 35 = some (.aload 4, 2, (0, 0, 0, [])) := rfl
theorem l_Di_addStep_37 : xlk (xm_cd m_Di_addStep) 37 = some (.iload 5, 2, (0, 0, 0, [])) := rfl
theorem l_Di_addStep_39 : xlk (xm_cd m_Di_addStep) 39 = some (.invokevirtual 45, 3, (440, 39, 1, [])) := rfl
theorem l_Di_addStep_42 : xlk (xm_cd m_Di_addStep) 42 = some (.goto 8, 3, (0, 50, 0, [])) := rfl
theorem l_Di_addStep_45 : xlk (xm_cd m_Di_addStep) 45 = some (.aload_n 2, 1, (0, 0, 0, [])) := rfl
theorem l_Di_addStep_46 : xlk (xm_cd m_Di_addStep) 46 = some (.iload_n 3, 1, (0, 0, 0, [])) := rfl
theorem l_Di_addStep_47 : xlk (xm_cd m_Di_addStep) 47 = some (.invokevirtual 45, 3, (440, 39, 1, [])) := rfl
theorem l_Di_addStep_50 : xlk (xm_cd m_Di_addStep) 50 = some (.aload 7, 2, (0, 0, 0, [])) := rfl
theorem l_Di_addStep_52 : xlk (xm_cd m_Di_addStep) 52 = some (.invokevirtual 113, 3, (451, 52, 2, [])) := rfl
theorem l_Di_addStep_55 : xlk (xm_cd m_Di_addStep) 55 = some (.aload 9, 2, (0, 0, 0, [])) := rfl
theorem l_Di_addStep_57 : xlk (xm_cd m_Di_addStep) 57 = some (.iload_n 1, 1, (0, 0, 0, [])) := rfl
theorem l_Di_addStep_58 : xlk (xm_cd m_Di_addStep) 58 = some (.iconst 1, 1, (0, 0, 0, [])) := rfl
theorem l_Di_addStep_59 : xlk (xm_cd m_Di_addStep) 59 = some (.if_icmp .ne 11, 3, (0, 70, 0, [])) := rfl
theorem l_Di_addStep_62 : xlk (xm_cd m_Di_addStep) 62 = some (.aload_n 2, 1, (0, 0, 0, [])) := rfl
theorem l_Di_addStep_63 : xlk (xm_cd m_Di_addStep) 63 = some (.iload_n 3, 1, (0, 0, 0, [])) := rfl
theorem l_Di_addStep_64 : xlk (xm_cd m_Di_addStep) 64 = some (.invokevirtual 45, 3, (440, 39, 1, [])) := rfl
theorem l_Di_addStep_67 : xlk (xm_cd m_Di_addStep) 67 = some (.goto 10, 3, (0, 77, 0, [])) := rfl
theorem l_Di_addStep_70 : xlk (xm_cd m_Di_addStep) 70 = some (.aload 4, 2, (0, 0, 0, [])) := rfl
theorem l_Di_addStep_72 : xlk (xm_cd m_Di_addStep) 72 = some (.iload 5, 2, (0, 0, 0, [])) := rfl
theorem l_Di_addStep_74 : xlk (xm_cd m_Di_addStep) 74 = some (.invokevirtual 45, 3, (440, 39, 1, [])) := rfl
theorem l_Di_addStep_77 : xlk (xm_cd m_Di_addStep) 77 = some (.aload 8, 2, (0, 0, 0, [])) := rfl
theorem l_Di_addStep_79 : xlk (xm_cd m_Di_addStep) 79 = some (.invokevirtual 117, 3, (462, 54, 2, [])) := rfl
theorem l_Di_addStep_82 : xlk (xm_cd m_Di_addStep) 82 = some (.iload_n 1, 1, (0, 0, 0, [])) := rfl
theorem l_Di_addStep_83 : xlk (xm_cd m_Di_addStep) 83 = some (.iconst 3, 1, (0, 0, 0, [])) := rfl
theorem l_Di_addStep_84 : xlk (xm_cd m_Di_addStep) 84 = some (.if_icmp .ne 32, 3, (0, 116, 0, [])) := rfl
theorem l_Di_addStep_87 : xlk (xm_cd m_Di_addStep) 87 = some (.aload 9, 2, (0, 0, 0, [])) := rfl
theorem l_Di_addStep_89 : xlk (xm_cd m_Di_addStep) 89 = some (.getfield 120, 3, (0, 4, 2, [])) := rfl
theorem l_Di_addStep_92 : xlk (xm_cd m_Di_addStep) 92 = some (.aload 7, 2, (0, 0, 0, [])) := rfl
theorem l_Di_addStep_94 : xlk (xm_cd m_Di_addStep) 94 = some (.invokevirtual 76, 3, (470, 12, 0, [])) := rfl
theorem l_Di_addStep_97 : xlk (xm_cd m_Di_addStep) 97 = some (.invokevirtual 124, 3, (471, 56, 1, [])) := rfl
theorem l_Di_addStep_100 : xlk (xm_cd m_Di_addStep) 100 = some (.aload 9, 2, (0, 0, 0, [])) := rfl
theorem l_Di_addStep_102 : xlk (xm_cd m_Di_addStep) 102 = some (.getfield 130, 3, (0, 4, 3, [])) := rfl
theorem l_Di_addStep_105 : xlk (xm_cd m_Di_addStep) 105 = some (.aload 8, 2, (0, 0, 0, [])) := rfl
theorem l_Di_addStep_107 : xlk (xm_cd m_Di_addStep) 107 = some (.invokevirtual 76, 3, (470, 12, 0, [])) := rfl
theorem l_Di_addStep_110 : xlk (xm_cd m_Di_addStep) 110 = some (.invokevirtual 124, 3, (471, 56, 1, [])) := rfl
theorem l_Di_addStep_113 : xlk (xm_cd m_Di_addStep) 113 = some (.goto 35, 3, (0, 148, 0, [])) := rfl
theorem l_Di_addStep_116 : xlk (xm_cd m_Di_addStep) 116 = some (.aload_n 0, 1, (0, 0, 0, [])) := rfl
theorem l_Di_addStep_117 : xlk (xm_cd m_Di_addStep) 117 = some (.getfield 12, 3, (194, 7, 0, [])) := rfl
theorem l_Di_addStep_120 : xlk (xm_cd m_Di_addStep) 120 = some (.aload 7, 2, (0, 0, 0, [])) := rfl
theorem l_Di_addStep_122 : xlk (xm_cd m_Di_addStep) 122 = some (.aload 8, 2, (0, 0, 0, [])) := rfl
theorem l_Di_addStep_124 : xlk (xm_cd m_Di_addStep) 124 = some (.aload 9, 2, (0, 0, 0, [])) := rfl
theorem l_Di_addStep_126 : xlk (xm_cd m_Di_addStep) 126 = some (.getfield 120, 3, (0, 4, 2, [])) := rfl
theorem l_Di_addStep_129 : xlk (xm_cd m_Di_addStep) 129 = some (.invokevirtual 133, 3, (482, 59, 3, [])) := rfl
theorem l_Di_addStep_132 : xlk (xm_cd m_Di_addStep) 132 = some (.aload_n 0, 1, (0, 0, 0, [])) := rfl
theorem l_Di_addStep_133 : xlk (xm_cd m_Di_addStep) 133 = some (.getfield 12, 3, (194, 7, 0, [])) := rfl
theorem l_Di_addStep_136 : xlk (xm_cd m_Di_addStep) 136 = some (.aload 8, 2, (0, 0, 0, [])) := rfl
theorem l_Di_addStep_138 : xlk (xm_cd m_Di_addStep) 138 = some (.aload 7, 2, (0, 0, 0, [])) := rfl
theorem l_Di_addStep_140 : xlk (xm_cd m_Di_addStep) 140 = some (.aload 9, 2, (0, 0, 0, [])) := rfl
theorem l_Di_addStep_142 : xlk (xm_cd m_Di_addStep) 142 = some (.getfield 130, 3, (0, 4, 3, [])) := rfl
theorem l_Di_addStep_145 : xlk (xm_cd m_Di_addStep) 145 = some (.invokevirtual 133, 3, (482, 59, 3, [])) := rfl
theorem l_Di_addStep_148 : xlk (xm_cd m_Di_addStep) 148 = some (.aload 6, 2, (0, 0, 0, [])) := rfl
theorem l_Di_addStep_150 : xlk (xm_cd m_Di_addStep) 150 = some (.invokevirtual 137, 3, (511, 66, 0, [])) := rfl
theorem l_Di_addStep_153 : xlk (xm_cd m_Di_addStep) 153 = some (.pop, 1, (0, 0, 0, [])) := rfl
theorem l_Di_addStep_154 : xlk (xm_cd m_Di_addStep) 154 = some (.return_, 1, (0, 0, 0, [])) := rfl
def B_Di_addStep_0 (d : Nat) (E : Option Value → xH → Prop) (f : xH) (a0 : Nat) (x1 : Int32) (a2 : Nat) (x3 : Int32) (a4 : Nat) (x5 : Int32) (a6 : Nat) : Prop :=
  (∃ fs, f a2 = some (xO 2 fs)) ∧ xSp xT0 d j_Tr_contentAt [.ref a2, .int x3] f (fun w1 f2 => xvr w1 (fun r3 => (∃ fs, f2 a4 = some (xO 2 fs)) ∧ xSp xT0 d j_Tr_contentAt [.ref a4, .int x5] f2 (fun w4 f5 => xvr w4 (fun r6 => (∃ fs, f5 a6 = some (xO 5 fs)) ∧ xSp xT0 d j_Pa_blank [.ref a6] f5 (fun w7 f8 => xvr w7 (fun r9 => xpf f8 r9 4 4 (.int x1) (fun f10 => xbr (¬ x1 = 0) ((∃ fs, f10 a2 = some (xO 2 fs)) ∧ xSp xT0 d j_Tr_pathAt [.ref a2, .int x3] f10 (fun w11 f12 => xvr w11 (fun r13 => xWp (xT0, xSp xT0 d, none, m_Di_addStep, E) 50 [some (.ref a0), some (.int x1), some (.ref a2), some (.int x3), some (.ref a4), some (.int x5), some (.ref a6), some (.ref r3), some (.ref r6), some (.ref r9)] [.ref r13, .ref r9] f12 0 0))) ((∃ fs, f10 a4 = some (xO 2 fs)) ∧ xSp xT0 d j_Tr_pathAt [.ref a4, .int x5] f10 (fun w14 f15 => xvr w14 (fun r16 => xWp (xT0, xSp xT0 d, none, m_Di_addStep, E) 50 [some (.ref a0), some (.int x1), some (.ref a2), some (.int x3), some (.ref a4), some (.int x5), some (.ref a6), some (.ref r3), some (.ref r6), some (.ref r9)] [.ref r16, .ref r9] f15 0 0))))))))))
theorem b_Di_addStep_0 {d : Nat} {E : Option Value → xH → Prop} {f : xH} {a0 : Nat} {x1 : Int32} {a2 : Nat} {x3 : Int32} {a4 : Nat} {x5 : Int32} {a6 : Nat} (h : B_Di_addStep_0 d E f a0 x1 a2 x3 a4 x5 a6) : xWp (xT0, xSp xT0 d, none, m_Di_addStep, E) 0 [some (.ref a0), some (.int x1), some (.ref a2), some (.int x3), some (.ref a4), some (.int x5), some (.ref a6), none, none, none] [] f 0 0 := by
  unfold B_Di_addStep_0 at h
  refine s_aln l_Di_addStep_0 rfl ?_
  refine s_iln l_Di_addStep_1 rfl ?_
  refine s_cvr (As := [.int x3]) (r := []) l_Di_addStep_2 rfl ⟨rfl, rfl⟩ rfl (Nat.le_of_ble_eq_true rfl) rfl ⟨Nat.zero_le _, Nat.zero_le _⟩ h (fun r3 f2 h => ?_)
  refine s_as l_Di_addStep_5 (Nat.le_of_ble_eq_true rfl) ?_
  refine s_al l_Di_addStep_7 rfl ?_
  refine s_il l_Di_addStep_9 rfl ?_
  refine s_cvr (As := [.int x5]) (r := []) l_Di_addStep_11 rfl ⟨rfl, rfl⟩ rfl (Nat.le_of_ble_eq_true rfl) rfl ⟨Nat.zero_le _, Nat.zero_le _⟩ h (fun r6 f5 h => ?_)
  refine s_as l_Di_addStep_14 (Nat.le_of_ble_eq_true rfl) ?_
  refine s_al l_Di_addStep_16 rfl ?_
  refine s_cvr (As := []) (r := []) l_Di_addStep_18 rfl ⟨rfl, rfl⟩ rfl (Nat.le_of_ble_eq_true rfl) rfl ⟨Nat.zero_le _, Nat.zero_le _⟩ h (fun r9 f8 h => ?_)
  refine s_as l_Di_addStep_21 (Nat.le_of_ble_eq_true rfl) ?_
  refine s_al l_Di_addStep_23 rfl ?_
  refine s_iln l_Di_addStep_25 rfl ?_
  refine s_pf l_Di_addStep_26 ⟨_, rfl⟩ h (fun f10 h => ?_)
  refine s_al l_Di_addStep_29 rfl ?_
  refine s_iln l_Di_addStep_31 rfl ?_
  refine s_if l_Di_addStep_32 h (fun h => ?_) (fun h => ?_)
  · refine s_aln l_Di_addStep_45 rfl ?_
    refine s_iln l_Di_addStep_46 rfl ?_
    refine s_cvr (As := [.int x3]) (r := [.ref r9]) l_Di_addStep_47 rfl ⟨rfl, rfl⟩ rfl (Nat.le_of_ble_eq_true rfl) rfl ⟨Nat.zero_le _, Nat.zero_le _⟩ h (fun r13 f12 h => ?_)
    exact h
  · refine s_al l_Di_addStep_35 rfl ?_
    refine s_il l_Di_addStep_37 rfl ?_
    refine s_cvr (As := [.int x5]) (r := [.ref r9]) l_Di_addStep_39 rfl ⟨rfl, rfl⟩ rfl (Nat.le_of_ble_eq_true rfl) rfl ⟨Nat.zero_le _, Nat.zero_le _⟩ h (fun r16 f15 h => ?_)
    refine s_goto l_Di_addStep_42 ?_
    exact h
def B_Di_addStep_50 (d : Nat) (E : Option Value → xH → Prop) (f : xH) (a0 : Nat) (x1 : Int32) (a2 : Nat) (x3 : Int32) (a4 : Nat) (x5 : Int32) (a6 : Nat) (a7 : Nat) (a8 : Nat) (a9 : Nat) (s0 : Nat) (s1 : Nat) : Prop :=
  (∃ fs, f s1 = some (xO 4 fs)) ∧ xSp xT0 d j_St_setSource [.ref s1, .ref s0, .ref a7] f (fun w1 f2 => xvv w1 (xbr (¬ x1 = 1) ((∃ fs, f2 a4 = some (xO 2 fs)) ∧ xSp xT0 d j_Tr_pathAt [.ref a4, .int x5] f2 (fun w3 f4 => xvr w3 (fun r5 => xWp (xT0, xSp xT0 d, none, m_Di_addStep, E) 77 [some (.ref a0), some (.int x1), some (.ref a2), some (.int x3), some (.ref a4), some (.int x5), some (.ref a6), some (.ref a7), some (.ref a8), some (.ref a9)] [.ref r5, .ref a9] f4 0 0))) ((∃ fs, f2 a2 = some (xO 2 fs)) ∧ xSp xT0 d j_Tr_pathAt [.ref a2, .int x3] f2 (fun w6 f7 => xvr w6 (fun r8 => xWp (xT0, xSp xT0 d, none, m_Di_addStep, E) 77 [some (.ref a0), some (.int x1), some (.ref a2), some (.int x3), some (.ref a4), some (.int x5), some (.ref a6), some (.ref a7), some (.ref a8), some (.ref a9)] [.ref r8, .ref a9] f7 0 0)))))
theorem b_Di_addStep_50 {d : Nat} {E : Option Value → xH → Prop} {f : xH} {a0 : Nat} {x1 : Int32} {a2 : Nat} {x3 : Int32} {a4 : Nat} {x5 : Int32} {a6 : Nat} {a7 : Nat} {a8 : Nat} {a9 : Nat} {s0 : Nat} {s1 : Nat} (h : B_Di_addStep_50 d E f a0 x1 a2 x3 a4 x5 a6 a7 a8 a9 s0 s1) : xWp (xT0, xSp xT0 d, none, m_Di_addStep, E) 50 [some (.ref a0), some (.int x1), some (.ref a2), some (.int x3), some (.ref a4), some (.int x5), some (.ref a6), some (.ref a7), some (.ref a8), some (.ref a9)] [.ref s0, .ref s1] f 0 0 := by
  unfold B_Di_addStep_50 at h
  refine s_al l_Di_addStep_50 rfl ?_
  refine s_cvv (As := [.ref s0, .ref a7]) (r := []) l_Di_addStep_52 rfl ⟨rfl, rfl⟩ rfl (Nat.le_of_ble_eq_true rfl) rfl ⟨Nat.zero_le _, Nat.zero_le _⟩ h (fun f2 h => ?_)
  refine s_al l_Di_addStep_55 rfl ?_
  refine s_iln l_Di_addStep_57 rfl ?_
  refine s_ic 1 l_Di_addStep_58 rfl ?_
  refine s_ifc l_Di_addStep_59 h (fun h => ?_) (fun h => ?_)
  · refine s_al l_Di_addStep_70 rfl ?_
    refine s_il l_Di_addStep_72 rfl ?_
    refine s_cvr (As := [.int x5]) (r := [.ref a9]) l_Di_addStep_74 rfl ⟨rfl, rfl⟩ rfl (Nat.le_of_ble_eq_true rfl) rfl ⟨Nat.zero_le _, Nat.zero_le _⟩ h (fun r5 f4 h => ?_)
    exact h
  · refine s_aln l_Di_addStep_62 rfl ?_
    refine s_iln l_Di_addStep_63 rfl ?_
    refine s_cvr (As := [.int x3]) (r := [.ref a9]) l_Di_addStep_64 rfl ⟨rfl, rfl⟩ rfl (Nat.le_of_ble_eq_true rfl) rfl ⟨Nat.zero_le _, Nat.zero_le _⟩ h (fun r8 f7 h => ?_)
    refine s_goto l_Di_addStep_67 ?_
    exact h
def B_Di_addStep_77 (d : Nat) (E : Option Value → xH → Prop) (f : xH) (a0 : Nat) (x1 : Int32) (a2 : Nat) (x3 : Int32) (a4 : Nat) (x5 : Int32) (a6 : Nat) (a7 : Nat) (a8 : Nat) (a9 : Nat) (s0 : Nat) (s1 : Nat) : Prop :=
  (∃ fs, f s1 = some (xO 4 fs)) ∧ xSp xT0 d j_St_setTarget [.ref s1, .ref s0, .ref a8] f (fun w1 f2 => xvv w1 (xbr (¬ x1 = 3) (xgr f2 a0 7 0 (fun r3 => xgr f2 a9 4 2 (fun r4 => (∃ fs, f2 r3 = some (xO 6 fs)) ∧ xSp xT0 d j_We_weave [.ref r3, .ref a7, .ref a8, .ref r4] f2 (fun w5 f6 => xvv w5 (xgr f6 a0 7 0 (fun r7 => xgr f6 a9 4 3 (fun r8 => (∃ fs, f6 r7 = some (xO 6 fs)) ∧ xSp xT0 d j_We_weave [.ref r7, .ref a8, .ref a7, .ref r8] f6 (fun w9 f10 => xvv w9 ((∃ fs, f10 a6 = some (xO 5 fs)) ∧ xSp xT0 d j_Pa_keepBlank [.ref a6] f10 (fun w11 f12 => xvi w11 (fun v13 => E none f12))))))))))) (xgr f2 a9 4 2 (fun r14 => (∃ fs, f2 a7 = some (xO 1 fs)) ∧ xSp xT0 d j_By_size [.ref a7] f2 (fun w15 f16 => xvi w15 (fun v17 => (∃ fs, f16 r14 = some (xO 3 fs)) ∧ xSp xT0 d j_De_becomeWhole [.ref r14, .int v17] f16 (fun w18 f19 => xvv w18 (xgr f19 a9 4 3 (fun r20 => (∃ fs, f19 a8 = some (xO 1 fs)) ∧ xSp xT0 d j_By_size [.ref a8] f19 (fun w21 f22 => xvi w21 (fun v23 => (∃ fs, f22 r20 = some (xO 3 fs)) ∧ xSp xT0 d j_De_becomeWhole [.ref r20, .int v23] f22 (fun w24 f25 => xvv w24 ((∃ fs, f25 a6 = some (xO 5 fs)) ∧ xSp xT0 d j_Pa_keepBlank [.ref a6] f25 (fun w26 f27 => xvi w26 (fun v28 => E none f27)))))))))))))))
theorem b_Di_addStep_77 {d : Nat} {E : Option Value → xH → Prop} {f : xH} {a0 : Nat} {x1 : Int32} {a2 : Nat} {x3 : Int32} {a4 : Nat} {x5 : Int32} {a6 : Nat} {a7 : Nat} {a8 : Nat} {a9 : Nat} {s0 : Nat} {s1 : Nat} (h : B_Di_addStep_77 d E f a0 x1 a2 x3 a4 x5 a6 a7 a8 a9 s0 s1) : xWp (xT0, xSp xT0 d, none, m_Di_addStep, E) 77 [some (.ref a0), some (.int x1), some (.ref a2), some (.int x3), some (.ref a4), some (.int x5), some (.ref a6), some (.ref a7), some (.ref a8), some (.ref a9)] [.ref s0, .ref s1] f 0 0 := by
  unfold B_Di_addStep_77 at h
  refine s_al l_Di_addStep_77 rfl ?_
  refine s_cvv (As := [.ref s0, .ref a8]) (r := []) l_Di_addStep_79 rfl ⟨rfl, rfl⟩ rfl (Nat.le_of_ble_eq_true rfl) rfl ⟨Nat.zero_le _, Nat.zero_le _⟩ h (fun f2 h => ?_)
  refine s_iln l_Di_addStep_82 rfl ?_
  refine s_ic 3 l_Di_addStep_83 rfl ?_
  refine s_ifc l_Di_addStep_84 h (fun h => ?_) (fun h => ?_)
  · refine s_aln l_Di_addStep_116 rfl ?_
    refine s_gr l_Di_addStep_117 h (fun r3 h => ?_)
    refine s_al l_Di_addStep_120 rfl ?_
    refine s_al l_Di_addStep_122 rfl ?_
    refine s_al l_Di_addStep_124 rfl ?_
    refine s_gr l_Di_addStep_126 h (fun r4 h => ?_)
    refine s_cvv (As := [.ref a7, .ref a8, .ref r4]) (r := []) l_Di_addStep_129 rfl ⟨rfl, rfl⟩ rfl (Nat.le_of_ble_eq_true rfl) rfl ⟨Nat.zero_le _, Nat.zero_le _⟩ h (fun f6 h => ?_)
    refine s_aln l_Di_addStep_132 rfl ?_
    refine s_gr l_Di_addStep_133 h (fun r7 h => ?_)
    refine s_al l_Di_addStep_136 rfl ?_
    refine s_al l_Di_addStep_138 rfl ?_
    refine s_al l_Di_addStep_140 rfl ?_
    refine s_gr l_Di_addStep_142 h (fun r8 h => ?_)
    refine s_cvv (As := [.ref a8, .ref a7, .ref r8]) (r := []) l_Di_addStep_145 rfl ⟨rfl, rfl⟩ rfl (Nat.le_of_ble_eq_true rfl) rfl ⟨Nat.zero_le _, Nat.zero_le _⟩ h (fun f10 h => ?_)
    refine s_al l_Di_addStep_148 rfl ?_
    refine s_cvi (As := []) (r := []) l_Di_addStep_150 rfl ⟨rfl, rfl⟩ rfl (Nat.le_of_ble_eq_true rfl) rfl ⟨Nat.zero_le _, Nat.zero_le _⟩ h (fun v13 f12 h => ?_)
    refine s_pop l_Di_addStep_153 rfl ?_
    exact s_ret l_Di_addStep_154 ⟨Nat.zero_le _, Nat.zero_le _⟩ h
  · refine s_al l_Di_addStep_87 rfl ?_
    refine s_gr l_Di_addStep_89 h (fun r14 h => ?_)
    refine s_al l_Di_addStep_92 rfl ?_
    refine s_cvi (As := []) (r := [.ref r14]) l_Di_addStep_94 rfl ⟨rfl, rfl⟩ rfl (Nat.le_of_ble_eq_true rfl) rfl ⟨Nat.zero_le _, Nat.zero_le _⟩ h (fun v17 f16 h => ?_)
    refine s_cvv (As := [.int v17]) (r := []) l_Di_addStep_97 rfl ⟨rfl, rfl⟩ rfl (Nat.le_of_ble_eq_true rfl) rfl ⟨Nat.zero_le _, Nat.zero_le _⟩ h (fun f19 h => ?_)
    refine s_al l_Di_addStep_100 rfl ?_
    refine s_gr l_Di_addStep_102 h (fun r20 h => ?_)
    refine s_al l_Di_addStep_105 rfl ?_
    refine s_cvi (As := []) (r := [.ref r20]) l_Di_addStep_107 rfl ⟨rfl, rfl⟩ rfl (Nat.le_of_ble_eq_true rfl) rfl ⟨Nat.zero_le _, Nat.zero_le _⟩ h (fun v23 f22 h => ?_)
    refine s_cvv (As := [.int v23]) (r := []) l_Di_addStep_110 rfl ⟨rfl, rfl⟩ rfl (Nat.le_of_ble_eq_true rfl) rfl ⟨Nat.zero_le _, Nat.zero_le _⟩ h (fun f25 h => ?_)
    refine s_goto l_Di_addStep_113 ?_
    refine s_al l_Di_addStep_148 rfl ?_
    refine s_cvi (As := []) (r := []) l_Di_addStep_150 rfl ⟨rfl, rfl⟩ rfl (Nat.le_of_ble_eq_true rfl) rfl ⟨Nat.zero_le _, Nat.zero_le _⟩ h (fun v28 f27 h => ?_)
    refine s_pop l_Di_addStep_153 rfl ?_
    exact s_ret l_Di_addStep_154 ⟨Nat.zero_le _, Nat.zero_le _⟩ h
theorem l_Di_addMoves_0 : xlk (xm_cd m_Di_addMoves) 0 = some (.iconst 0, 1, (0, 0, 0, [])) := rfl
theorem l_Di_addMoves_1 : xlk (xm_cd m_Di_addMoves) 1 = some (.istore 4, 2, (0, 0, 0, [])) := rfl
theorem l_Di_addMoves_3 : xlk (xm_cd m_Di_addMoves) 3 = some (.iload 4, 2, (0, 0, 0, [])) := rfl
theorem l_Di_addMoves_5 : xlk (xm_cd m_Di_addMoves) 5 = some (.aload_n 2, 1, (0, 0, 0, [])) := rfl
theorem l_Di_addMoves_6 : xlk (xm_cd m_Di_addMoves) 6 = some (.invokevirtual 39, 3, (439, 37, 0, [])) := rfl
theorem l_Di_addMoves_9 : xlk (xm_cd m_Di_addMoves) 9 = some (.if_icmp .ge 78, 3, (0, 87, 0, [])) := rfl
theorem l_Di_addMoves_12 : xlk (xm_cd m_Di_addMoves) 12 = some (.aload_n 0, 1, (0, 0, 0, [])) := rfl
theorem l_Di_addMoves_13 : xlk (xm_cd m_Di_addMoves) 13 = some (.getfield 22, 3, (196, 7, 2, [])) := rfl
theorem l_Di_addMoves_16 : xlk (xm_cd m_Di_addMoves) 16 = some (.iload 4, 2, (0, 0, 0, [])) := rfl
theorem l_Di_addMoves_18 : xlk (xm_cd m_Di_addMoves) 18 = some (.baload, 1, (0, 0, 0, [])) := rfl
theorem l_Di_addMoves_19 : xlk (xm_cd m_Di_addMoves) 19 = some (.ifCond .eq 62, 3, (0, 81, 0, [])) := rfl
theorem l_Di_addMoves_22 : xlk (xm_cd m_Di_addMoves) 22 = some (.aload_n 2, 1, (0, 0, 0, [])) := rfl
theorem l_Di_addMoves_23 : xlk (xm_cd m_Di_addMoves) 23 = some (.iload 4, 2, (0, 0, 0, [])) := rfl
theorem l_Di_addMoves_25 : xlk (xm_cd m_Di_addMoves) 25 = some (.invokevirtual 53, 3, (442, 40, 1, [])) := rfl
theorem l_Di_addMoves_28 : xlk (xm_cd m_Di_addMoves) 28 = some (.invokevirtual 76, 3, (470, 12, 0, [])) := rfl
theorem l_Di_addMoves_31 : xlk (xm_cd m_Di_addMoves) 31 = some (.ifCond .le 50, 3, (0, 81, 0, [])) := rfl
theorem l_Di_addMoves_34 : xlk (xm_cd m_Di_addMoves) 34 = some (.aload_n 0, 1, (0, 0, 0, [])) := rfl
theorem l_Di_addMoves_35 : xlk (xm_cd m_Di_addMoves) 35 = some (.aload_n 2, 1, (0, 0, 0, [])) := rfl
theorem l_Di_addMoves_36 : xlk (xm_cd m_Di_addMoves) 36 = some (.iload 4, 2, (0, 0, 0, [])) := rfl
theorem l_Di_addMoves_38 : xlk (xm_cd m_Di_addMoves) 38 = some (.invokevirtual 53, 3, (442, 40, 1, [])) := rfl
theorem l_Di_addMoves_41 : xlk (xm_cd m_Di_addMoves) 41 = some (.aload_n 1, 1, (0, 0, 0, [])) := rfl
theorem l_Di_addMoves_42 : xlk (xm_cd m_Di_addMoves) 42 = some (.invokevirtual 77, 3, (523, 69, 2, [])) := rfl
theorem l_Di_addMoves_45 : xlk (xm_cd m_Di_addMoves) 45 = some (.istore 5, 2, (0, 0, 0, [])) := rfl
theorem l_Di_addMoves_47 : xlk (xm_cd m_Di_addMoves) 47 = some (.iload 5, 2, (0, 0, 0, [])) := rfl
theorem l_Di_addMoves_49 : xlk (xm_cd m_Di_addMoves) 49 = some (.iconst (-1), 1, (0, 0, 0, [])) := rfl
theorem l_Di_addMoves_50 : xlk (xm_cd m_Di_addMoves) 50 = some (.if_icmp .eq 31, 3, (0, 81, 0, [])) := rfl
theorem l_Di_addMoves_53 : xlk (xm_cd m_Di_addMoves) 53 = some (.aload_n 0, 1, (0, 0, 0, [])) := rfl
theorem l_Di_addMoves_54 : xlk (xm_cd m_Di_addMoves) 54 = some (.iconst 3, 1, (0, 0, 0, [])) := rfl
theorem l_Di_addMoves_55 : xlk (xm_cd m_Di_addMoves) 55 = some (.aload_n 1, 1, (0, 0, 0, [])) := rfl
theorem l_Di_addMoves_56 : xlk (xm_cd m_Di_addMoves) 56 = some (.iload 5, 2, (0, 0, 0, [])) := rfl
theorem l_Di_addMoves_58 : xlk (xm_cd m_Di_addMoves) 58 = some (.aload_n 2, 1, (0, 0, 0, [])) := rfl
theorem l_Di_addMoves_59 : xlk (xm_cd m_Di_addMoves) 59 = some (.iload 4, 2, (0, 0, 0, [])) := rfl
theorem l_Di_addMoves_61 : xlk (xm_cd m_Di_addMoves) 61 = some (.aload_n 3, 1, (0, 0, 0, [])) := rfl
theorem l_Di_addMoves_62 : xlk (xm_cd m_Di_addMoves) 62 = some (.invokevirtual 62, 3, (444, 50, 6, [])) := rfl
theorem l_Di_addMoves_65 : xlk (xm_cd m_Di_addMoves) 65 = some (.aload_n 0, 1, (0, 0, 0, [])) := rfl
theorem l_Di_addMoves_66 : xlk (xm_cd m_Di_addMoves) 66 = some (.getfield 18, 3, (195, 7, 1, [])) := rfl
theorem l_Di_addMoves_69 : xlk (xm_cd m_Di_addMoves) 69 = some (.iload 5, 2, (0, 0, 0, [])) := rfl
theorem l_Di_addMoves_71 : xlk (xm_cd m_Di_addMoves) 71 = some (.iconst 0, 1, (0, 0, 0, [])) := rfl
theorem l_Di_addMoves_72 : xlk (xm_cd m_Di_addMoves) 72 = some (.bastore, 1, (0, 0, 0, [])) := rfl
theorem l_Di_addMoves_73 : xlk (xm_cd m_Di_addMoves) 73 = some (.aload_n 0, 1, (0, 0, 0, [])) := rfl
theorem l_Di_addMoves_74 : xlk (xm_cd m_Di_addMoves) 74 = some (.getfield 22, 3, (196, 7, 2, [])) := rfl
theorem l_Di_addMoves_77 : xlk (xm_cd m_Di_addMoves) 77 = some (.iload 4, 2, (0, 0, 0, [])) := rfl
theorem l_Di_addMoves_79 : xlk (xm_cd m_Di_addMoves) 79 = some (.iconst 0, 1, (0, 0, 0, [])) := rfl
theorem l_Di_addMoves_80 : xlk (xm_cd m_Di_addMoves) 80 = some (.bastore, 1, (0, 0, 0, [])) := rfl
theorem l_Di_addMoves_81 : xlk (xm_cd m_Di_addMoves) 81 = some (.iinc 4 1, 3, (0, 0, 0, [])) := rfl
theorem l_Di_addMoves_84 : xlk (xm_cd m_Di_addMoves) 84 = some (.goto (-81), 3, (0, 3, 0, [])) := rfl
theorem l_Di_addMoves_87 : xlk (xm_cd m_Di_addMoves) 87 = some (.return_, 1, (0, 0, 0, [])) := rfl
def B_Di_addMoves_0 (d : Nat) (E : Option Value → xH → Prop) (f : xH) (a0 : Nat) (a1 : Nat) (a2 : Nat) (a3 : Nat) : Prop :=
  xWp (xT0, xSp xT0 d, none, m_Di_addMoves, E) 3 [some (.ref a0), some (.ref a1), some (.ref a2), some (.ref a3), some (.int 0), none] [] f 0 0
theorem b_Di_addMoves_0 {d : Nat} {E : Option Value → xH → Prop} {f : xH} {a0 : Nat} {a1 : Nat} {a2 : Nat} {a3 : Nat} (h : B_Di_addMoves_0 d E f a0 a1 a2 a3) : xWp (xT0, xSp xT0 d, none, m_Di_addMoves, E) 0 [some (.ref a0), some (.ref a1), some (.ref a2), some (.ref a3), none, none] [] f 0 0 := by
  unfold B_Di_addMoves_0 at h
  refine s_ic 0 l_Di_addMoves_0 rfl ?_
  refine s_is l_Di_addMoves_1 (Nat.le_of_ble_eq_true rfl) ?_
  exact h
def B_Di_addMoves_3 (d : Nat) (E : Option Value → xH → Prop) (f : xH) (a0 : Nat) (a1 : Nat) (a2 : Nat) (a3 : Nat) (x4 : Int32) (u5 : Option Value) : Prop :=
  (∃ fs, f a2 = some (xO 2 fs)) ∧ xSp xT0 d j_Tr_size [.ref a2] f (fun w1 f2 => xvi w1 (fun v3 => xbr (v3 ≤ x4) (E none f2) (xgr f2 a0 7 2 (fun r4 => xal f2 r4 1 x4 (fun v5 => xbr (v5 = 0) (xWp (xT0, xSp xT0 d, none, m_Di_addMoves, E) 3 [some (.ref a0), some (.ref a1), some (.ref a2), some (.ref a3), some (.int (x4 + 1)), u5] [] f2 0 0) ((∃ fs, f2 a2 = some (xO 2 fs)) ∧ xSp xT0 d j_Tr_contentAt [.ref a2, .int x4] f2 (fun w6 f7 => xvr w6 (fun r8 => (∃ fs, f7 r8 = some (xO 1 fs)) ∧ xSp xT0 d j_By_size [.ref r8] f7 (fun w9 f10 => xvi w9 (fun v11 => xbr (v11 ≤ 0) (xWp (xT0, xSp xT0 d, none, m_Di_addMoves, E) 3 [some (.ref a0), some (.ref a1), some (.ref a2), some (.ref a3), some (.int (x4 + 1)), u5] [] f10 0 0) ((∃ fs, f10 a2 = some (xO 2 fs)) ∧ xSp xT0 d j_Tr_contentAt [.ref a2, .int x4] f10 (fun w12 f13 => xvr w12 (fun r14 => (∃ fs, f13 a0 = some (xO 7 fs)) ∧ xSp xT0 d j_Di_firstGoneWith [.ref a0, .ref r14, .ref a1] f13 (fun w15 f16 => xvi w15 (fun v17 => xbr (v17 = (-1)) (xWp (xT0, xSp xT0 d, none, m_Di_addMoves, E) 3 [some (.ref a0), some (.ref a1), some (.ref a2), some (.ref a3), some (.int (x4 + 1)), some (.int v17)] [] f16 0 0) ((∃ fs, f16 a0 = some (xO 7 fs)) ∧ xSp xT0 d j_Di_addStep [.ref a0, .int 3, .ref a1, .int v17, .ref a2, .int x4, .ref a3] f16 (fun w18 f19 => xvv w18 (xgr f19 a0 7 1 (fun r20 => xas f19 r20 1 v17 0 (fun f21 => xgr f21 a0 7 2 (fun r22 => xas f21 r22 1 x4 0 (fun f23 => xWp (xT0, xSp xT0 d, none, m_Di_addMoves, E) 3 [some (.ref a0), some (.ref a1), some (.ref a2), some (.ref a3), some (.int (x4 + 1)), some (.int v17)] [] f23 0 0))))))))))))))))))))))
theorem b_Di_addMoves_3 {d : Nat} {E : Option Value → xH → Prop} {f : xH} {a0 : Nat} {a1 : Nat} {a2 : Nat} {a3 : Nat} {x4 : Int32} {u5 : Option Value} (h : B_Di_addMoves_3 d E f a0 a1 a2 a3 x4 u5) : xWp (xT0, xSp xT0 d, none, m_Di_addMoves, E) 3 [some (.ref a0), some (.ref a1), some (.ref a2), some (.ref a3), some (.int x4), u5] [] f 0 0 := by
  unfold B_Di_addMoves_3 at h
  refine s_il l_Di_addMoves_3 rfl ?_
  refine s_aln l_Di_addMoves_5 rfl ?_
  refine s_cvi (As := []) (r := [.int x4]) l_Di_addMoves_6 rfl ⟨rfl, rfl⟩ rfl (Nat.le_of_ble_eq_true rfl) rfl ⟨Nat.zero_le _, Nat.zero_le _⟩ h (fun v3 f2 h => ?_)
  refine s_ifc l_Di_addMoves_9 h (fun h => ?_) (fun h => ?_)
  · exact s_ret l_Di_addMoves_87 ⟨Nat.zero_le _, Nat.zero_le _⟩ h
  · refine s_aln l_Di_addMoves_12 rfl ?_
    refine s_gr l_Di_addMoves_13 h (fun r4 h => ?_)
    refine s_il l_Di_addMoves_16 rfl ?_
    refine s_bal l_Di_addMoves_18 (Or.inl rfl) h (fun v5 h => ?_)
    refine s_if l_Di_addMoves_19 h (fun h => ?_) (fun h => ?_)
    · refine s_inc 1 l_Di_addMoves_81 rfl rfl ?_
      refine s_goto l_Di_addMoves_84 ?_
      exact h
    · refine s_aln l_Di_addMoves_22 rfl ?_
      refine s_il l_Di_addMoves_23 rfl ?_
      refine s_cvr (As := [.int x4]) (r := []) l_Di_addMoves_25 rfl ⟨rfl, rfl⟩ rfl (Nat.le_of_ble_eq_true rfl) rfl ⟨Nat.zero_le _, Nat.zero_le _⟩ h (fun r8 f7 h => ?_)
      refine s_cvi (As := []) (r := []) l_Di_addMoves_28 rfl ⟨rfl, rfl⟩ rfl (Nat.le_of_ble_eq_true rfl) rfl ⟨Nat.zero_le _, Nat.zero_le _⟩ h (fun v11 f10 h => ?_)
      refine s_if l_Di_addMoves_31 h (fun h => ?_) (fun h => ?_)
      · refine s_inc 1 l_Di_addMoves_81 rfl rfl ?_
        refine s_goto l_Di_addMoves_84 ?_
        exact h
      · refine s_aln l_Di_addMoves_34 rfl ?_
        refine s_aln l_Di_addMoves_35 rfl ?_
        refine s_il l_Di_addMoves_36 rfl ?_
        refine s_cvr (As := [.int x4]) (r := [.ref a0]) l_Di_addMoves_38 rfl ⟨rfl, rfl⟩ rfl (Nat.le_of_ble_eq_true rfl) rfl ⟨Nat.zero_le _, Nat.zero_le _⟩ h (fun r14 f13 h => ?_)
        refine s_aln l_Di_addMoves_41 rfl ?_
        refine s_cvi (As := [.ref r14, .ref a1]) (r := []) l_Di_addMoves_42 rfl ⟨rfl, rfl⟩ rfl (Nat.le_of_ble_eq_true rfl) rfl ⟨Nat.zero_le _, Nat.zero_le _⟩ h (fun v17 f16 h => ?_)
        refine s_is l_Di_addMoves_45 (Nat.le_of_ble_eq_true rfl) ?_
        refine s_il l_Di_addMoves_47 rfl ?_
        refine s_ic (-1) l_Di_addMoves_49 rfl ?_
        refine s_ifc l_Di_addMoves_50 h (fun h => ?_) (fun h => ?_)
        · refine s_inc 1 l_Di_addMoves_81 rfl rfl ?_
          refine s_goto l_Di_addMoves_84 ?_
          exact h
        · refine s_aln l_Di_addMoves_53 rfl ?_
          refine s_ic 3 l_Di_addMoves_54 rfl ?_
          refine s_aln l_Di_addMoves_55 rfl ?_
          refine s_il l_Di_addMoves_56 rfl ?_
          refine s_aln l_Di_addMoves_58 rfl ?_
          refine s_il l_Di_addMoves_59 rfl ?_
          refine s_aln l_Di_addMoves_61 rfl ?_
          refine s_cvv (As := [.int 3, .ref a1, .int v17, .ref a2, .int x4, .ref a3]) (r := []) l_Di_addMoves_62 rfl ⟨rfl, rfl⟩ rfl (Nat.le_of_ble_eq_true rfl) rfl ⟨Nat.zero_le _, Nat.zero_le _⟩ h (fun f19 h => ?_)
          refine s_aln l_Di_addMoves_65 rfl ?_
          refine s_gr l_Di_addMoves_66 h (fun r20 h => ?_)
          refine s_il l_Di_addMoves_69 rfl ?_
          refine s_ic 0 l_Di_addMoves_71 rfl ?_
          refine s_zast l_Di_addMoves_72 ⟨Or.inl rfl, h⟩ (fun f21 h => ?_)
          refine s_aln l_Di_addMoves_73 rfl ?_
          refine s_gr l_Di_addMoves_74 h (fun r22 h => ?_)
          refine s_il l_Di_addMoves_77 rfl ?_
          refine s_ic 0 l_Di_addMoves_79 rfl ?_
          refine s_zast l_Di_addMoves_80 ⟨Or.inl rfl, h⟩ (fun f23 h => ?_)
          refine s_inc 1 l_Di_addMoves_81 rfl rfl ?_
          refine s_goto l_Di_addMoves_84 ?_
          exact h
theorem l_Di_firstGoneWith_0 : xlk (xm_cd m_Di_firstGoneWith) 0 = some (.iconst 0, 1, (0, 0, 0, [])) := rfl
theorem l_Di_firstGoneWith_1 : xlk (xm_cd m_Di_firstGoneWith) 1 = some (.istore_n 3, 1, (0, 0, 0, [])) := rfl
theorem l_Di_firstGoneWith_2 : xlk (xm_cd m_Di_firstGoneWith) 2 = some (.iload_n 3, 1, (0, 0, 0, [])) := rfl
theorem l_Di_firstGoneWith_3 : xlk (xm_cd m_Di_firstGoneWith) 3 = some (.aload_n 2, 1, (0, 0, 0, [])) := rfl
theorem l_Di_firstGoneWith_4 : xlk (xm_cd m_Di_firstGoneWith) 4 = some (.invokevirtual 39, 3, (439, 37, 0, [])) := rfl
theorem l_Di_firstGoneWith_7 : xlk (xm_cd m_Di_firstGoneWith) 7 = some (.if_icmp .ge 32, 3, (0, 39, 0, [])) := rfl
theorem l_Di_firstGoneWith_10 : xlk (xm_cd m_Di_firstGoneWith) 10 = some (.aload_n 0, 1, (0, 0, 0, [])) := rfl
theorem l_Di_firstGoneWith_11 : xlk (xm_cd m_Di_firstGoneWith) 11 = some (.getfield 18, 3, (195, 7, 1, [])) := rfl
theorem l_Di_firstGoneWith_14 : xlk (xm_cd m_Di_firstGoneWith) 14 = some (.iload_n 3, 1, (0, 0, 0, [])) := rfl
theorem l_Di_firstGoneWith_15 : xlk (xm_cd m_Di_firstGoneWith) 15 = some (.baload, 1, (0, 0, 0, [])) := rfl
theorem l_Di_firstGoneWith_16 : xlk (xm_cd m_Di_firstGoneWith) 16 = some (.ifCond .eq 17, 3, (0, 33, 0, [])) := rfl
theorem l_Di_firstGoneWith_19 : xlk (xm_cd m_Di_firstGoneWith) 19 = some (.aload_n 2, 1, (0, 0, 0, [])) := rfl
theorem l_Di_firstGoneWith_20 : xlk (xm_cd m_Di_firstGoneWith) 20 = some (.iload_n 3, 1, (0, 0, 0, [])) := rfl
theorem l_Di_firstGoneWith_21 : xlk (xm_cd m_Di_firstGoneWith) 21 = some (.invokevirtual 53, 3, (442, 40, 1, [])) := rfl
theorem l_Di_firstGoneWith_24 : xlk (xm_cd m_Di_firstGoneWith) 24 = some (.aload_n 1, 1, (0, 0, 0, [])) := rfl
theorem l_Di_firstGoneWith_25 : xlk (xm_cd m_Di_firstGoneWith) 25 = some (.invokevirtual 56, 3, (443, 29, 1, [])) := rfl
theorem l_Di_firstGoneWith_28 : xlk (xm_cd m_Di_firstGoneWith) 28 = some (.ifCond .eq 5, 3, (0, 33, 0, [])) := rfl
theorem l_Di_firstGoneWith_31 : xlk (xm_cd m_Di_firstGoneWith) 31 = some (.iload_n 3, 1, (0, 0, 0, [])) := rfl
theorem l_Di_firstGoneWith_32 : xlk (xm_cd m_Di_firstGoneWith) 32 = some (.ireturn, 1, (0, 0, 0, [])) := rfl
theorem l_Di_firstGoneWith_33 : xlk (xm_cd m_Di_firstGoneWith) 33 = some (.iinc 3 1, 3, (0, 0, 0, [])) := rfl
theorem l_Di_firstGoneWith_36 : xlk (xm_cd m_Di_firstGoneWith) 36 = some (.goto (-34), 3, (0, 2, 0, [])) := rfl
theorem l_Di_firstGoneWith_39 : xlk (xm_cd m_Di_firstGoneWith) 39 = some (.iconst (-1), 1, (0, 0, 0, [])) := rfl
theorem l_Di_firstGoneWith_40 : xlk (xm_cd m_Di_firstGoneWith) 40 = some (.ireturn, 1, (0, 0, 0, [])) := rfl
def B_Di_firstGoneWith_0 (d : Nat) (E : Option Value → xH → Prop) (f : xH) (a0 : Nat) (a1 : Nat) (a2 : Nat) : Prop :=
  xWp (xT0, xSp xT0 d, none, m_Di_firstGoneWith, E) 2 [some (.ref a0), some (.ref a1), some (.ref a2), some (.int 0)] [] f 0 0
theorem b_Di_firstGoneWith_0 {d : Nat} {E : Option Value → xH → Prop} {f : xH} {a0 : Nat} {a1 : Nat} {a2 : Nat} (h : B_Di_firstGoneWith_0 d E f a0 a1 a2) : xWp (xT0, xSp xT0 d, none, m_Di_firstGoneWith, E) 0 [some (.ref a0), some (.ref a1), some (.ref a2), none] [] f 0 0 := by
  unfold B_Di_firstGoneWith_0 at h
  refine s_ic 0 l_Di_firstGoneWith_0 rfl ?_
  refine s_isn l_Di_firstGoneWith_1 (Nat.le_of_ble_eq_true rfl) ?_
  exact h
def B_Di_firstGoneWith_2 (d : Nat) (E : Option Value → xH → Prop) (f : xH) (a0 : Nat) (a1 : Nat) (a2 : Nat) (x3 : Int32) : Prop :=
  (∃ fs, f a2 = some (xO 2 fs)) ∧ xSp xT0 d j_Tr_size [.ref a2] f (fun w1 f2 => xvi w1 (fun v3 => xbr (v3 ≤ x3) (E (some (.int (-1))) f2) (xgr f2 a0 7 1 (fun r4 => xal f2 r4 1 x3 (fun v5 => xbr (v5 = 0) (xWp (xT0, xSp xT0 d, none, m_Di_firstGoneWith, E) 2 [some (.ref a0), some (.ref a1), some (.ref a2), some (.int (x3 + 1))] [] f2 0 0) ((∃ fs, f2 a2 = some (xO 2 fs)) ∧ xSp xT0 d j_Tr_contentAt [.ref a2, .int x3] f2 (fun w6 f7 => xvr w6 (fun r8 => (∃ fs, f7 r8 = some (xO 1 fs)) ∧ xSp xT0 d j_By_equalTo [.ref r8, .ref a1] f7 (fun w9 f10 => xvi w9 (fun v11 => xbr (v11 = 0) (xWp (xT0, xSp xT0 d, none, m_Di_firstGoneWith, E) 2 [some (.ref a0), some (.ref a1), some (.ref a2), some (.int (x3 + 1))] [] f10 0 0) (E (some (.int x3)) f10)))))))))))
theorem b_Di_firstGoneWith_2 {d : Nat} {E : Option Value → xH → Prop} {f : xH} {a0 : Nat} {a1 : Nat} {a2 : Nat} {x3 : Int32} (h : B_Di_firstGoneWith_2 d E f a0 a1 a2 x3) : xWp (xT0, xSp xT0 d, none, m_Di_firstGoneWith, E) 2 [some (.ref a0), some (.ref a1), some (.ref a2), some (.int x3)] [] f 0 0 := by
  unfold B_Di_firstGoneWith_2 at h
  refine s_iln l_Di_firstGoneWith_2 rfl ?_
  refine s_aln l_Di_firstGoneWith_3 rfl ?_
  refine s_cvi (As := []) (r := [.int x3]) l_Di_firstGoneWith_4 rfl ⟨rfl, rfl⟩ rfl (Nat.le_of_ble_eq_true rfl) rfl ⟨Nat.zero_le _, Nat.zero_le _⟩ h (fun v3 f2 h => ?_)
  refine s_ifc l_Di_firstGoneWith_7 h (fun h => ?_) (fun h => ?_)
  · refine s_ic (-1) l_Di_firstGoneWith_39 rfl ?_
    exact s_iret l_Di_firstGoneWith_40 rfl ⟨Nat.zero_le _, Nat.zero_le _⟩ h
  · refine s_aln l_Di_firstGoneWith_10 rfl ?_
    refine s_gr l_Di_firstGoneWith_11 h (fun r4 h => ?_)
    refine s_iln l_Di_firstGoneWith_14 rfl ?_
    refine s_bal l_Di_firstGoneWith_15 (Or.inl rfl) h (fun v5 h => ?_)
    refine s_if l_Di_firstGoneWith_16 h (fun h => ?_) (fun h => ?_)
    · refine s_inc 1 l_Di_firstGoneWith_33 rfl rfl ?_
      refine s_goto l_Di_firstGoneWith_36 ?_
      exact h
    · refine s_aln l_Di_firstGoneWith_19 rfl ?_
      refine s_iln l_Di_firstGoneWith_20 rfl ?_
      refine s_cvr (As := [.int x3]) (r := []) l_Di_firstGoneWith_21 rfl ⟨rfl, rfl⟩ rfl (Nat.le_of_ble_eq_true rfl) rfl ⟨Nat.zero_le _, Nat.zero_le _⟩ h (fun r8 f7 h => ?_)
      refine s_aln l_Di_firstGoneWith_24 rfl ?_
      refine s_cvi (As := [.ref a1]) (r := []) l_Di_firstGoneWith_25 rfl ⟨rfl, rfl⟩ rfl (Nat.le_of_ble_eq_true rfl) rfl ⟨Nat.zero_le _, Nat.zero_le _⟩ h (fun v11 f10 h => ?_)
      refine s_if l_Di_firstGoneWith_28 h (fun h => ?_) (fun h => ?_)
      · refine s_inc 1 l_Di_firstGoneWith_33 rfl rfl ?_
        refine s_goto l_Di_firstGoneWith_36 ?_
        exact h
      · refine s_iln l_Di_firstGoneWith_31 rfl ?_
        exact s_iret l_Di_firstGoneWith_32 rfl ⟨Nat.zero_le _, Nat.zero_le _⟩ h
theorem l_Di_addMovesWithChange_0 : xlk (xm_cd m_Di_addMovesWithChange) 0 = some (.aload_n 0, 1, (0, 0, 0, [])) := rfl
theorem l_Di_addMovesWithChange_1 : xlk (xm_cd m_Di_addMovesWithChange) 1 = some (.aload_n 1, 1, (0, 0, 0, [])) := rfl
theorem l_Di_addMovesWithChange_2 : xlk (xm_cd m_Di_addMovesWithChange) 2 = some (.aload_n 2, 1, (0, 0, 0, [])) := rfl
theorem l_Di_addMovesWithChange_3 : xlk (xm_cd m_Di_addMovesWithChange) 3 = some (.invokevirtual 81, 3, (529, 71, 2, [])) := rfl
theorem l_Di_addMovesWithChange_6 : xlk (xm_cd m_Di_addMovesWithChange) 6 = some (.iconst 0, 1, (0, 0, 0, [])) := rfl
theorem l_Di_addMovesWithChange_7 : xlk (xm_cd m_Di_addMovesWithChange) 7 = some (.istore 4, 2, (0, 0, 0, [])) := rfl
theorem l_Di_addMovesWithChange_9 : xlk (xm_cd m_Di_addMovesWithChange) 9 = some (.iload 4, 2, (0, 0, 0, [])) := rfl
theorem l_Di_addMovesWithChange_11 : xlk (xm_cd m_Di_addMovesWithChange) 11 = some (.bipush 10, 2, (0, 0, 0, [])) := rfl
theorem l_Di_addMovesWithChange_13 : xlk (xm_cd m_Di_addMovesWithChange) 13 = some (.if_icmp .ge 146, 3, (0, 159, 0, [])) := rfl
theorem l_Di_addMovesWithChange_16 : xlk (xm_cd m_Di_addMovesWithChange) 16 = some (.sipush 599, 3, (0, 0, 0, [])) := rfl
theorem l_Di_addMovesWithChange_19 : xlk (xm_cd m_Di_addMovesWithChange) 19 = some (.istore 5, 2, (0, 0, 0, [])) := rfl
theorem l_Di_addMovesWithChange_21 : xlk (xm_cd m_Di_addMovesWithChange) 21 = some (.iconst (-1), 1, (0, 0, 0, [])) := rfl
theorem l_Di_addMovesWithChange_22 : xlk (xm_cd m_Di_addMovesWithChange) 22 = some (.istore 6, 2, (0, 0, 0, [])) := rfl
theorem l_Di_addMovesWithChange_24 : xlk (xm_cd m_Di_addMovesWithChange) 24 = some (.iconst (-1), 1, (0, 0, 0, [])) := rfl
theorem l_Di_addMovesWithChange_25 : xlk (xm_cd m_Di_addMovesWithChange) 25 = some (.istore 7, 2, (0, 0, 0, [])) := rfl
theorem l_Di_addMovesWithChange_27 : xlk (xm_cd m_Di_addMovesWithChange) 27 = some (.iconst 0, 1, (0, 0, 0, [])) := rfl
theorem l_Di_addMovesWithChange_28 : xlk (xm_cd m_Di_addMovesWithChange) 28 = some (.istore 8, 2, (0, 0, 0, [])) := rfl
theorem l_Di_addMovesWithChange_30 : xlk (xm_cd m_Di_addMovesWithChange) 30 = some (.iload 8, 2, (0, 0, 0, [])) := rfl
theorem l_Di_addMovesWithChange_32 : xlk (xm_cd m_Di_addMovesWithChange) 32 = some (.aload_n 2, 1, (0, 0, 0, [])) := rfl
theorem l_Di_addMovesWithChange_33 : xlk (xm_cd m_Di_addMovesWithChange) 33 = some (.invokevirtual 39, 3, (439, 37, 0, [])) := rfl
theorem l_Di_addMovesWithChange_36 : xlk (xm_cd m_Di_addMovesWithChange) 36 = some (.if_icmp .ge 82, 3, (0, 118, 0, [])) := rfl
theorem l_Di_addMovesWithChange_39 : xlk (xm_cd m_Di_addMovesWithChange) 39 = some (.iconst 0, 1, (0, 0, 0, [])) := rfl
theorem l_Di_addMovesWithChange_40 : xlk (xm_cd m_Di_addMovesWithChange) 40 = some (.istore 9, 2, (0, 0, 0, [])) := rfl
theorem l_Di_addMovesWithChange_42 : xlk (xm_cd m_Di_addMovesWithChange) 42 = some (.iload 9, 2, (0, 0, 0, [])) := rfl
theorem l_Di_addMovesWithChange_44 : xlk (xm_cd m_Di_addMovesWithChange) 44 = some (.aload_n 1, 1, (0, 0, 0, [])) := rfl
theorem l_Di_addMovesWithChange_45 : xlk (xm_cd m_Di_addMovesWithChange) 45 = some (.invokevirtual 39, 3, (439, 37, 0, [])) := rfl
theorem l_Di_addMovesWithChange_48 : xlk (xm_cd m_Di_addMovesWithChange) 48 = some (.if_icmp .ge 64, 3, (0, 112, 0, [])) := rfl
theorem l_Di_addMovesWithChange_51 : xlk (xm_cd m_Di_addMovesWithChange) 51 = some (.aload_n 0, 1, (0, 0, 0, [])) := rfl
theorem l_Di_addMovesWithChange_52 : xlk (xm_cd m_Di_addMovesWithChange) 52 = some (.getfield 22, 3, (196, 7, 2, [])) := rfl
theorem l_Di_addMovesWithChange_55 : xlk (xm_cd m_Di_addMovesWithChange) 55 = some (.iload 8, 2, (0, 0, 0, [])) := rfl
theorem l_Di_addMovesWithChange_57 : xlk (xm_cd m_Di_addMovesWithChange) 57 = some (.baload, 1, (0, 0, 0, [])) := rfl
theorem l_Di_addMovesWithChange_58 : xlk (xm_cd m_Di_addMovesWithChange) 58 = some (.ifCond .eq 48, 3, (0, 106, 0, [])) := rfl
theorem l_Di_addMovesWithChange_61 : xlk (xm_cd m_Di_addMovesWithChange) 61 = some (.aload_n 0, 1, (0, 0, 0, [])) := rfl
theorem l_Di_addMovesWithChange_62 : xlk (xm_cd m_Di_addMovesWithChange) 62 = some (.getfield 18, 3, (195, 7, 1, [])) := rfl
theorem l_Di_addMovesWithChange_65 : xlk (xm_cd m_Di_addMovesWithChange) 65 = some (.iload 9, 2, (0, 0, 0, [])) := rfl
theorem l_Di_addMovesWithChange_67 : xlk (xm_cd m_Di_addMovesWithChange) 67 = some (.baload, 1, (0, 0, 0, [])) := rfl
theorem l_Di_addMovesWithChange_68 : xlk (xm_cd m_Di_addMovesWithChange) 68 = some (.ifCond .eq 38, 3, (0, 106, 0, [])) := rfl
theorem l_Di_addMovesWithChange_71 : xlk (xm_cd m_Di_addMovesWithChange) 71 = some (.aload_n 0, 1, (0, 0, 0, [])) := rfl
theorem l_Di_addMovesWithChange_72 : xlk (xm_cd m_Di_addMovesWithChange) 72 = some (.getfield 27, 3, (197, 7, 3, [])) := rfl
theorem l_Di_addMovesWithChange_75 : xlk (xm_cd m_Di_addMovesWithChange) 75 = some (.iload 8, 2, (0, 0, 0, [])) := rfl
theorem l_Di_addMovesWithChange_77 : xlk (xm_cd m_Di_addMovesWithChange) 77 = some (.aaload, 1, (0, 8, 0, [])) := rfl
theorem l_Di_addMovesWithChange_78 : xlk (xm_cd m_Di_addMovesWithChange) 78 = some (.iload 9, 2, (0, 0, 0, [])) := rfl
theorem l_Di_addMovesWithChange_80 : xlk (xm_cd m_Di_addMovesWithChange) 80 = some (.iaload, 1, (0, 0, 0, [])) := rfl
theorem l_Di_addMovesWithChange_81 : xlk (xm_cd m_Di_addMovesWithChange) 81 = some (.iload 5, 2, (0, 0, 0, [])) := rfl
theorem l_Di_addMovesWithChange_83 : xlk (xm_cd m_Di_addMovesWithChange) 83 = some (.if_icmp .le 23, 3, (0, 106, 0, [])) := rfl
theorem l_Di_addMovesWithChange_86 : xlk (xm_cd m_Di_addMovesWithChange) 86 = some (.aload_n 0, 1, (0, 0, 0, [])) := rfl
theorem l_Di_addMovesWithChange_87 : xlk (xm_cd m_Di_addMovesWithChange) 87 = some (.getfield 27, 3, (197, 7, 3, [])) := rfl
theorem l_Di_addMovesWithChange_90 : xlk (xm_cd m_Di_addMovesWithChange) 90 = some (.iload 8, 2, (0, 0, 0, [])) := rfl
theorem l_Di_addMovesWithChange_92 : xlk (xm_cd m_Di_addMovesWithChange) 92 = some (.aaload, 1, (0, 8, 0, [])) := rfl
theorem l_Di_addMovesWithChange_93 : xlk (xm_cd m_Di_addMovesWithChange) 93 = some (.iload 9, 2, (0, 0, 0, [])) := rfl
theorem l_Di_addMovesWithChange_95 : xlk (xm_cd m_Di_addMovesWithChange) 95 = some (.iaload, 1, (0, 0, 0, [])) := rfl
theorem l_Di_addMovesWithChange_96 : xlk (xm_cd m_Di_addMovesWithChange) 96 = some (.istore 5, 2, (0, 0, 0, [])) := rfl
theorem l_Di_addMovesWithChange_98 : xlk (xm_cd m_Di_addMovesWithChange) 98 = some (.iload 9, 2, (0, 0, 0, [])) := rfl
theorem l_Di_addMovesWithChange_100 : xlk (xm_cd m_Di_addMovesWithChange) 100 = some (.istore 6, 2, (0, 0, 0, [])) := rfl
theorem l_Di_addMovesWithChange_102 : xlk (xm_cd m_Di_addMovesWithChange) 102 = some (.iload 8, 2, (0, 0, 0, [])) := rfl
theorem l_Di_addMovesWithChange_104 : xlk (xm_cd m_Di_addMovesWithChange) 104 = some (.istore 7, 2, (0, 0, 0, [])) := rfl
theorem l_Di_addMovesWithChange_106 : xlk (xm_cd m_Di_addMovesWithChange) 106 = some (.iinc 9 1, 3, (0, 0, 0, [])) := rfl
theorem l_Di_addMovesWithChange_109 : xlk (xm_cd m_Di_addMovesWithChange) 109 = some (.goto (-67), 3, (0, 42, 0, [])) := rfl
theorem l_Di_addMovesWithChange_112 : xlk (xm_cd m_Di_addMovesWithChange) 112 = some (.iinc 8 1, 3, (0, 0, 0, [])) := rfl
theorem l_Di_addMovesWithChange_115 : xlk (xm_cd m_Di_addMovesWithChange) 115 = some (.goto (-85), 3, (0, 30, 0, [])) := rfl
theorem l_Di_addMovesWithChange_118 : xlk (xm_cd m_Di_addMovesWithChange) 118 = some (.iload 6, 2, (0, 0, 0, [])) := rfl
theorem l_Di_addMovesWithChange_120 : xlk (xm_cd m_Di_addMovesWithChange) 120 = some (.iconst (-1), 1, (0, 0, 0, [])) := rfl
theorem l_Di_addMovesWithChange_121 : xlk (xm_cd m_Di_addMovesWithChange) 121 = some (.if_icmp .ne 4, 3, (0, 125, 0, [])) := rfl
theorem l_Di_addMovesWithChange_124 : xlk (xm_cd m_Di_addMovesWithChange) 124 = some (.return_, 1, (0, 0, 0, [])) := rfl
theorem l_Di_addMovesWithChange_125 : xlk (xm_cd m_Di_addMovesWithChange) 125 = some (.aload_n 0, 1, (0, 0, 0, [])) := rfl
theorem l_Di_addMovesWithChange_126 : xlk (xm_cd m_Di_addMovesWithChange) 126 = some (.iconst 4, 1, (0, 0, 0, [])) := rfl
theorem l_Di_addMovesWithChange_127 : xlk (xm_cd m_Di_addMovesWithChange) 127 = some (.aload_n 1, 1, (0, 0, 0, [])) := rfl
theorem l_Di_addMovesWithChange_128 : xlk (xm_cd m_Di_addMovesWithChange) 128 = some (.iload 6, 2, (0, 0, 0, [])) := rfl
theorem l_Di_addMovesWithChange_130 : xlk (xm_cd m_Di_addMovesWithChange) 130 = some (.aload_n 2, 1, (0, 0, 0, [])) := rfl
theorem l_Di_addMovesWithChange_131 : xlk (xm_cd m_Di_addMovesWithChange) 131 = some (.iload 7, 2, (0, 0, 0, [])) := rfl
theorem l_Di_addMovesWithChange_133 : xlk (xm_cd m_Di_addMovesWithChange) 133 = some (.aload_n 3, 1, (0, 0, 0, [])) := rfl
theorem l_Di_addMovesWithChange_134 : xlk (xm_cd m_Di_addMovesWithChange) 134 = some (.invokevirtual 62, 3, (444, 50, 6, [])) := rfl
theorem l_Di_addMovesWithChange_137 : xlk (xm_cd m_Di_addMovesWithChange) 137 = some (.aload_n 0, 1, (0, 0, 0, [])) := rfl
theorem l_Di_addMovesWithChange_138 : xlk (xm_cd m_Di_addMovesWithChange) 138 = some (.getfield 18, 3, (195, 7, 1, [])) := rfl
theorem l_Di_addMovesWithChange_141 : xlk (xm_cd m_Di_addMovesWithChange) 141 = some (.iload 6, 2, (0, 0, 0, [])) := rfl
theorem l_Di_addMovesWithChange_143 : xlk (xm_cd m_Di_addMovesWithChange) 143 = some (.iconst 0, 1, (0, 0, 0, [])) := rfl
theorem l_Di_addMovesWithChange_144 : xlk (xm_cd m_Di_addMovesWithChange) 144 = some (.bastore, 1, (0, 0, 0, [])) := rfl
theorem l_Di_addMovesWithChange_145 : xlk (xm_cd m_Di_addMovesWithChange) 145 = some (.aload_n 0, 1, (0, 0, 0, [])) := rfl
theorem l_Di_addMovesWithChange_146 : xlk (xm_cd m_Di_addMovesWithChange) 146 = some (.getfield 22, 3, (196, 7, 2, [])) := rfl
theorem l_Di_addMovesWithChange_149 : xlk (xm_cd m_Di_addMovesWithChange) 149 = some (.iload 7, 2, (0, 0, 0, [])) := rfl
theorem l_Di_addMovesWithChange_151 : xlk (xm_cd m_Di_addMovesWithChange) 151 = some (.iconst 0, 1, (0, 0, 0, [])) := rfl
set_option maxRecDepth 20000 in
theorem l_Di_addMovesWithChange_152 : xlk (xm_cd m_Di_addMovesWithChange) 152 = some (.bastore, 1, (0, 0, 0, [])) := rfl
set_option maxRecDepth 20000 in
theorem l_Di_addMovesWithChange_153 : xlk (xm_cd m_Di_addMovesWithChange) 153 = some (.iinc 4 1, 3, (0, 0, 0, [])) := rfl
set_option maxRecDepth 20000 in
theorem l_Di_addMovesWithChange_156 : xlk (xm_cd m_Di_addMovesWithChange) 156 = some (.goto (-147), 3, (0, 9, 0, [])) := rfl
set_option maxRecDepth 20000 in
theorem l_Di_addMovesWithChange_159 : xlk (xm_cd m_Di_addMovesWithChange) 159 = some (.return_, 1, (0, 0, 0, [])) := rfl
def B_Di_addMovesWithChange_0 (d : Nat) (E : Option Value → xH → Prop) (f : xH) (a0 : Nat) (a1 : Nat) (a2 : Nat) (a3 : Nat) : Prop :=
  (∃ fs, f a0 = some (xO 7 fs)) ∧ xSp xT0 d j_Di_measureLikeness [.ref a0, .ref a1, .ref a2] f (fun w1 f2 => xvv w1 (xWp (xT0, xSp xT0 d, none, m_Di_addMovesWithChange, E) 9 [some (.ref a0), some (.ref a1), some (.ref a2), some (.ref a3), some (.int 0), none, none, none, none, none] [] f2 0 0))
theorem b_Di_addMovesWithChange_0 {d : Nat} {E : Option Value → xH → Prop} {f : xH} {a0 : Nat} {a1 : Nat} {a2 : Nat} {a3 : Nat} (h : B_Di_addMovesWithChange_0 d E f a0 a1 a2 a3) : xWp (xT0, xSp xT0 d, none, m_Di_addMovesWithChange, E) 0 [some (.ref a0), some (.ref a1), some (.ref a2), some (.ref a3), none, none, none, none, none, none] [] f 0 0 := by
  unfold B_Di_addMovesWithChange_0 at h
  refine s_aln l_Di_addMovesWithChange_0 rfl ?_
  refine s_aln l_Di_addMovesWithChange_1 rfl ?_
  refine s_aln l_Di_addMovesWithChange_2 rfl ?_
  refine s_cvv (As := [.ref a1, .ref a2]) (r := []) l_Di_addMovesWithChange_3 rfl ⟨rfl, rfl⟩ rfl (Nat.le_of_ble_eq_true rfl) rfl ⟨Nat.zero_le _, Nat.zero_le _⟩ h (fun f2 h => ?_)
  refine s_ic 0 l_Di_addMovesWithChange_6 rfl ?_
  refine s_is l_Di_addMovesWithChange_7 (Nat.le_of_ble_eq_true rfl) ?_
  exact h
def B_Di_addMovesWithChange_9 (d : Nat) (E : Option Value → xH → Prop) (f : xH) (a0 : Nat) (a1 : Nat) (a2 : Nat) (a3 : Nat) (x4 : Int32) (u5 : Option Value) (u6 : Option Value) (u7 : Option Value) (u8 : Option Value) (u9 : Option Value) : Prop :=
  xbr ((10 : Int32) ≤ x4) (E none f) (xWp (xT0, xSp xT0 d, none, m_Di_addMovesWithChange, E) 30 [some (.ref a0), some (.ref a1), some (.ref a2), some (.ref a3), some (.int x4), some (.int 599), some (.int (-1)), some (.int (-1)), some (.int 0), u9] [] f 0 0)
theorem b_Di_addMovesWithChange_9 {d : Nat} {E : Option Value → xH → Prop} {f : xH} {a0 : Nat} {a1 : Nat} {a2 : Nat} {a3 : Nat} {x4 : Int32} {u5 : Option Value} {u6 : Option Value} {u7 : Option Value} {u8 : Option Value} {u9 : Option Value} (h : B_Di_addMovesWithChange_9 d E f a0 a1 a2 a3 x4 u5 u6 u7 u8 u9) : xWp (xT0, xSp xT0 d, none, m_Di_addMovesWithChange, E) 9 [some (.ref a0), some (.ref a1), some (.ref a2), some (.ref a3), some (.int x4), u5, u6, u7, u8, u9] [] f 0 0 := by
  unfold B_Di_addMovesWithChange_9 at h
  refine s_il l_Di_addMovesWithChange_9 rfl ?_
  refine s_bp 10 l_Di_addMovesWithChange_11 rfl ?_
  refine s_ifc l_Di_addMovesWithChange_13 h (fun h => ?_) (fun h => ?_)
  · exact s_ret l_Di_addMovesWithChange_159 ⟨Nat.zero_le _, Nat.zero_le _⟩ h
  · refine s_sp 599 l_Di_addMovesWithChange_16 rfl ?_
    refine s_is l_Di_addMovesWithChange_19 (Nat.le_of_ble_eq_true rfl) ?_
    refine s_ic (-1) l_Di_addMovesWithChange_21 rfl ?_
    refine s_is l_Di_addMovesWithChange_22 (Nat.le_of_ble_eq_true rfl) ?_
    refine s_ic (-1) l_Di_addMovesWithChange_24 rfl ?_
    refine s_is l_Di_addMovesWithChange_25 (Nat.le_of_ble_eq_true rfl) ?_
    refine s_ic 0 l_Di_addMovesWithChange_27 rfl ?_
    refine s_is l_Di_addMovesWithChange_28 (Nat.le_of_ble_eq_true rfl) ?_
    exact h
def B_Di_addMovesWithChange_30 (d : Nat) (E : Option Value → xH → Prop) (f : xH) (a0 : Nat) (a1 : Nat) (a2 : Nat) (a3 : Nat) (x4 : Int32) (x5 : Int32) (x6 : Int32) (x7 : Int32) (x8 : Int32) (u9 : Option Value) : Prop :=
  (∃ fs, f a2 = some (xO 2 fs)) ∧ xSp xT0 d j_Tr_size [.ref a2] f (fun w1 f2 => xvi w1 (fun v3 => xbr (v3 ≤ x8) (xbr (¬ x6 = (-1)) ((∃ fs, f2 a0 = some (xO 7 fs)) ∧ xSp xT0 d j_Di_addStep [.ref a0, .int 4, .ref a1, .int x6, .ref a2, .int x7, .ref a3] f2 (fun w4 f5 => xvv w4 (xgr f5 a0 7 1 (fun r6 => xas f5 r6 1 x6 0 (fun f7 => xgr f7 a0 7 2 (fun r8 => xas f7 r8 1 x7 0 (fun f9 => xWp (xT0, xSp xT0 d, none, m_Di_addMovesWithChange, E) 9 [some (.ref a0), some (.ref a1), some (.ref a2), some (.ref a3), some (.int (x4 + 1)), some (.int x5), some (.int x6), some (.int x7), some (.int x8), u9] [] f9 0 0))))))) (E none f2)) (xWp (xT0, xSp xT0 d, none, m_Di_addMovesWithChange, E) 42 [some (.ref a0), some (.ref a1), some (.ref a2), some (.ref a3), some (.int x4), some (.int x5), some (.int x6), some (.int x7), some (.int x8), some (.int 0)] [] f2 0 0)))
theorem b_Di_addMovesWithChange_30 {d : Nat} {E : Option Value → xH → Prop} {f : xH} {a0 : Nat} {a1 : Nat} {a2 : Nat} {a3 : Nat} {x4 : Int32} {x5 : Int32} {x6 : Int32} {x7 : Int32} {x8 : Int32} {u9 : Option Value} (h : B_Di_addMovesWithChange_30 d E f a0 a1 a2 a3 x4 x5 x6 x7 x8 u9) : xWp (xT0, xSp xT0 d, none, m_Di_addMovesWithChange, E) 30 [some (.ref a0), some (.ref a1), some (.ref a2), some (.ref a3), some (.int x4), some (.int x5), some (.int x6), some (.int x7), some (.int x8), u9] [] f 0 0 := by
  unfold B_Di_addMovesWithChange_30 at h
  refine s_il l_Di_addMovesWithChange_30 rfl ?_
  refine s_aln l_Di_addMovesWithChange_32 rfl ?_
  refine s_cvi (As := []) (r := [.int x8]) l_Di_addMovesWithChange_33 rfl ⟨rfl, rfl⟩ rfl (Nat.le_of_ble_eq_true rfl) rfl ⟨Nat.zero_le _, Nat.zero_le _⟩ h (fun v3 f2 h => ?_)
  refine s_ifc l_Di_addMovesWithChange_36 h (fun h => ?_) (fun h => ?_)
  · refine s_il l_Di_addMovesWithChange_118 rfl ?_
    refine s_ic (-1) l_Di_addMovesWithChange_120 rfl ?_
    refine s_ifc l_Di_addMovesWithChange_121 h (fun h => ?_) (fun h => ?_)
    · refine s_aln l_Di_addMovesWithChange_125 rfl ?_
      refine s_ic 4 l_Di_addMovesWithChange_126 rfl ?_
      refine s_aln l_Di_addMovesWithChange_127 rfl ?_
      refine s_il l_Di_addMovesWithChange_128 rfl ?_
      refine s_aln l_Di_addMovesWithChange_130 rfl ?_
      refine s_il l_Di_addMovesWithChange_131 rfl ?_
      refine s_aln l_Di_addMovesWithChange_133 rfl ?_
      refine s_cvv (As := [.int 4, .ref a1, .int x6, .ref a2, .int x7, .ref a3]) (r := []) l_Di_addMovesWithChange_134 rfl ⟨rfl, rfl⟩ rfl (Nat.le_of_ble_eq_true rfl) rfl ⟨Nat.zero_le _, Nat.zero_le _⟩ h (fun f5 h => ?_)
      refine s_aln l_Di_addMovesWithChange_137 rfl ?_
      refine s_gr l_Di_addMovesWithChange_138 h (fun r6 h => ?_)
      refine s_il l_Di_addMovesWithChange_141 rfl ?_
      refine s_ic 0 l_Di_addMovesWithChange_143 rfl ?_
      refine s_zast l_Di_addMovesWithChange_144 ⟨Or.inl rfl, h⟩ (fun f7 h => ?_)
      refine s_aln l_Di_addMovesWithChange_145 rfl ?_
      refine s_gr l_Di_addMovesWithChange_146 h (fun r8 h => ?_)
      refine s_il l_Di_addMovesWithChange_149 rfl ?_
      refine s_ic 0 l_Di_addMovesWithChange_151 rfl ?_
      refine s_zast l_Di_addMovesWithChange_152 ⟨Or.inl rfl, h⟩ (fun f9 h => ?_)
      refine s_inc 1 l_Di_addMovesWithChange_153 rfl rfl ?_
      refine s_goto l_Di_addMovesWithChange_156 ?_
      exact h
    · exact s_ret l_Di_addMovesWithChange_124 ⟨Nat.zero_le _, Nat.zero_le _⟩ h
  · refine s_ic 0 l_Di_addMovesWithChange_39 rfl ?_
    refine s_is l_Di_addMovesWithChange_40 (Nat.le_of_ble_eq_true rfl) ?_
    exact h
def B_Di_addMovesWithChange_42 (d : Nat) (E : Option Value → xH → Prop) (f : xH) (a0 : Nat) (a1 : Nat) (a2 : Nat) (a3 : Nat) (x4 : Int32) (x5 : Int32) (x6 : Int32) (x7 : Int32) (x8 : Int32) (x9 : Int32) : Prop :=
  (∃ fs, f a1 = some (xO 2 fs)) ∧ xSp xT0 d j_Tr_size [.ref a1] f (fun w1 f2 => xvi w1 (fun v3 => xbr (v3 ≤ x9) (xWp (xT0, xSp xT0 d, none, m_Di_addMovesWithChange, E) 30 [some (.ref a0), some (.ref a1), some (.ref a2), some (.ref a3), some (.int x4), some (.int x5), some (.int x6), some (.int x7), some (.int (x8 + 1)), some (.int x9)] [] f2 0 0) (xgr f2 a0 7 2 (fun r4 => xal f2 r4 1 x8 (fun v5 => xbr (v5 = 0) (xWp (xT0, xSp xT0 d, none, m_Di_addMovesWithChange, E) 42 [some (.ref a0), some (.ref a1), some (.ref a2), some (.ref a3), some (.int x4), some (.int x5), some (.int x6), some (.int x7), some (.int x8), some (.int (x9 + 1))] [] f2 0 0) (xgr f2 a0 7 1 (fun r6 => xal f2 r6 1 x9 (fun v7 => xbr (v7 = 0) (xWp (xT0, xSp xT0 d, none, m_Di_addMovesWithChange, E) 42 [some (.ref a0), some (.ref a1), some (.ref a2), some (.ref a3), some (.int x4), some (.int x5), some (.int x6), some (.int x7), some (.int x8), some (.int (x9 + 1))] [] f2 0 0) (xgr f2 a0 7 3 (fun r8 => xrl f2 r8 8 x8 (fun r9 => xal f2 r9 0 x9 (fun v10 => xbr (v10 ≤ x5) (xWp (xT0, xSp xT0 d, none, m_Di_addMovesWithChange, E) 42 [some (.ref a0), some (.ref a1), some (.ref a2), some (.ref a3), some (.int x4), some (.int x5), some (.int x6), some (.int x7), some (.int x8), some (.int (x9 + 1))] [] f2 0 0) (xgr f2 a0 7 3 (fun r11 => xrl f2 r11 8 x8 (fun r12 => xal f2 r12 0 x9 (fun v13 => xWp (xT0, xSp xT0 d, none, m_Di_addMovesWithChange, E) 42 [some (.ref a0), some (.ref a1), some (.ref a2), some (.ref a3), some (.int x4), some (.int v13), some (.int x9), some (.int x8), some (.int x8), some (.int (x9 + 1))] [] f2 0 0))))))))))))))))
theorem b_Di_addMovesWithChange_42 {d : Nat} {E : Option Value → xH → Prop} {f : xH} {a0 : Nat} {a1 : Nat} {a2 : Nat} {a3 : Nat} {x4 : Int32} {x5 : Int32} {x6 : Int32} {x7 : Int32} {x8 : Int32} {x9 : Int32} (h : B_Di_addMovesWithChange_42 d E f a0 a1 a2 a3 x4 x5 x6 x7 x8 x9) : xWp (xT0, xSp xT0 d, none, m_Di_addMovesWithChange, E) 42 [some (.ref a0), some (.ref a1), some (.ref a2), some (.ref a3), some (.int x4), some (.int x5), some (.int x6), some (.int x7), some (.int x8), some (.int x9)] [] f 0 0 := by
  unfold B_Di_addMovesWithChange_42 at h
  refine s_il l_Di_addMovesWithChange_42 rfl ?_
  refine s_aln l_Di_addMovesWithChange_44 rfl ?_
  refine s_cvi (As := []) (r := [.int x9]) l_Di_addMovesWithChange_45 rfl ⟨rfl, rfl⟩ rfl (Nat.le_of_ble_eq_true rfl) rfl ⟨Nat.zero_le _, Nat.zero_le _⟩ h (fun v3 f2 h => ?_)
  refine s_ifc l_Di_addMovesWithChange_48 h (fun h => ?_) (fun h => ?_)
  · refine s_inc 1 l_Di_addMovesWithChange_112 rfl rfl ?_
    refine s_goto l_Di_addMovesWithChange_115 ?_
    exact h
  · refine s_aln l_Di_addMovesWithChange_51 rfl ?_
    refine s_gr l_Di_addMovesWithChange_52 h (fun r4 h => ?_)
    refine s_il l_Di_addMovesWithChange_55 rfl ?_
    refine s_bal l_Di_addMovesWithChange_57 (Or.inl rfl) h (fun v5 h => ?_)
    refine s_if l_Di_addMovesWithChange_58 h (fun h => ?_) (fun h => ?_)
    · refine s_inc 1 l_Di_addMovesWithChange_106 rfl rfl ?_
      refine s_goto l_Di_addMovesWithChange_109 ?_
      exact h
    · refine s_aln l_Di_addMovesWithChange_61 rfl ?_
      refine s_gr l_Di_addMovesWithChange_62 h (fun r6 h => ?_)
      refine s_il l_Di_addMovesWithChange_65 rfl ?_
      refine s_bal l_Di_addMovesWithChange_67 (Or.inl rfl) h (fun v7 h => ?_)
      refine s_if l_Di_addMovesWithChange_68 h (fun h => ?_) (fun h => ?_)
      · refine s_inc 1 l_Di_addMovesWithChange_106 rfl rfl ?_
        refine s_goto l_Di_addMovesWithChange_109 ?_
        exact h
      · refine s_aln l_Di_addMovesWithChange_71 rfl ?_
        refine s_gr l_Di_addMovesWithChange_72 h (fun r8 h => ?_)
        refine s_il l_Di_addMovesWithChange_75 rfl ?_
        refine s_aal l_Di_addMovesWithChange_77 h (fun r9 h => ?_)
        refine s_il l_Di_addMovesWithChange_78 rfl ?_
        refine s_ial l_Di_addMovesWithChange_80 rfl h (fun v10 h => ?_)
        refine s_il l_Di_addMovesWithChange_81 rfl ?_
        refine s_ifc l_Di_addMovesWithChange_83 h (fun h => ?_) (fun h => ?_)
        · refine s_inc 1 l_Di_addMovesWithChange_106 rfl rfl ?_
          refine s_goto l_Di_addMovesWithChange_109 ?_
          exact h
        · refine s_aln l_Di_addMovesWithChange_86 rfl ?_
          refine s_gr l_Di_addMovesWithChange_87 h (fun r11 h => ?_)
          refine s_il l_Di_addMovesWithChange_90 rfl ?_
          refine s_aal l_Di_addMovesWithChange_92 h (fun r12 h => ?_)
          refine s_il l_Di_addMovesWithChange_93 rfl ?_
          refine s_ial l_Di_addMovesWithChange_95 rfl h (fun v13 h => ?_)
          refine s_is l_Di_addMovesWithChange_96 (Nat.le_of_ble_eq_true rfl) ?_
          refine s_il l_Di_addMovesWithChange_98 rfl ?_
          refine s_is l_Di_addMovesWithChange_100 (Nat.le_of_ble_eq_true rfl) ?_
          refine s_il l_Di_addMovesWithChange_102 rfl ?_
          refine s_is l_Di_addMovesWithChange_104 (Nat.le_of_ble_eq_true rfl) ?_
          refine s_inc 1 l_Di_addMovesWithChange_106 rfl rfl ?_
          refine s_goto l_Di_addMovesWithChange_109 ?_
          exact h
theorem l_Di_measureLikeness_0 : xlk (xm_cd m_Di_measureLikeness) 0 = some (.iconst 0, 1, (0, 0, 0, [])) := rfl
theorem l_Di_measureLikeness_1 : xlk (xm_cd m_Di_measureLikeness) 1 = some (.istore_n 3, 1, (0, 0, 0, [])) := rfl
theorem l_Di_measureLikeness_2 : xlk (xm_cd m_Di_measureLikeness) 2 = some (.iload_n 3, 1, (0, 0, 0, [])) := rfl
theorem l_Di_measureLikeness_3 : xlk (xm_cd m_Di_measureLikeness) 3 = some (.aload_n 2, 1, (0, 0, 0, [])) := rfl
theorem l_Di_measureLikeness_4 : xlk (xm_cd m_Di_measureLikeness) 4 = some (.invokevirtual 39, 3, (439, 37, 0, [])) := rfl
theorem l_Di_measureLikeness_7 : xlk (xm_cd m_Di_measureLikeness) 7 = some (.if_icmp .ge 86, 3, (0, 93, 0, [])) := rfl
theorem l_Di_measureLikeness_10 : xlk (xm_cd m_Di_measureLikeness) 10 = some (.iconst 0, 1, (0, 0, 0, [])) := rfl
theorem l_Di_measureLikeness_11 : xlk (xm_cd m_Di_measureLikeness) 11 = some (.istore 4, 2, (0, 0, 0, [])) := rfl
theorem l_Di_measureLikeness_13 : xlk (xm_cd m_Di_measureLikeness) 13 = some (.iload 4, 2, (0, 0, 0, [])) := rfl
theorem l_Di_measureLikeness_15 : xlk (xm_cd m_Di_measureLikeness) 15 = some (.aload_n 1, 1, (0, 0, 0, [])) := rfl
theorem l_Di_measureLikeness_16 : xlk (xm_cd m_Di_measureLikeness) 16 = some (.invokevirtual 39, 3, (439, 37, 0, [])) := rfl
theorem l_Di_measureLikeness_19 : xlk (xm_cd m_Di_measureLikeness) 19 = some (.if_icmp .ge 68, 3, (0, 87, 0, [])) := rfl
theorem l_Di_measureLikeness_22 : xlk (xm_cd m_Di_measureLikeness) 22 = some (.aload_n 0, 1, (0, 0, 0, [])) := rfl
theorem l_Di_measureLikeness_23 : xlk (xm_cd m_Di_measureLikeness) 23 = some (.getfield 22, 3, (196, 7, 2, [])) := rfl
theorem l_Di_measureLikeness_26 : xlk (xm_cd m_Di_measureLikeness) 26 = some (.iload_n 3, 1, (0, 0, 0, [])) := rfl
theorem l_Di_measureLikeness_27 : xlk (xm_cd m_Di_measureLikeness) 27 = some (.baload, 1, (0, 0, 0, [])) := rfl
theorem l_Di_measureLikeness_28 : xlk (xm_cd m_Di_measureLikeness) 28 = some (.ifCond .eq 17, 3, (0, 45, 0, [])) := rfl
theorem l_Di_measureLikeness_31 : xlk (xm_cd m_Di_measureLikeness) 31 = some (.aload_n 0, 1, (0, 0, 0, [])) := rfl
theorem l_Di_measureLikeness_32 : xlk (xm_cd m_Di_measureLikeness) 32 = some (.getfield 18, 3, (195, 7, 1, [])) := rfl
theorem l_Di_measureLikeness_35 : xlk (xm_cd m_Di_measureLikeness) 35 = some (.iload 4, 2, (0, 0, 0, [])) := rfl
theorem l_Di_measureLikeness_37 : xlk (xm_cd m_Di_measureLikeness) 37 = some (.baload, 1, (0, 0, 0, [])) := rfl
theorem l_Di_measureLikeness_38 : xlk (xm_cd m_Di_measureLikeness) 38 = some (.ifCond .eq 7, 3, (0, 45, 0, [])) := rfl
theorem l_Di_measureLikeness_41 : xlk (xm_cd m_Di_measureLikeness) 41 = some (.iconst 1, 1, (0, 0, 0, [])) := rfl
theorem l_Di_measureLikeness_42 : xlk (xm_cd m_Di_measureLikeness) 42 = some (.goto 4, 3, (0, 46, 0, [])) := rfl
theorem l_Di_measureLikeness_45 : xlk (xm_cd m_Di_measureLikeness) 45 = some (.iconst 0, 1, (0, 0, 0, [])) := rfl
theorem l_Di_measureLikeness_46 : xlk (xm_cd m_Di_measureLikeness) 46 = some (.istore 5, 2, (0, 0, 0, [])) := rfl
theorem l_Di_measureLikeness_48 : xlk (xm_cd m_Di_measureLikeness) 48 = some (.aload_n 0, 1, (0, 0, 0, [])) := rfl
theorem l_Di_measureLikeness_49 : xlk (xm_cd m_Di_measureLikeness) 49 = some (.getfield 27, 3, (197, 7, 3, [])) := rfl
theorem l_Di_measureLikeness_52 : xlk (xm_cd m_Di_measureLikeness) 52 = some (.iload_n 3, 1, (0, 0, 0, [])) := rfl
theorem l_Di_measureLikeness_53 : xlk (xm_cd m_Di_measureLikeness) 53 = some (.aaload, 1, (0, 8, 0, [])) := rfl
theorem l_Di_measureLikeness_54 : xlk (xm_cd m_Di_measureLikeness) 54 = some (.iload 4, 2, (0, 0, 0, [])) := rfl
theorem l_Di_measureLikeness_56 : xlk (xm_cd m_Di_measureLikeness) 56 = some (.iload 5, 2, (0, 0, 0, [])) := rfl
theorem l_Di_measureLikeness_58 : xlk (xm_cd m_Di_measureLikeness) 58 = some (.ifCond .eq 21, 3, (0, 79, 0, [])) := rfl
theorem l_Di_measureLikeness_61 : xlk (xm_cd m_Di_measureLikeness) 61 = some (.aload_n 0, 1, (0, 0, 0, [])) := rfl
theorem l_Di_measureLikeness_62 : xlk (xm_cd m_Di_measureLikeness) 62 = some (.aload_n 1, 1, (0, 0, 0, [])) := rfl
theorem l_Di_measureLikeness_63 : xlk (xm_cd m_Di_measureLikeness) 63 = some (.iload 4, 2, (0, 0, 0, [])) := rfl
theorem l_Di_measureLikeness_65 : xlk (xm_cd m_Di_measureLikeness) 65 = some (.invokevirtual 53, 3, (442, 40, 1, [])) := rfl
theorem l_Di_measureLikeness_68 : xlk (xm_cd m_Di_measureLikeness) 68 = some (.aload_n 2, 1, (0, 0, 0, [])) := rfl
theorem l_Di_measureLikeness_69 : xlk (xm_cd m_Di_measureLikeness) 69 = some (.iload_n 3, 1, (0, 0, 0, [])) := rfl
theorem l_Di_measureLikeness_70 : xlk (xm_cd m_Di_measureLikeness) 70 = some (.invokevirtual 53, 3, (442, 40, 1, [])) := rfl
theorem l_Di_measureLikeness_73 : xlk (xm_cd m_Di_measureLikeness) 73 = some (.invokevirtual 85, 3, (532, 72, 2, [])) := rfl
theorem l_Di_measureLikeness_76 : xlk (xm_cd m_Di_measureLikeness) 76 = some (.goto 4, 3, (0, 80, 0, [])) := rfl
theorem l_Di_measureLikeness_79 : xlk (xm_cd m_Di_measureLikeness) 79 = some (.iconst 0, 1, (0, 0, 0, [])) := rfl
theorem l_Di_measureLikeness_80 : xlk (xm_cd m_Di_measureLikeness) 80 = some (.iastore, 1, (0, 0, 0, [])) := rfl
theorem l_Di_measureLikeness_81 : xlk (xm_cd m_Di_measureLikeness) 81 = some (.iinc 4 1, 3, (0, 0, 0, [])) := rfl
theorem l_Di_measureLikeness_84 : xlk (xm_cd m_Di_measureLikeness) 84 = some (.goto (-71), 3, (0, 13, 0, [])) := rfl
theorem l_Di_measureLikeness_87 : xlk (xm_cd m_Di_measureLikeness) 87 = some (.iinc 3 1, 3, (0, 0, 0, [])) := rfl
theorem l_Di_measureLikeness_90 : xlk (xm_cd m_Di_measureLikeness) 90 = some (.goto (-88), 3, (0, 2, 0, [])) := rfl
theorem l_Di_measureLikeness_93 : xlk (xm_cd m_Di_measureLikeness) 93 = some (.return_, 1, (0, 0, 0, [])) := rfl
def B_Di_measureLikeness_0 (d : Nat) (E : Option Value → xH → Prop) (f : xH) (a0 : Nat) (a1 : Nat) (a2 : Nat) : Prop :=
  xWp (xT0, xSp xT0 d, none, m_Di_measureLikeness, E) 2 [some (.ref a0), some (.ref a1), some (.ref a2), some (.int 0), none, none] [] f 0 0
theorem b_Di_measureLikeness_0 {d : Nat} {E : Option Value → xH → Prop} {f : xH} {a0 : Nat} {a1 : Nat} {a2 : Nat} (h : B_Di_measureLikeness_0 d E f a0 a1 a2) : xWp (xT0, xSp xT0 d, none, m_Di_measureLikeness, E) 0 [some (.ref a0), some (.ref a1), some (.ref a2), none, none, none] [] f 0 0 := by
  unfold B_Di_measureLikeness_0 at h
  refine s_ic 0 l_Di_measureLikeness_0 rfl ?_
  refine s_isn l_Di_measureLikeness_1 (Nat.le_of_ble_eq_true rfl) ?_
  exact h
def B_Di_measureLikeness_2 (d : Nat) (E : Option Value → xH → Prop) (f : xH) (a0 : Nat) (a1 : Nat) (a2 : Nat) (x3 : Int32) (u4 : Option Value) (u5 : Option Value) : Prop :=
  (∃ fs, f a2 = some (xO 2 fs)) ∧ xSp xT0 d j_Tr_size [.ref a2] f (fun w1 f2 => xvi w1 (fun v3 => xbr (v3 ≤ x3) (E none f2) (xWp (xT0, xSp xT0 d, none, m_Di_measureLikeness, E) 13 [some (.ref a0), some (.ref a1), some (.ref a2), some (.int x3), some (.int 0), u5] [] f2 0 0)))
theorem b_Di_measureLikeness_2 {d : Nat} {E : Option Value → xH → Prop} {f : xH} {a0 : Nat} {a1 : Nat} {a2 : Nat} {x3 : Int32} {u4 : Option Value} {u5 : Option Value} (h : B_Di_measureLikeness_2 d E f a0 a1 a2 x3 u4 u5) : xWp (xT0, xSp xT0 d, none, m_Di_measureLikeness, E) 2 [some (.ref a0), some (.ref a1), some (.ref a2), some (.int x3), u4, u5] [] f 0 0 := by
  unfold B_Di_measureLikeness_2 at h
  refine s_iln l_Di_measureLikeness_2 rfl ?_
  refine s_aln l_Di_measureLikeness_3 rfl ?_
  refine s_cvi (As := []) (r := [.int x3]) l_Di_measureLikeness_4 rfl ⟨rfl, rfl⟩ rfl (Nat.le_of_ble_eq_true rfl) rfl ⟨Nat.zero_le _, Nat.zero_le _⟩ h (fun v3 f2 h => ?_)
  refine s_ifc l_Di_measureLikeness_7 h (fun h => ?_) (fun h => ?_)
  · exact s_ret l_Di_measureLikeness_93 ⟨Nat.zero_le _, Nat.zero_le _⟩ h
  · refine s_ic 0 l_Di_measureLikeness_10 rfl ?_
    refine s_is l_Di_measureLikeness_11 (Nat.le_of_ble_eq_true rfl) ?_
    exact h
def B_Di_measureLikeness_13 (d : Nat) (E : Option Value → xH → Prop) (f : xH) (a0 : Nat) (a1 : Nat) (a2 : Nat) (x3 : Int32) (x4 : Int32) (u5 : Option Value) : Prop :=
  (∃ fs, f a1 = some (xO 2 fs)) ∧ xSp xT0 d j_Tr_size [.ref a1] f (fun w1 f2 => xvi w1 (fun v3 => xbr (v3 ≤ x4) (xWp (xT0, xSp xT0 d, none, m_Di_measureLikeness, E) 2 [some (.ref a0), some (.ref a1), some (.ref a2), some (.int (x3 + 1)), some (.int x4), u5] [] f2 0 0) (xgr f2 a0 7 2 (fun r4 => xal f2 r4 1 x3 (fun v5 => xbr (v5 = 0) (xWp (xT0, xSp xT0 d, none, m_Di_measureLikeness, E) 46 [some (.ref a0), some (.ref a1), some (.ref a2), some (.int x3), some (.int x4), u5] [.int 0] f2 0 0) (xgr f2 a0 7 1 (fun r6 => xal f2 r6 1 x4 (fun v7 => xbr (v7 = 0) (xWp (xT0, xSp xT0 d, none, m_Di_measureLikeness, E) 46 [some (.ref a0), some (.ref a1), some (.ref a2), some (.int x3), some (.int x4), u5] [.int 0] f2 0 0) (xWp (xT0, xSp xT0 d, none, m_Di_measureLikeness, E) 46 [some (.ref a0), some (.ref a1), some (.ref a2), some (.int x3), some (.int x4), u5] [.int 1] f2 0 0)))))))))
theorem b_Di_measureLikeness_13 {d : Nat} {E : Option Value → xH → Prop} {f : xH} {a0 : Nat} {a1 : Nat} {a2 : Nat} {x3 : Int32} {x4 : Int32} {u5 : Option Value} (h : B_Di_measureLikeness_13 d E f a0 a1 a2 x3 x4 u5) : xWp (xT0, xSp xT0 d, none, m_Di_measureLikeness, E) 13 [some (.ref a0), some (.ref a1), some (.ref a2), some (.int x3), some (.int x4), u5] [] f 0 0 := by
  unfold B_Di_measureLikeness_13 at h
  refine s_il l_Di_measureLikeness_13 rfl ?_
  refine s_aln l_Di_measureLikeness_15 rfl ?_
  refine s_cvi (As := []) (r := [.int x4]) l_Di_measureLikeness_16 rfl ⟨rfl, rfl⟩ rfl (Nat.le_of_ble_eq_true rfl) rfl ⟨Nat.zero_le _, Nat.zero_le _⟩ h (fun v3 f2 h => ?_)
  refine s_ifc l_Di_measureLikeness_19 h (fun h => ?_) (fun h => ?_)
  · refine s_inc 1 l_Di_measureLikeness_87 rfl rfl ?_
    refine s_goto l_Di_measureLikeness_90 ?_
    exact h
  · refine s_aln l_Di_measureLikeness_22 rfl ?_
    refine s_gr l_Di_measureLikeness_23 h (fun r4 h => ?_)
    refine s_iln l_Di_measureLikeness_26 rfl ?_
    refine s_bal l_Di_measureLikeness_27 (Or.inl rfl) h (fun v5 h => ?_)
    refine s_if l_Di_measureLikeness_28 h (fun h => ?_) (fun h => ?_)
    · refine s_ic 0 l_Di_measureLikeness_45 rfl ?_
      exact h
    · refine s_aln l_Di_measureLikeness_31 rfl ?_
      refine s_gr l_Di_measureLikeness_32 h (fun r6 h => ?_)
      refine s_il l_Di_measureLikeness_35 rfl ?_
      refine s_bal l_Di_measureLikeness_37 (Or.inl rfl) h (fun v7 h => ?_)
      refine s_if l_Di_measureLikeness_38 h (fun h => ?_) (fun h => ?_)
      · refine s_ic 0 l_Di_measureLikeness_45 rfl ?_
        exact h
      · refine s_ic 1 l_Di_measureLikeness_41 rfl ?_
        refine s_goto l_Di_measureLikeness_42 ?_
        exact h
def B_Di_measureLikeness_46 (d : Nat) (E : Option Value → xH → Prop) (f : xH) (a0 : Nat) (a1 : Nat) (a2 : Nat) (x3 : Int32) (x4 : Int32) (u5 : Option Value) (s0 : Int32) : Prop :=
  xgr f a0 7 3 (fun r1 => xrl f r1 8 x3 (fun r2 => xbr (s0 = 0) (xas f r2 0 x4 0 (fun f3 => xWp (xT0, xSp xT0 d, none, m_Di_measureLikeness, E) 13 [some (.ref a0), some (.ref a1), some (.ref a2), some (.int x3), some (.int (x4 + 1)), some (.int s0)] [] f3 0 0)) ((∃ fs, f a1 = some (xO 2 fs)) ∧ xSp xT0 d j_Tr_contentAt [.ref a1, .int x4] f (fun w4 f5 => xvr w4 (fun r6 => (∃ fs, f5 a2 = some (xO 2 fs)) ∧ xSp xT0 d j_Tr_contentAt [.ref a2, .int x3] f5 (fun w7 f8 => xvr w7 (fun r9 => (∃ fs, f8 a0 = some (xO 7 fs)) ∧ xSp xT0 d j_Di_like [.ref a0, .ref r6, .ref r9] f8 (fun w10 f11 => xvi w10 (fun v12 => xas f11 r2 0 x4 v12 (fun f13 => xWp (xT0, xSp xT0 d, none, m_Di_measureLikeness, E) 13 [some (.ref a0), some (.ref a1), some (.ref a2), some (.int x3), some (.int (x4 + 1)), some (.int s0)] [] f13 0 0))))))))))
theorem b_Di_measureLikeness_46 {d : Nat} {E : Option Value → xH → Prop} {f : xH} {a0 : Nat} {a1 : Nat} {a2 : Nat} {x3 : Int32} {x4 : Int32} {u5 : Option Value} {s0 : Int32} (h : B_Di_measureLikeness_46 d E f a0 a1 a2 x3 x4 u5 s0) : xWp (xT0, xSp xT0 d, none, m_Di_measureLikeness, E) 46 [some (.ref a0), some (.ref a1), some (.ref a2), some (.int x3), some (.int x4), u5] [.int s0] f 0 0 := by
  unfold B_Di_measureLikeness_46 at h
  refine s_is l_Di_measureLikeness_46 (Nat.le_of_ble_eq_true rfl) ?_
  refine s_aln l_Di_measureLikeness_48 rfl ?_
  refine s_gr l_Di_measureLikeness_49 h (fun r1 h => ?_)
  refine s_iln l_Di_measureLikeness_52 rfl ?_
  refine s_aal l_Di_measureLikeness_53 h (fun r2 h => ?_)
  refine s_il l_Di_measureLikeness_54 rfl ?_
  refine s_il l_Di_measureLikeness_56 rfl ?_
  refine s_if l_Di_measureLikeness_58 h (fun h => ?_) (fun h => ?_)
  · refine s_ic 0 l_Di_measureLikeness_79 rfl ?_
    refine s_iast l_Di_measureLikeness_80 h (fun f3 h => ?_)
    refine s_inc 1 l_Di_measureLikeness_81 rfl rfl ?_
    refine s_goto l_Di_measureLikeness_84 ?_
    exact h
  · refine s_aln l_Di_measureLikeness_61 rfl ?_
    refine s_aln l_Di_measureLikeness_62 rfl ?_
    refine s_il l_Di_measureLikeness_63 rfl ?_
    refine s_cvr (As := [.int x4]) (r := [.ref a0, .int x4, .ref r2]) l_Di_measureLikeness_65 rfl ⟨rfl, rfl⟩ rfl (Nat.le_of_ble_eq_true rfl) rfl ⟨Nat.zero_le _, Nat.zero_le _⟩ h (fun r6 f5 h => ?_)
    refine s_aln l_Di_measureLikeness_68 rfl ?_
    refine s_iln l_Di_measureLikeness_69 rfl ?_
    refine s_cvr (As := [.int x3]) (r := [.ref r6, .ref a0, .int x4, .ref r2]) l_Di_measureLikeness_70 rfl ⟨rfl, rfl⟩ rfl (Nat.le_of_ble_eq_true rfl) rfl ⟨Nat.zero_le _, Nat.zero_le _⟩ h (fun r9 f8 h => ?_)
    refine s_cvi (As := [.ref r6, .ref r9]) (r := [.int x4, .ref r2]) l_Di_measureLikeness_73 rfl ⟨rfl, rfl⟩ rfl (Nat.le_of_ble_eq_true rfl) rfl ⟨Nat.zero_le _, Nat.zero_le _⟩ h (fun v12 f11 h => ?_)
    refine s_goto l_Di_measureLikeness_76 ?_
    refine s_iast l_Di_measureLikeness_80 h (fun f13 h => ?_)
    refine s_inc 1 l_Di_measureLikeness_81 rfl rfl ?_
    refine s_goto l_Di_measureLikeness_84 ?_
    exact h
theorem l_Di_like_0 : xlk (xm_cd m_Di_like) 0 = some (.aload_n 1, 1, (0, 0, 0, [])) := rfl
theorem l_Di_like_1 : xlk (xm_cd m_Di_like) 1 = some (.invokevirtual 76, 3, (470, 12, 0, [])) := rfl
theorem l_Di_like_4 : xlk (xm_cd m_Di_like) 4 = some (.aload_n 2, 1, (0, 0, 0, [])) := rfl
theorem l_Di_like_5 : xlk (xm_cd m_Di_like) 5 = some (.invokevirtual 76, 3, (470, 12, 0, [])) := rfl
theorem l_Di_like_8 : xlk (xm_cd m_Di_like) 8 = some (.iadd, 1, (0, 0, 0, [])) := rfl
theorem l_Di_like_9 : xlk (xm_cd m_Di_like) 9 = some (.istore_n 3, 1, (0, 0, 0, [])) := rfl
theorem l_Di_like_10 : xlk (xm_cd m_Di_like) 10 = some (.iload_n 3, 1, (0, 0, 0, [])) := rfl
theorem l_Di_like_11 : xlk (xm_cd m_Di_like) 11 = some (.ifCond .ne 7, 3, (0, 18, 0, [])) := rfl
theorem l_Di_like_14 : xlk (xm_cd m_Di_like) 14 = some (.iconst 0, 1, (0, 0, 0, [])) := rfl
theorem l_Di_like_15 : xlk (xm_cd m_Di_like) 15 = some (.goto 15, 3, (0, 30, 0, [])) := rfl
theorem l_Di_like_18 : xlk (xm_cd m_Di_like) 18 = some (.sipush 2000, 3, (0, 0, 0, [])) := rfl
theorem l_Di_like_21 : xlk (xm_cd m_Di_like) 21 = some (.aload_n 0, 1, (0, 0, 0, [])) := rfl
theorem l_Di_like_22 : xlk (xm_cd m_Di_like) 22 = some (.aload_n 1, 1, (0, 0, 0, [])) := rfl
theorem l_Di_like_23 : xlk (xm_cd m_Di_like) 23 = some (.aload_n 2, 1, (0, 0, 0, [])) := rfl
theorem l_Di_like_24 : xlk (xm_cd m_Di_like) 24 = some (.invokevirtual 89, 3, (535, 73, 2, [])) := rfl
theorem l_Di_like_27 : xlk (xm_cd m_Di_like) 27 = some (.imul, 1, (0, 0, 0, [])) := rfl
theorem l_Di_like_28 : xlk (xm_cd m_Di_like) 28 = some (.iload_n 3, 1, (0, 0, 0, [])) := rfl
theorem l_Di_like_29 : xlk (xm_cd m_Di_like) 29 = some (.idiv, 1, (0, 0, 0, [])) := rfl
theorem l_Di_like_30 : xlk (xm_cd m_Di_like) 30 = some (.ireturn, 1, (0, 0, 0, [])) := rfl
def B_Di_like_0 (d : Nat) (E : Option Value → xH → Prop) (f : xH) (a0 : Nat) (a1 : Nat) (a2 : Nat) : Prop :=
  (∃ fs, f a1 = some (xO 1 fs)) ∧ xSp xT0 d j_By_size [.ref a1] f (fun w1 f2 => xvi w1 (fun v3 => (∃ fs, f2 a2 = some (xO 1 fs)) ∧ xSp xT0 d j_By_size [.ref a2] f2 (fun w4 f5 => xvi w4 (fun v6 => xbr (¬ (v3 + v6) = 0) ((∃ fs, f5 a0 = some (xO 7 fs)) ∧ xSp xT0 d j_Di_mostCommon [.ref a0, .ref a1, .ref a2] f5 (fun w7 f8 => xvi w7 (fun v9 => (¬ (v3 + v6) = (0 : Int32)) ∧ (E (some (.int ((2000 * v9) / (v3 + v6)))) f8)))) (E (some (.int 0)) f5)))))
theorem b_Di_like_0 {d : Nat} {E : Option Value → xH → Prop} {f : xH} {a0 : Nat} {a1 : Nat} {a2 : Nat} (h : B_Di_like_0 d E f a0 a1 a2) : xWp (xT0, xSp xT0 d, none, m_Di_like, E) 0 [some (.ref a0), some (.ref a1), some (.ref a2), none] [] f 0 0 := by
  unfold B_Di_like_0 at h
  refine s_aln l_Di_like_0 rfl ?_
  refine s_cvi (As := []) (r := []) l_Di_like_1 rfl ⟨rfl, rfl⟩ rfl (Nat.le_of_ble_eq_true rfl) rfl ⟨Nat.zero_le _, Nat.zero_le _⟩ h (fun v3 f2 h => ?_)
  refine s_aln l_Di_like_4 rfl ?_
  refine s_cvi (As := []) (r := [.int v3]) l_Di_like_5 rfl ⟨rfl, rfl⟩ rfl (Nat.le_of_ble_eq_true rfl) rfl ⟨Nat.zero_le _, Nat.zero_le _⟩ h (fun v6 f5 h => ?_)
  refine s_iadd l_Di_like_8 ?_
  refine s_isn l_Di_like_9 (Nat.le_of_ble_eq_true rfl) ?_
  refine s_iln l_Di_like_10 rfl ?_
  refine s_if l_Di_like_11 h (fun h => ?_) (fun h => ?_)
  · refine s_sp 2000 l_Di_like_18 rfl ?_
    refine s_aln l_Di_like_21 rfl ?_
    refine s_aln l_Di_like_22 rfl ?_
    refine s_aln l_Di_like_23 rfl ?_
    refine s_cvi (As := [.ref a1, .ref a2]) (r := [.int 2000]) l_Di_like_24 rfl ⟨rfl, rfl⟩ rfl (Nat.le_of_ble_eq_true rfl) rfl ⟨Nat.zero_le _, Nat.zero_le _⟩ h (fun v9 f8 h => ?_)
    refine s_imul l_Di_like_27 ?_
    refine s_iln l_Di_like_28 rfl ?_
    refine s_div l_Di_like_29 ⟨h.1, ?_⟩
    have h := h.2
    exact s_iret l_Di_like_30 rfl ⟨Nat.zero_le _, Nat.zero_le _⟩ h
  · refine s_ic 0 l_Di_like_14 rfl ?_
    refine s_goto l_Di_like_15 ?_
    exact s_iret l_Di_like_30 rfl ⟨Nat.zero_le _, Nat.zero_le _⟩ h
theorem l_Di_mostCommon_0 : xlk (xm_cd m_Di_mostCommon) 0 = some (.aload_n 2, 1, (0, 0, 0, [])) := rfl
theorem l_Di_mostCommon_1 : xlk (xm_cd m_Di_mostCommon) 1 = some (.invokevirtual 76, 3, (470, 12, 0, [])) := rfl
theorem l_Di_mostCommon_4 : xlk (xm_cd m_Di_mostCommon) 4 = some (.bipush 48, 2, (0, 0, 0, [])) := rfl
theorem l_Di_mostCommon_6 : xlk (xm_cd m_Di_mostCommon) 6 = some (.invokestatic 92, 3, (538, 0, 0, [(2, 0)])) := rfl
theorem l_Di_mostCommon_9 : xlk (xm_cd m_Di_mostCommon) 9 = some (.istore_n 3, 1, (0, 0, 0, [])) := rfl
theorem l_Di_mostCommon_10 : xlk (xm_cd m_Di_mostCommon) 10 = some (.iconst 0, 1, (0, 0, 0, [])) := rfl
theorem l_Di_mostCommon_11 : xlk (xm_cd m_Di_mostCommon) 11 = some (.istore 4, 2, (0, 0, 0, [])) := rfl
theorem l_Di_mostCommon_13 : xlk (xm_cd m_Di_mostCommon) 13 = some (.iload 4, 2, (0, 0, 0, [])) := rfl
theorem l_Di_mostCommon_15 : xlk (xm_cd m_Di_mostCommon) 15 = some (.iload_n 3, 1, (0, 0, 0, [])) := rfl
theorem l_Di_mostCommon_16 : xlk (xm_cd m_Di_mostCommon) 16 = some (.if_icmp .gt 17, 3, (0, 33, 0, [])) := rfl
theorem l_Di_mostCommon_19 : xlk (xm_cd m_Di_mostCommon) 19 = some (.aload_n 0, 1, (0, 0, 0, [])) := rfl
theorem l_Di_mostCommon_20 : xlk (xm_cd m_Di_mostCommon) 20 = some (.getfield 30, 3, (198, 7, 4, [])) := rfl
theorem l_Di_mostCommon_23 : xlk (xm_cd m_Di_mostCommon) 23 = some (.iload 4, 2, (0, 0, 0, [])) := rfl
theorem l_Di_mostCommon_25 : xlk (xm_cd m_Di_mostCommon) 25 = some (.iconst 0, 1, (0, 0, 0, [])) := rfl
theorem l_Di_mostCommon_26 : xlk (xm_cd m_Di_mostCommon) 26 = some (.iastore, 1, (0, 0, 0, [])) := rfl
theorem l_Di_mostCommon_27 : xlk (xm_cd m_Di_mostCommon) 27 = some (.iinc 4 1, 3, (0, 0, 0, [])) := rfl
theorem l_Di_mostCommon_30 : xlk (xm_cd m_Di_mostCommon) 30 = some (.goto (-17), 3, (0, 13, 0, [])) := rfl
theorem l_Di_mostCommon_33 : xlk (xm_cd m_Di_mostCommon) 33 = some (.iconst 0, 1, (0, 0, 0, [])) := rfl
theorem l_Di_mostCommon_34 : xlk (xm_cd m_Di_mostCommon) 34 = some (.istore 4, 2, (0, 0, 0, [])) := rfl
theorem l_Di_mostCommon_36 : xlk (xm_cd m_Di_mostCommon) 36 = some (.iload 4, 2, (0, 0, 0, [])) := rfl
theorem l_Di_mostCommon_38 : xlk (xm_cd m_Di_mostCommon) 38 = some (.aload_n 1, 1, (0, 0, 0, [])) := rfl
theorem l_Di_mostCommon_39 : xlk (xm_cd m_Di_mostCommon) 39 = some (.getfield 98, 3, (0, 1, 1, [])) := rfl
theorem l_Di_mostCommon_42 : xlk (xm_cd m_Di_mostCommon) 42 = some (.if_icmp .ge 107, 3, (0, 149, 0, [])) := rfl
theorem l_Di_mostCommon_45 : xlk (xm_cd m_Di_mostCommon) 45 = some (.aload_n 1, 1, (0, 0, 0, [])) := rfl
theorem l_Di_mostCommon_46 : xlk (xm_cd m_Di_mostCommon) 46 = some (.getfield 101, 3, (0, 1, 0, [])) := rfl
theorem l_Di_mostCommon_49 : xlk (xm_cd m_Di_mostCommon) 49 = some (.iload 4, 2, (0, 0, 0, [])) := rfl
theorem l_Di_mostCommon_51 : xlk (xm_cd m_Di_mostCommon) 51 = some (.iaload, 1, (0, 0, 0, [])) := rfl
theorem l_Di_mostCommon_52 : xlk (xm_cd m_Di_mostCommon) 52 = some (.istore 5, 2, (0, 0, 0, [])) := rfl
theorem l_Di_mostCommon_54 : xlk (xm_cd m_Di_mostCommon) 54 = some (.iconst 0, 1, (0, 0, 0, [])) := rfl
theorem l_Di_mostCommon_55 : xlk (xm_cd m_Di_mostCommon) 55 = some (.istore 6, 2, (0, 0, 0, [])) := rfl
theorem l_Di_mostCommon_57 : xlk (xm_cd m_Di_mostCommon) 57 = some (.iconst 1, 1, (0, 0, 0, [])) := rfl
theorem l_Di_mostCommon_58 : xlk (xm_cd m_Di_mostCommon) 58 = some (.istore 7, 2, (0, 0, 0, [])) := rfl
theorem l_Di_mostCommon_60 : xlk (xm_cd m_Di_mostCommon) 60 = some (.iload 7, 2, (0, 0, 0, [])) := rfl
theorem l_Di_mostCommon_62 : xlk (xm_cd m_Di_mostCommon) 62 = some (.iload_n 3, 1, (0, 0, 0, [])) := rfl
theorem l_Di_mostCommon_63 : xlk (xm_cd m_Di_mostCommon) 63 = some (.if_icmp .gt 80, 3, (0, 143, 0, [])) := rfl
theorem l_Di_mostCommon_66 : xlk (xm_cd m_Di_mostCommon) 66 = some (.aload_n 0, 1, (0, 0, 0, [])) := rfl
theorem l_Di_mostCommon_67 : xlk (xm_cd m_Di_mostCommon) 67 = some (.getfield 30, 3, (198, 7, 4, [])) := rfl
theorem l_Di_mostCommon_70 : xlk (xm_cd m_Di_mostCommon) 70 = some (.iload 7, 2, (0, 0, 0, [])) := rfl
theorem l_Di_mostCommon_72 : xlk (xm_cd m_Di_mostCommon) 72 = some (.iaload, 1, (0, 0, 0, [])) := rfl
theorem l_Di_mostCommon_73 : xlk (xm_cd m_Di_mostCommon) 73 = some (.istore 8, 2, (0, 0, 0, [])) := rfl
theorem l_Di_mostCommon_75 : xlk (xm_cd m_Di_mostCommon) 75 = some (.aload_n 2, 1, (0, 0, 0, [])) := rfl
theorem l_Di_mostCommon_76 : xlk (xm_cd m_Di_mostCommon) 76 = some (.getfield 101, 3, (0, 1, 0, [])) := rfl
theorem l_Di_mostCommon_79 : xlk (xm_cd m_Di_mostCommon) 79 = some (.iload 7, 2, (0, 0, 0, [])) := rfl
theorem l_Di_mostCommon_81 : xlk (xm_cd m_Di_mostCommon) 81 = some (.iconst 1, 1, (0, 0, 0, [])) := rfl
theorem l_Di_mostCommon_82 : xlk (xm_cd m_Di_mostCommon) 82 = some (.isub, 1, (0, 0, 0, [])) := rfl
theorem l_Di_mostCommon_83 : xlk (xm_cd m_Di_mostCommon) 83 = some (.iaload, 1, (0, 0, 0, [])) := rfl
theorem l_Di_mostCommon_84 : xlk (xm_cd m_Di_mostCommon) 84 = some (.iload 5, 2, (0, 0, 0, [])) := rfl
theorem l_Di_mostCommon_86 : xlk (xm_cd m_Di_mostCommon) 86 = some (.if_icmp .ne 17, 3, (0, 103, 0, [])) := rfl
theorem l_Di_mostCommon_89 : xlk (xm_cd m_Di_mostCommon) 89 = some (.aload_n 0, 1, (0, 0, 0, [])) := rfl
theorem l_Di_mostCommon_90 : xlk (xm_cd m_Di_mostCommon) 90 = some (.getfield 30, 3, (198, 7, 4, [])) := rfl
theorem l_Di_mostCommon_93 : xlk (xm_cd m_Di_mostCommon) 93 = some (.iload 7, 2, (0, 0, 0, [])) := rfl
theorem l_Di_mostCommon_95 : xlk (xm_cd m_Di_mostCommon) 95 = some (.iload 6, 2, (0, 0, 0, [])) := rfl
theorem l_Di_mostCommon_97 : xlk (xm_cd m_Di_mostCommon) 97 = some (.iconst 1, 1, (0, 0, 0, [])) := rfl
theorem l_Di_mostCommon_98 : xlk (xm_cd m_Di_mostCommon) 98 = some (.iadd, 1, (0, 0, 0, [])) := rfl
theorem l_Di_mostCommon_99 : xlk (xm_cd m_Di_mostCommon) 99 = some (.iastore, 1, (0, 0, 0, [])) := rfl
theorem l_Di_mostCommon_100 : xlk (xm_cd m_Di_mostCommon) 100 = some (.goto 33, 3, (0, 133, 0, [])) := rfl
theorem l_Di_mostCommon_103 : xlk (xm_cd m_Di_mostCommon) 103 = some (.aload_n 0, 1, (0, 0, 0, [])) := rfl
theorem l_Di_mostCommon_104 : xlk (xm_cd m_Di_mostCommon) 104 = some (.getfield 30, 3, (198, 7, 4, [])) := rfl
theorem l_Di_mostCommon_107 : xlk (xm_cd m_Di_mostCommon) 107 = some (.iload 7, 2, (0, 0, 0, [])) := rfl
theorem l_Di_mostCommon_109 : xlk (xm_cd m_Di_mostCommon) 109 = some (.iconst 1, 1, (0, 0, 0, [])) := rfl
theorem l_Di_mostCommon_110 : xlk (xm_cd m_Di_mostCommon) 110 = some (.isub, 1, (0, 0, 0, [])) := rfl
theorem l_Di_mostCommon_111 : xlk (xm_cd m_Di_mostCommon) 111 = some (.iaload, 1, (0, 0, 0, [])) := rfl
theorem l_Di_mostCommon_112 : xlk (xm_cd m_Di_mostCommon) 112 = some (.iload 8, 2, (0, 0, 0, [])) := rfl
theorem l_Di_mostCommon_114 : xlk (xm_cd m_Di_mostCommon) 114 = some (.if_icmp .le 19, 3, (0, 133, 0, [])) := rfl
theorem l_Di_mostCommon_117 : xlk (xm_cd m_Di_mostCommon) 117 = some (.aload_n 0, 1, (0, 0, 0, [])) := rfl
theorem l_Di_mostCommon_118 : xlk (xm_cd m_Di_mostCommon) 118 = some (.getfield 30, 3, (198, 7, 4, [])) := rfl
theorem l_Di_mostCommon_121 : xlk (xm_cd m_Di_mostCommon) 121 = some (.iload 7, 2, (0, 0, 0, [])) := rfl
theorem l_Di_mostCommon_123 : xlk (xm_cd m_Di_mostCommon) 123 = some (.aload_n 0, 1, (0, 0, 0, [])) := rfl
theorem l_Di_mostCommon_124 : xlk (xm_cd m_Di_mostCommon) 124 = some (.getfield 30, 3, (198, 7, 4, [])) := rfl
theorem l_Di_mostCommon_127 : xlk (xm_cd m_Di_mostCommon) 127 = some (.iload 7, 2, (0, 0, 0, [])) := rfl
theorem l_Di_mostCommon_129 : xlk (xm_cd m_Di_mostCommon) 129 = some (.iconst 1, 1, (0, 0, 0, [])) := rfl
theorem l_Di_mostCommon_130 : xlk (xm_cd m_Di_mostCommon) 130 = some (.isub, 1, (0, 0, 0, [])) := rfl
theorem l_Di_mostCommon_131 : xlk (xm_cd m_Di_mostCommon) 131 = some (.iaload, 1, (0, 0, 0, [])) := rfl
theorem l_Di_mostCommon_132 : xlk (xm_cd m_Di_mostCommon) 132 = some (.iastore, 1, (0, 0, 0, [])) := rfl
theorem l_Di_mostCommon_133 : xlk (xm_cd m_Di_mostCommon) 133 = some (.iload 8, 2, (0, 0, 0, [])) := rfl
theorem l_Di_mostCommon_135 : xlk (xm_cd m_Di_mostCommon) 135 = some (.istore 6, 2, (0, 0, 0, [])) := rfl
theorem l_Di_mostCommon_137 : xlk (xm_cd m_Di_mostCommon) 137 = some (.iinc 7 1, 3, (0, 0, 0, [])) := rfl
theorem l_Di_mostCommon_140 : xlk (xm_cd m_Di_mostCommon) 140 = some (.goto (-80), 3, (0, 60, 0, [])) := rfl
theorem l_Di_mostCommon_143 : xlk (xm_cd m_Di_mostCommon) 143 = some (.iinc 4 1, 3, (0, 0, 0, [])) := rfl
theorem l_Di_mostCommon_146 : xlk (xm_cd m_Di_mostCommon) 146 = some (.goto (-110), 3, (0, 36, 0, [])) := rfl
theorem l_Di_mostCommon_149 : xlk (xm_cd m_Di_mostCommon) 149 = some (.aload_n 0, 1, (0, 0, 0, [])) := rfl
set_option maxRecDepth 20000 in
theorem l_Di_mostCommon_150 : xlk (xm_cd m_Di_mostCommon) 150 = some (.getfield 30, 3, (198, 7, 4, [])) := rfl
set_option maxRecDepth 20000 in
theorem l_Di_mostCommon_153 : xlk (xm_cd m_Di_mostCommon) 153 = some (.iload_n 3, 1, (0, 0, 0, [])) := rfl
set_option maxRecDepth 20000 in
theorem l_Di_mostCommon_154 : xlk (xm_cd m_Di_mostCommon) 154 = some (.iaload, 1, (0, 0, 0, [])) := rfl
set_option maxRecDepth 20000 in
theorem l_Di_mostCommon_155 : xlk (xm_cd m_Di_mostCommon) 155 = some (.ireturn, 1, (0, 0, 0, [])) := rfl
def B_Di_mostCommon_0 (d : Nat) (E : Option Value → xH → Prop) (f : xH) (a0 : Nat) (a1 : Nat) (a2 : Nat) : Prop :=
  (∃ fs, f a2 = some (xO 1 fs)) ∧ xSp xT0 d j_By_size [.ref a2] f (fun w1 f2 => xvi w1 (fun v3 => xWp (xT0, xSp xT0 d, none, m_Di_mostCommon, E) 13 [some (.ref a0), some (.ref a1), some (.ref a2), some (.int (if (48 : Int32) < v3 then 48 else v3)), some (.int 0), none, none, none, none] [] f2 0 0))
theorem b_Di_mostCommon_0 {d : Nat} {E : Option Value → xH → Prop} {f : xH} {a0 : Nat} {a1 : Nat} {a2 : Nat} (h : B_Di_mostCommon_0 d E f a0 a1 a2) : xWp (xT0, xSp xT0 d, none, m_Di_mostCommon, E) 0 [some (.ref a0), some (.ref a1), some (.ref a2), none, none, none, none, none, none] [] f 0 0 := by
  unfold B_Di_mostCommon_0 at h
  refine s_aln l_Di_mostCommon_0 rfl ?_
  refine s_cvi (As := []) (r := []) l_Di_mostCommon_1 rfl ⟨rfl, rfl⟩ rfl (Nat.le_of_ble_eq_true rfl) rfl ⟨Nat.zero_le _, Nat.zero_le _⟩ h (fun v3 f2 h => ?_)
  refine s_bp 48 l_Di_mostCommon_4 rfl ?_
  refine s_min l_Di_mostCommon_6 (Nat.le_of_ble_eq_true rfl) ⟨Nat.zero_le _, Nat.zero_le _⟩ ?_
  refine s_isn l_Di_mostCommon_9 (Nat.le_of_ble_eq_true rfl) ?_
  refine s_ic 0 l_Di_mostCommon_10 rfl ?_
  refine s_is l_Di_mostCommon_11 (Nat.le_of_ble_eq_true rfl) ?_
  exact h
def B_Di_mostCommon_13 (d : Nat) (E : Option Value → xH → Prop) (f : xH) (a0 : Nat) (a1 : Nat) (a2 : Nat) (x3 : Int32) (x4 : Int32) (u5 : Option Value) (u6 : Option Value) (u7 : Option Value) (u8 : Option Value) : Prop :=
  xbr (x3 < x4) (xWp (xT0, xSp xT0 d, none, m_Di_mostCommon, E) 36 [some (.ref a0), some (.ref a1), some (.ref a2), some (.int x3), some (.int 0), u5, u6, u7, u8] [] f 0 0) (xgr f a0 7 4 (fun r1 => xas f r1 0 x4 0 (fun f2 => xWp (xT0, xSp xT0 d, none, m_Di_mostCommon, E) 13 [some (.ref a0), some (.ref a1), some (.ref a2), some (.int x3), some (.int (x4 + 1)), u5, u6, u7, u8] [] f2 0 0)))
theorem b_Di_mostCommon_13 {d : Nat} {E : Option Value → xH → Prop} {f : xH} {a0 : Nat} {a1 : Nat} {a2 : Nat} {x3 : Int32} {x4 : Int32} {u5 : Option Value} {u6 : Option Value} {u7 : Option Value} {u8 : Option Value} (h : B_Di_mostCommon_13 d E f a0 a1 a2 x3 x4 u5 u6 u7 u8) : xWp (xT0, xSp xT0 d, none, m_Di_mostCommon, E) 13 [some (.ref a0), some (.ref a1), some (.ref a2), some (.int x3), some (.int x4), u5, u6, u7, u8] [] f 0 0 := by
  unfold B_Di_mostCommon_13 at h
  refine s_il l_Di_mostCommon_13 rfl ?_
  refine s_iln l_Di_mostCommon_15 rfl ?_
  refine s_ifc l_Di_mostCommon_16 h (fun h => ?_) (fun h => ?_)
  · refine s_ic 0 l_Di_mostCommon_33 rfl ?_
    refine s_is l_Di_mostCommon_34 (Nat.le_of_ble_eq_true rfl) ?_
    exact h
  · refine s_aln l_Di_mostCommon_19 rfl ?_
    refine s_gr l_Di_mostCommon_20 h (fun r1 h => ?_)
    refine s_il l_Di_mostCommon_23 rfl ?_
    refine s_ic 0 l_Di_mostCommon_25 rfl ?_
    refine s_iast l_Di_mostCommon_26 h (fun f2 h => ?_)
    refine s_inc 1 l_Di_mostCommon_27 rfl rfl ?_
    refine s_goto l_Di_mostCommon_30 ?_
    exact h
def B_Di_mostCommon_36 (d : Nat) (E : Option Value → xH → Prop) (f : xH) (a0 : Nat) (a1 : Nat) (a2 : Nat) (x3 : Int32) (x4 : Int32) (u5 : Option Value) (u6 : Option Value) (u7 : Option Value) (u8 : Option Value) : Prop :=
  xgi f a1 1 1 (fun v1 => xbr (v1 ≤ x4) (xgr f a0 7 4 (fun r2 => xal f r2 0 x3 (fun v3 => E (some (.int v3)) f))) (xgr f a1 1 0 (fun r4 => xal f r4 0 x4 (fun v5 => xWp (xT0, xSp xT0 d, none, m_Di_mostCommon, E) 60 [some (.ref a0), some (.ref a1), some (.ref a2), some (.int x3), some (.int x4), some (.int v5), some (.int 0), some (.int 1), u8] [] f 0 0))))
theorem b_Di_mostCommon_36 {d : Nat} {E : Option Value → xH → Prop} {f : xH} {a0 : Nat} {a1 : Nat} {a2 : Nat} {x3 : Int32} {x4 : Int32} {u5 : Option Value} {u6 : Option Value} {u7 : Option Value} {u8 : Option Value} (h : B_Di_mostCommon_36 d E f a0 a1 a2 x3 x4 u5 u6 u7 u8) : xWp (xT0, xSp xT0 d, none, m_Di_mostCommon, E) 36 [some (.ref a0), some (.ref a1), some (.ref a2), some (.int x3), some (.int x4), u5, u6, u7, u8] [] f 0 0 := by
  unfold B_Di_mostCommon_36 at h
  refine s_il l_Di_mostCommon_36 rfl ?_
  refine s_aln l_Di_mostCommon_38 rfl ?_
  refine s_gi l_Di_mostCommon_39 h (fun v1 h => ?_)
  refine s_ifc l_Di_mostCommon_42 h (fun h => ?_) (fun h => ?_)
  · refine s_aln l_Di_mostCommon_149 rfl ?_
    refine s_gr l_Di_mostCommon_150 h (fun r2 h => ?_)
    refine s_iln l_Di_mostCommon_153 rfl ?_
    refine s_ial l_Di_mostCommon_154 rfl h (fun v3 h => ?_)
    exact s_iret l_Di_mostCommon_155 rfl ⟨Nat.zero_le _, Nat.zero_le _⟩ h
  · refine s_aln l_Di_mostCommon_45 rfl ?_
    refine s_gr l_Di_mostCommon_46 h (fun r4 h => ?_)
    refine s_il l_Di_mostCommon_49 rfl ?_
    refine s_ial l_Di_mostCommon_51 rfl h (fun v5 h => ?_)
    refine s_is l_Di_mostCommon_52 (Nat.le_of_ble_eq_true rfl) ?_
    refine s_ic 0 l_Di_mostCommon_54 rfl ?_
    refine s_is l_Di_mostCommon_55 (Nat.le_of_ble_eq_true rfl) ?_
    refine s_ic 1 l_Di_mostCommon_57 rfl ?_
    refine s_is l_Di_mostCommon_58 (Nat.le_of_ble_eq_true rfl) ?_
    exact h
def B_Di_mostCommon_60 (d : Nat) (E : Option Value → xH → Prop) (f : xH) (a0 : Nat) (a1 : Nat) (a2 : Nat) (x3 : Int32) (x4 : Int32) (x5 : Int32) (x6 : Int32) (x7 : Int32) (u8 : Option Value) : Prop :=
  xbr (x3 < x7) (xWp (xT0, xSp xT0 d, none, m_Di_mostCommon, E) 36 [some (.ref a0), some (.ref a1), some (.ref a2), some (.int x3), some (.int (x4 + 1)), some (.int x5), some (.int x6), some (.int x7), u8] [] f 0 0) (xgr f a0 7 4 (fun r1 => xal f r1 0 x7 (fun v2 => xgr f a2 1 0 (fun r3 => xal f r3 0 (x7 - 1) (fun v4 => xbr (¬ v4 = x5) (xgr f a0 7 4 (fun r5 => xal f r5 0 (x7 - 1) (fun v6 => xbr (v6 ≤ v2) (xWp (xT0, xSp xT0 d, none, m_Di_mostCommon, E) 60 [some (.ref a0), some (.ref a1), some (.ref a2), some (.int x3), some (.int x4), some (.int x5), some (.int v2), some (.int (x7 + 1)), some (.int v2)] [] f 0 0) (xgr f a0 7 4 (fun r7 => xgr f a0 7 4 (fun r8 => xal f r8 0 (x7 - 1) (fun v9 => xas f r7 0 x7 v9 (fun f10 => xWp (xT0, xSp xT0 d, none, m_Di_mostCommon, E) 60 [some (.ref a0), some (.ref a1), some (.ref a2), some (.int x3), some (.int x4), some (.int x5), some (.int v2), some (.int (x7 + 1)), some (.int v2)] [] f10 0 0)))))))) (xgr f a0 7 4 (fun r11 => xas f r11 0 x7 (x6 + 1) (fun f12 => xWp (xT0, xSp xT0 d, none, m_Di_mostCommon, E) 60 [some (.ref a0), some (.ref a1), some (.ref a2), some (.int x3), some (.int x4), some (.int x5), some (.int v2), some (.int (x7 + 1)), some (.int v2)] [] f12 0 0))))))))
theorem b_Di_mostCommon_60 {d : Nat} {E : Option Value → xH → Prop} {f : xH} {a0 : Nat} {a1 : Nat} {a2 : Nat} {x3 : Int32} {x4 : Int32} {x5 : Int32} {x6 : Int32} {x7 : Int32} {u8 : Option Value} (h : B_Di_mostCommon_60 d E f a0 a1 a2 x3 x4 x5 x6 x7 u8) : xWp (xT0, xSp xT0 d, none, m_Di_mostCommon, E) 60 [some (.ref a0), some (.ref a1), some (.ref a2), some (.int x3), some (.int x4), some (.int x5), some (.int x6), some (.int x7), u8] [] f 0 0 := by
  unfold B_Di_mostCommon_60 at h
  refine s_il l_Di_mostCommon_60 rfl ?_
  refine s_iln l_Di_mostCommon_62 rfl ?_
  refine s_ifc l_Di_mostCommon_63 h (fun h => ?_) (fun h => ?_)
  · refine s_inc 1 l_Di_mostCommon_143 rfl rfl ?_
    refine s_goto l_Di_mostCommon_146 ?_
    exact h
  · refine s_aln l_Di_mostCommon_66 rfl ?_
    refine s_gr l_Di_mostCommon_67 h (fun r1 h => ?_)
    refine s_il l_Di_mostCommon_70 rfl ?_
    refine s_ial l_Di_mostCommon_72 rfl h (fun v2 h => ?_)
    refine s_is l_Di_mostCommon_73 (Nat.le_of_ble_eq_true rfl) ?_
    refine s_aln l_Di_mostCommon_75 rfl ?_
    refine s_gr l_Di_mostCommon_76 h (fun r3 h => ?_)
    refine s_il l_Di_mostCommon_79 rfl ?_
    refine s_ic 1 l_Di_mostCommon_81 rfl ?_
    refine s_isub l_Di_mostCommon_82 ?_
    refine s_ial l_Di_mostCommon_83 rfl h (fun v4 h => ?_)
    refine s_il l_Di_mostCommon_84 rfl ?_
    refine s_ifc l_Di_mostCommon_86 h (fun h => ?_) (fun h => ?_)
    · refine s_aln l_Di_mostCommon_103 rfl ?_
      refine s_gr l_Di_mostCommon_104 h (fun r5 h => ?_)
      refine s_il l_Di_mostCommon_107 rfl ?_
      refine s_ic 1 l_Di_mostCommon_109 rfl ?_
      refine s_isub l_Di_mostCommon_110 ?_
      refine s_ial l_Di_mostCommon_111 rfl h (fun v6 h => ?_)
      refine s_il l_Di_mostCommon_112 rfl ?_
      refine s_ifc l_Di_mostCommon_114 h (fun h => ?_) (fun h => ?_)
      · refine s_il l_Di_mostCommon_133 rfl ?_
        refine s_is l_Di_mostCommon_135 (Nat.le_of_ble_eq_true rfl) ?_
        refine s_inc 1 l_Di_mostCommon_137 rfl rfl ?_
        refine s_goto l_Di_mostCommon_140 ?_
        exact h
      · refine s_aln l_Di_mostCommon_117 rfl ?_
        refine s_gr l_Di_mostCommon_118 h (fun r7 h => ?_)
        refine s_il l_Di_mostCommon_121 rfl ?_
        refine s_aln l_Di_mostCommon_123 rfl ?_
        refine s_gr l_Di_mostCommon_124 h (fun r8 h => ?_)
        refine s_il l_Di_mostCommon_127 rfl ?_
        refine s_ic 1 l_Di_mostCommon_129 rfl ?_
        refine s_isub l_Di_mostCommon_130 ?_
        refine s_ial l_Di_mostCommon_131 rfl h (fun v9 h => ?_)
        refine s_iast l_Di_mostCommon_132 h (fun f10 h => ?_)
        refine s_il l_Di_mostCommon_133 rfl ?_
        refine s_is l_Di_mostCommon_135 (Nat.le_of_ble_eq_true rfl) ?_
        refine s_inc 1 l_Di_mostCommon_137 rfl rfl ?_
        refine s_goto l_Di_mostCommon_140 ?_
        exact h
    · refine s_aln l_Di_mostCommon_89 rfl ?_
      refine s_gr l_Di_mostCommon_90 h (fun r11 h => ?_)
      refine s_il l_Di_mostCommon_93 rfl ?_
      refine s_il l_Di_mostCommon_95 rfl ?_
      refine s_ic 1 l_Di_mostCommon_97 rfl ?_
      refine s_iadd l_Di_mostCommon_98 ?_
      refine s_iast l_Di_mostCommon_99 h (fun f12 h => ?_)
      refine s_goto l_Di_mostCommon_100 ?_
      refine s_il l_Di_mostCommon_133 rfl ?_
      refine s_is l_Di_mostCommon_135 (Nat.le_of_ble_eq_true rfl) ?_
      refine s_inc 1 l_Di_mostCommon_137 rfl rfl ?_
      refine s_goto l_Di_mostCommon_140 ?_
      exact h
theorem l_Di_addOthers_0 : xlk (xm_cd m_Di_addOthers) 0 = some (.iconst 0, 1, (0, 0, 0, [])) := rfl
theorem l_Di_addOthers_1 : xlk (xm_cd m_Di_addOthers) 1 = some (.istore 4, 2, (0, 0, 0, [])) := rfl
theorem l_Di_addOthers_3 : xlk (xm_cd m_Di_addOthers) 3 = some (.iload 4, 2, (0, 0, 0, [])) := rfl
theorem l_Di_addOthers_5 : xlk (xm_cd m_Di_addOthers) 5 = some (.aload_n 1, 1, (0, 0, 0, [])) := rfl
theorem l_Di_addOthers_6 : xlk (xm_cd m_Di_addOthers) 6 = some (.invokevirtual 39, 3, (439, 37, 0, [])) := rfl
theorem l_Di_addOthers_9 : xlk (xm_cd m_Di_addOthers) 9 = some (.if_icmp .ge 30, 3, (0, 39, 0, [])) := rfl
theorem l_Di_addOthers_12 : xlk (xm_cd m_Di_addOthers) 12 = some (.aload_n 0, 1, (0, 0, 0, [])) := rfl
theorem l_Di_addOthers_13 : xlk (xm_cd m_Di_addOthers) 13 = some (.getfield 18, 3, (195, 7, 1, [])) := rfl
theorem l_Di_addOthers_16 : xlk (xm_cd m_Di_addOthers) 16 = some (.iload 4, 2, (0, 0, 0, [])) := rfl
theorem l_Di_addOthers_18 : xlk (xm_cd m_Di_addOthers) 18 = some (.baload, 1, (0, 0, 0, [])) := rfl
theorem l_Di_addOthers_19 : xlk (xm_cd m_Di_addOthers) 19 = some (.ifCond .eq 14, 3, (0, 33, 0, [])) := rfl
theorem l_Di_addOthers_22 : xlk (xm_cd m_Di_addOthers) 22 = some (.aload_n 0, 1, (0, 0, 0, [])) := rfl
theorem l_Di_addOthers_23 : xlk (xm_cd m_Di_addOthers) 23 = some (.iconst 1, 1, (0, 0, 0, [])) := rfl
theorem l_Di_addOthers_24 : xlk (xm_cd m_Di_addOthers) 24 = some (.aload_n 1, 1, (0, 0, 0, [])) := rfl
theorem l_Di_addOthers_25 : xlk (xm_cd m_Di_addOthers) 25 = some (.iload 4, 2, (0, 0, 0, [])) := rfl
theorem l_Di_addOthers_27 : xlk (xm_cd m_Di_addOthers) 27 = some (.aload_n 2, 1, (0, 0, 0, [])) := rfl
theorem l_Di_addOthers_28 : xlk (xm_cd m_Di_addOthers) 28 = some (.iconst (-1), 1, (0, 0, 0, [])) := rfl
theorem l_Di_addOthers_29 : xlk (xm_cd m_Di_addOthers) 29 = some (.aload_n 3, 1, (0, 0, 0, [])) := rfl
theorem l_Di_addOthers_30 : xlk (xm_cd m_Di_addOthers) 30 = some (.invokevirtual 62, 3, (444, 50, 6, [])) := rfl
theorem l_Di_addOthers_33 : xlk (xm_cd m_Di_addOthers) 33 = some (.iinc 4 1, 3, (0, 0, 0, [])) := rfl
theorem l_Di_addOthers_36 : xlk (xm_cd m_Di_addOthers) 36 = some (.goto (-33), 3, (0, 3, 0, [])) := rfl
theorem l_Di_addOthers_39 : xlk (xm_cd m_Di_addOthers) 39 = some (.iconst 0, 1, (0, 0, 0, [])) := rfl
theorem l_Di_addOthers_40 : xlk (xm_cd m_Di_addOthers) 40 = some (.istore 4, 2, (0, 0, 0, [])) := rfl
theorem l_Di_addOthers_42 : xlk (xm_cd m_Di_addOthers) 42 = some (.iload 4, 2, (0, 0, 0, [])) := rfl
theorem l_Di_addOthers_44 : xlk (xm_cd m_Di_addOthers) 44 = some (.aload_n 2, 1, (0, 0, 0, [])) := rfl
theorem l_Di_addOthers_45 : xlk (xm_cd m_Di_addOthers) 45 = some (.invokevirtual 39, 3, (439, 37, 0, [])) := rfl
theorem l_Di_addOthers_48 : xlk (xm_cd m_Di_addOthers) 48 = some (.if_icmp .ge 30, 3, (0, 78, 0, [])) := rfl
theorem l_Di_addOthers_51 : xlk (xm_cd m_Di_addOthers) 51 = some (.aload_n 0, 1, (0, 0, 0, [])) := rfl
theorem l_Di_addOthers_52 : xlk (xm_cd m_Di_addOthers) 52 = some (.getfield 22, 3, (196, 7, 2, [])) := rfl
theorem l_Di_addOthers_55 : xlk (xm_cd m_Di_addOthers) 55 = some (.iload 4, 2, (0, 0, 0, [])) := rfl
theorem l_Di_addOthers_57 : xlk (xm_cd m_Di_addOthers) 57 = some (.baload, 1, (0, 0, 0, [])) := rfl
theorem l_Di_addOthers_58 : xlk (xm_cd m_Di_addOthers) 58 = some (.ifCond .eq 14, 3, (0, 72, 0, [])) := rfl
theorem l_Di_addOthers_61 : xlk (xm_cd m_Di_addOthers) 61 = some (.aload_n 0, 1, (0, 0, 0, [])) := rfl
theorem l_Di_addOthers_62 : xlk (xm_cd m_Di_addOthers) 62 = some (.iconst 0, 1, (0, 0, 0, [])) := rfl
theorem l_Di_addOthers_63 : xlk (xm_cd m_Di_addOthers) 63 = some (.aload_n 1, 1, (0, 0, 0, [])) := rfl
theorem l_Di_addOthers_64 : xlk (xm_cd m_Di_addOthers) 64 = some (.iconst (-1), 1, (0, 0, 0, [])) := rfl
theorem l_Di_addOthers_65 : xlk (xm_cd m_Di_addOthers) 65 = some (.aload_n 2, 1, (0, 0, 0, [])) := rfl
theorem l_Di_addOthers_66 : xlk (xm_cd m_Di_addOthers) 66 = some (.iload 4, 2, (0, 0, 0, [])) := rfl
theorem l_Di_addOthers_68 : xlk (xm_cd m_Di_addOthers) 68 = some (.aload_n 3, 1, (0, 0, 0, [])) := rfl
theorem l_Di_addOthers_69 : xlk (xm_cd m_Di_addOthers) 69 = some (.invokevirtual 62, 3, (444, 50, 6, [])) := rfl
theorem l_Di_addOthers_72 : xlk (xm_cd m_Di_addOthers) 72 = some (.iinc 4 1, 3, (0, 0, 0, [])) := rfl
theorem l_Di_addOthers_75 : xlk (xm_cd m_Di_addOthers) 75 = some (.goto (-33), 3, (0, 42, 0, [])) := rfl
theorem l_Di_addOthers_78 : xlk (xm_cd m_Di_addOthers) 78 = some (.return_, 1, (0, 0, 0, [])) := rfl
def B_Di_addOthers_0 (d : Nat) (E : Option Value → xH → Prop) (f : xH) (a0 : Nat) (a1 : Nat) (a2 : Nat) (a3 : Nat) : Prop :=
  xWp (xT0, xSp xT0 d, none, m_Di_addOthers, E) 3 [some (.ref a0), some (.ref a1), some (.ref a2), some (.ref a3), some (.int 0)] [] f 0 0
theorem b_Di_addOthers_0 {d : Nat} {E : Option Value → xH → Prop} {f : xH} {a0 : Nat} {a1 : Nat} {a2 : Nat} {a3 : Nat} (h : B_Di_addOthers_0 d E f a0 a1 a2 a3) : xWp (xT0, xSp xT0 d, none, m_Di_addOthers, E) 0 [some (.ref a0), some (.ref a1), some (.ref a2), some (.ref a3), none] [] f 0 0 := by
  unfold B_Di_addOthers_0 at h
  refine s_ic 0 l_Di_addOthers_0 rfl ?_
  refine s_is l_Di_addOthers_1 (Nat.le_of_ble_eq_true rfl) ?_
  exact h
def B_Di_addOthers_3 (d : Nat) (E : Option Value → xH → Prop) (f : xH) (a0 : Nat) (a1 : Nat) (a2 : Nat) (a3 : Nat) (x4 : Int32) : Prop :=
  (∃ fs, f a1 = some (xO 2 fs)) ∧ xSp xT0 d j_Tr_size [.ref a1] f (fun w1 f2 => xvi w1 (fun v3 => xbr (v3 ≤ x4) (xWp (xT0, xSp xT0 d, none, m_Di_addOthers, E) 42 [some (.ref a0), some (.ref a1), some (.ref a2), some (.ref a3), some (.int 0)] [] f2 0 0) (xgr f2 a0 7 1 (fun r4 => xal f2 r4 1 x4 (fun v5 => xbr (v5 = 0) (xWp (xT0, xSp xT0 d, none, m_Di_addOthers, E) 3 [some (.ref a0), some (.ref a1), some (.ref a2), some (.ref a3), some (.int (x4 + 1))] [] f2 0 0) ((∃ fs, f2 a0 = some (xO 7 fs)) ∧ xSp xT0 d j_Di_addStep [.ref a0, .int 1, .ref a1, .int x4, .ref a2, .int (-1), .ref a3] f2 (fun w6 f7 => xvv w6 (xWp (xT0, xSp xT0 d, none, m_Di_addOthers, E) 3 [some (.ref a0), some (.ref a1), some (.ref a2), some (.ref a3), some (.int (x4 + 1))] [] f7 0 0))))))))
theorem b_Di_addOthers_3 {d : Nat} {E : Option Value → xH → Prop} {f : xH} {a0 : Nat} {a1 : Nat} {a2 : Nat} {a3 : Nat} {x4 : Int32} (h : B_Di_addOthers_3 d E f a0 a1 a2 a3 x4) : xWp (xT0, xSp xT0 d, none, m_Di_addOthers, E) 3 [some (.ref a0), some (.ref a1), some (.ref a2), some (.ref a3), some (.int x4)] [] f 0 0 := by
  unfold B_Di_addOthers_3 at h
  refine s_il l_Di_addOthers_3 rfl ?_
  refine s_aln l_Di_addOthers_5 rfl ?_
  refine s_cvi (As := []) (r := [.int x4]) l_Di_addOthers_6 rfl ⟨rfl, rfl⟩ rfl (Nat.le_of_ble_eq_true rfl) rfl ⟨Nat.zero_le _, Nat.zero_le _⟩ h (fun v3 f2 h => ?_)
  refine s_ifc l_Di_addOthers_9 h (fun h => ?_) (fun h => ?_)
  · refine s_ic 0 l_Di_addOthers_39 rfl ?_
    refine s_is l_Di_addOthers_40 (Nat.le_of_ble_eq_true rfl) ?_
    exact h
  · refine s_aln l_Di_addOthers_12 rfl ?_
    refine s_gr l_Di_addOthers_13 h (fun r4 h => ?_)
    refine s_il l_Di_addOthers_16 rfl ?_
    refine s_bal l_Di_addOthers_18 (Or.inl rfl) h (fun v5 h => ?_)
    refine s_if l_Di_addOthers_19 h (fun h => ?_) (fun h => ?_)
    · refine s_inc 1 l_Di_addOthers_33 rfl rfl ?_
      refine s_goto l_Di_addOthers_36 ?_
      exact h
    · refine s_aln l_Di_addOthers_22 rfl ?_
      refine s_ic 1 l_Di_addOthers_23 rfl ?_
      refine s_aln l_Di_addOthers_24 rfl ?_
      refine s_il l_Di_addOthers_25 rfl ?_
      refine s_aln l_Di_addOthers_27 rfl ?_
      refine s_ic (-1) l_Di_addOthers_28 rfl ?_
      refine s_aln l_Di_addOthers_29 rfl ?_
      refine s_cvv (As := [.int 1, .ref a1, .int x4, .ref a2, .int (-1), .ref a3]) (r := []) l_Di_addOthers_30 rfl ⟨rfl, rfl⟩ rfl (Nat.le_of_ble_eq_true rfl) rfl ⟨Nat.zero_le _, Nat.zero_le _⟩ h (fun f7 h => ?_)
      refine s_inc 1 l_Di_addOthers_33 rfl rfl ?_
      refine s_goto l_Di_addOthers_36 ?_
      exact h
def B_Di_addOthers_42 (d : Nat) (E : Option Value → xH → Prop) (f : xH) (a0 : Nat) (a1 : Nat) (a2 : Nat) (a3 : Nat) (x4 : Int32) : Prop :=
  (∃ fs, f a2 = some (xO 2 fs)) ∧ xSp xT0 d j_Tr_size [.ref a2] f (fun w1 f2 => xvi w1 (fun v3 => xbr (v3 ≤ x4) (E none f2) (xgr f2 a0 7 2 (fun r4 => xal f2 r4 1 x4 (fun v5 => xbr (v5 = 0) (xWp (xT0, xSp xT0 d, none, m_Di_addOthers, E) 42 [some (.ref a0), some (.ref a1), some (.ref a2), some (.ref a3), some (.int (x4 + 1))] [] f2 0 0) ((∃ fs, f2 a0 = some (xO 7 fs)) ∧ xSp xT0 d j_Di_addStep [.ref a0, .int 0, .ref a1, .int (-1), .ref a2, .int x4, .ref a3] f2 (fun w6 f7 => xvv w6 (xWp (xT0, xSp xT0 d, none, m_Di_addOthers, E) 42 [some (.ref a0), some (.ref a1), some (.ref a2), some (.ref a3), some (.int (x4 + 1))] [] f7 0 0))))))))
theorem b_Di_addOthers_42 {d : Nat} {E : Option Value → xH → Prop} {f : xH} {a0 : Nat} {a1 : Nat} {a2 : Nat} {a3 : Nat} {x4 : Int32} (h : B_Di_addOthers_42 d E f a0 a1 a2 a3 x4) : xWp (xT0, xSp xT0 d, none, m_Di_addOthers, E) 42 [some (.ref a0), some (.ref a1), some (.ref a2), some (.ref a3), some (.int x4)] [] f 0 0 := by
  unfold B_Di_addOthers_42 at h
  refine s_il l_Di_addOthers_42 rfl ?_
  refine s_aln l_Di_addOthers_44 rfl ?_
  refine s_cvi (As := []) (r := [.int x4]) l_Di_addOthers_45 rfl ⟨rfl, rfl⟩ rfl (Nat.le_of_ble_eq_true rfl) rfl ⟨Nat.zero_le _, Nat.zero_le _⟩ h (fun v3 f2 h => ?_)
  refine s_ifc l_Di_addOthers_48 h (fun h => ?_) (fun h => ?_)
  · exact s_ret l_Di_addOthers_78 ⟨Nat.zero_le _, Nat.zero_le _⟩ h
  · refine s_aln l_Di_addOthers_51 rfl ?_
    refine s_gr l_Di_addOthers_52 h (fun r4 h => ?_)
    refine s_il l_Di_addOthers_55 rfl ?_
    refine s_bal l_Di_addOthers_57 (Or.inl rfl) h (fun v5 h => ?_)
    refine s_if l_Di_addOthers_58 h (fun h => ?_) (fun h => ?_)
    · refine s_inc 1 l_Di_addOthers_72 rfl rfl ?_
      refine s_goto l_Di_addOthers_75 ?_
      exact h
    · refine s_aln l_Di_addOthers_61 rfl ?_
      refine s_ic 0 l_Di_addOthers_62 rfl ?_
      refine s_aln l_Di_addOthers_63 rfl ?_
      refine s_ic (-1) l_Di_addOthers_64 rfl ?_
      refine s_aln l_Di_addOthers_65 rfl ?_
      refine s_il l_Di_addOthers_66 rfl ?_
      refine s_aln l_Di_addOthers_68 rfl ?_
      refine s_cvv (As := [.int 0, .ref a1, .int (-1), .ref a2, .int x4, .ref a3]) (r := []) l_Di_addOthers_69 rfl ⟨rfl, rfl⟩ rfl (Nat.le_of_ble_eq_true rfl) rfl ⟨Nat.zero_le _, Nat.zero_le _⟩ h (fun f7 h => ?_)
      refine s_inc 1 l_Di_addOthers_72 rfl rfl ?_
      refine s_goto l_Di_addOthers_75 ?_
      exact h
