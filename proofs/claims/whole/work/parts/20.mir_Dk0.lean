/-! blocks of Dk, 0 -/
theorem l_Dk_setPower_0 : xlk (xm_cd m_Dk_setPower) 0 = some (.aload_n 0, 1, (0, 0, 0, [])) := rfl
theorem l_Dk_setPower_1 : xlk (xm_cd m_Dk_setPower) 1 = some (.getfield 45, 3, (252, 10, 7, [])) := rfl
theorem l_Dk_setPower_4 : xlk (xm_cd m_Dk_setPower) 4 = some (.ifCond .eq 6, 3, (0, 10, 0, [])) := rfl
theorem l_Dk_setPower_7 : xlk (xm_cd m_Dk_setPower) 7 = some (.bipush (-4), 2, (0, 0, 0, [])) := rfl
theorem l_Dk_setPower_9 : xlk (xm_cd m_Dk_setPower) 9 = some (.ireturn, 1, (0, 0, 0, [])) := rfl
theorem l_Dk_setPower_10 : xlk (xm_cd m_Dk_setPower) 10 = some (.aload_n 0, 1, (0, 0, 0, [])) := rfl
theorem l_Dk_setPower_11 : xlk (xm_cd m_Dk_setPower) 11 = some (.iload_n 1, 1, (0, 0, 0, [])) := rfl
theorem l_Dk_setPower_12 : xlk (xm_cd m_Dk_setPower) 12 = some (.putfield 39, 3, (250, 10, 5, [(0, 0)])) := rfl
theorem l_Dk_setPower_15 : xlk (xm_cd m_Dk_setPower) 15 = some (.iconst 1, 1, (0, 0, 0, [])) := rfl
theorem l_Dk_setPower_16 : xlk (xm_cd m_Dk_setPower) 16 = some (.ireturn, 1, (0, 0, 0, [])) := rfl
def B_Dk_setPower_0 (d : Nat) (E : Option Value → xH → Prop) (f : xH) (a0 : Nat) (x1 : Int32) : Prop :=
  xgi f a0 10 7 (fun v1 => xbr (v1 = 0) (xpf f a0 10 5 (.int x1) (fun f2 => E (some (.int 1)) f2)) (E (some (.int (-4))) f))
theorem b_Dk_setPower_0 {d : Nat} {E : Option Value → xH → Prop} {f : xH} {a0 : Nat} {x1 : Int32} (h : B_Dk_setPower_0 d E f a0 x1) : xWp (xT0, xSp xT0 d, none, m_Dk_setPower, E) 0 [some (.ref a0), some (.int x1)] [] f 0 0 := by
  unfold B_Dk_setPower_0 at h
  refine s_aln l_Dk_setPower_0 rfl ?_
  refine s_gi l_Dk_setPower_1 h (fun v1 h => ?_)
  refine s_if l_Dk_setPower_4 h (fun h => ?_) (fun h => ?_)
  · refine s_aln l_Dk_setPower_10 rfl ?_
    refine s_iln l_Dk_setPower_11 rfl ?_
    refine s_pf l_Dk_setPower_12 ⟨_, rfl⟩ h (fun f2 h => ?_)
    refine s_ic 1 l_Dk_setPower_15 rfl ?_
    exact s_iret l_Dk_setPower_16 rfl ⟨Nat.zero_le _, Nat.zero_le _⟩ h
  · refine s_bp (-4) l_Dk_setPower_7 rfl ?_
    exact s_iret l_Dk_setPower_9 rfl ⟨Nat.zero_le _, Nat.zero_le _⟩ h
theorem l_Dk_write_0 : xlk (xm_cd m_Dk_write) 0 = some (.aload_n 0, 1, (0, 0, 0, [])) := rfl
theorem l_Dk_write_1 : xlk (xm_cd m_Dk_write) 1 = some (.getfield 45, 3, (252, 10, 7, [])) := rfl
theorem l_Dk_write_4 : xlk (xm_cd m_Dk_write) 4 = some (.ifCond .eq 6, 3, (0, 10, 0, [])) := rfl
theorem l_Dk_write_7 : xlk (xm_cd m_Dk_write) 7 = some (.bipush (-4), 2, (0, 0, 0, [])) := rfl
theorem l_Dk_write_9 : xlk (xm_cd m_Dk_write) 9 = some (.ireturn, 1, (0, 0, 0, [])) := rfl
theorem l_Dk_write_10 : xlk (xm_cd m_Dk_write) 10 = some (.aload_n 0, 1, (0, 0, 0, [])) := rfl
theorem l_Dk_write_11 : xlk (xm_cd m_Dk_write) 11 = some (.getfield 42, 3, (251, 10, 6, [])) := rfl
theorem l_Dk_write_14 : xlk (xm_cd m_Dk_write) 14 = some (.istore_n 2, 1, (0, 0, 0, [])) := rfl
theorem l_Dk_write_15 : xlk (xm_cd m_Dk_write) 15 = some (.iconst 0, 1, (0, 0, 0, [])) := rfl
theorem l_Dk_write_16 : xlk (xm_cd m_Dk_write) 16 = some (.istore_n 3, 1, (0, 0, 0, [])) := rfl
theorem l_Dk_write_17 : xlk (xm_cd m_Dk_write) 17 = some (.iload_n 3, 1, (0, 0, 0, [])) := rfl
theorem l_Dk_write_18 : xlk (xm_cd m_Dk_write) 18 = some (.aload_n 1, 1, (0, 0, 0, [])) := rfl
theorem l_Dk_write_19 : xlk (xm_cd m_Dk_write) 19 = some (.invokevirtual 53, 3, (759, 37, 0, [])) := rfl
theorem l_Dk_write_22 : xlk (xm_cd m_Dk_write) 22 = some (.if_icmp .ge 71, 3, (0, 93, 0, [])) := rfl
theorem l_Dk_write_25 : xlk (xm_cd m_Dk_write) 25 = some (.aload_n 0, 1, (0, 0, 0, [])) := rfl
theorem l_Dk_write_26 : xlk (xm_cd m_Dk_write) 26 = some (.getfield 31, 3, (248, 10, 3, [])) := rfl
theorem l_Dk_write_29 : xlk (xm_cd m_Dk_write) 29 = some (.iload_n 3, 1, (0, 0, 0, [])) := rfl
theorem l_Dk_write_30 : xlk (xm_cd m_Dk_write) 30 = some (.aload_n 0, 1, (0, 0, 0, [])) := rfl
theorem l_Dk_write_31 : xlk (xm_cd m_Dk_write) 31 = some (.aload_n 1, 1, (0, 0, 0, [])) := rfl
theorem l_Dk_write_32 : xlk (xm_cd m_Dk_write) 32 = some (.iload_n 3, 1, (0, 0, 0, [])) := rfl
theorem l_Dk_write_33 : xlk (xm_cd m_Dk_write) 33 = some (.invokevirtual 56, 3, (760, 39, 1, [])) := rfl
theorem l_Dk_write_36 : xlk (xm_cd m_Dk_write) 36 = some (.aload_n 1, 1, (0, 0, 0, [])) := rfl
theorem l_Dk_write_37 : xlk (xm_cd m_Dk_write) 37 = some (.iload_n 3, 1, (0, 0, 0, [])) := rfl
theorem l_Dk_write_38 : xlk (xm_cd m_Dk_write) 38 = some (.invokevirtual 60, 3, (761, 40, 1, [])) := rfl
theorem l_Dk_write_41 : xlk (xm_cd m_Dk_write) 41 = some (.invokevirtual 63, 3, (762, 127, 2, [])) := rfl
theorem l_Dk_write_44 : xlk (xm_cd m_Dk_write) 44 = some (.iastore, 1, (0, 0, 0, [])) := rfl
theorem l_Dk_write_45 : xlk (xm_cd m_Dk_write) 45 = some (.aload_n 0, 1, (0, 0, 0, [])) := rfl
theorem l_Dk_write_46 : xlk (xm_cd m_Dk_write) 46 = some (.getfield 31, 3, (248, 10, 3, [])) := rfl
theorem l_Dk_write_49 : xlk (xm_cd m_Dk_write) 49 = some (.iload_n 3, 1, (0, 0, 0, [])) := rfl
theorem l_Dk_write_50 : xlk (xm_cd m_Dk_write) 50 = some (.iaload, 1, (0, 0, 0, [])) := rfl
theorem l_Dk_write_51 : xlk (xm_cd m_Dk_write) 51 = some (.iconst (-1), 1, (0, 0, 0, [])) := rfl
theorem l_Dk_write_52 : xlk (xm_cd m_Dk_write) 52 = some (.if_icmp .ne 35, 3, (0, 87, 0, [])) := rfl
theorem l_Dk_write_55 : xlk (xm_cd m_Dk_write) 55 = some (.aload_n 0, 1, (0, 0, 0, [])) := rfl
theorem l_Dk_write_56 : xlk (xm_cd m_Dk_write) 56 = some (.getfield 31, 3, (248, 10, 3, [])) := rfl
theorem l_Dk_write_59 : xlk (xm_cd m_Dk_write) 59 = some (.iload_n 3, 1, (0, 0, 0, [])) := rfl
theorem l_Dk_write_60 : xlk (xm_cd m_Dk_write) 60 = some (.aload_n 0, 1, (0, 0, 0, [])) := rfl
theorem l_Dk_write_61 : xlk (xm_cd m_Dk_write) 61 = some (.iload_n 3, 1, (0, 0, 0, [])) := rfl
theorem l_Dk_write_62 : xlk (xm_cd m_Dk_write) 62 = some (.invokevirtual 67, 3, (774, 130, 1, [])) := rfl
theorem l_Dk_write_65 : xlk (xm_cd m_Dk_write) 65 = some (.iastore, 1, (0, 0, 0, [])) := rfl
theorem l_Dk_write_66 : xlk (xm_cd m_Dk_write) 66 = some (.aload_n 0, 1, (0, 0, 0, [])) := rfl
theorem l_Dk_write_67 : xlk (xm_cd m_Dk_write) 67 = some (.aload_n 0, 1, (0, 0, 0, [])) := rfl
theorem l_Dk_write_68 : xlk (xm_cd m_Dk_write) 68 = some (.getfield 31, 3, (248, 10, 3, [])) := rfl
theorem l_Dk_write_71 : xlk (xm_cd m_Dk_write) 71 = some (.iload_n 3, 1, (0, 0, 0, [])) := rfl
theorem l_Dk_write_72 : xlk (xm_cd m_Dk_write) 72 = some (.iaload, 1, (0, 0, 0, [])) := rfl
theorem l_Dk_write_73 : xlk (xm_cd m_Dk_write) 73 = some (.aload_n 1, 1, (0, 0, 0, [])) := rfl
theorem l_Dk_write_74 : xlk (xm_cd m_Dk_write) 74 = some (.iload_n 3, 1, (0, 0, 0, [])) := rfl
theorem l_Dk_write_75 : xlk (xm_cd m_Dk_write) 75 = some (.invokevirtual 60, 3, (761, 40, 1, [])) := rfl
theorem l_Dk_write_78 : xlk (xm_cd m_Dk_write) 78 = some (.invokevirtual 71, 3, (784, 133, 2, [])) := rfl
theorem l_Dk_write_81 : xlk (xm_cd m_Dk_write) 81 = some (.ifCond .ne 6, 3, (0, 87, 0, [])) := rfl
theorem l_Dk_write_84 : xlk (xm_cd m_Dk_write) 84 = some (.bipush (-4), 2, (0, 0, 0, [])) := rfl
theorem l_Dk_write_86 : xlk (xm_cd m_Dk_write) 86 = some (.ireturn, 1, (0, 0, 0, [])) := rfl
theorem l_Dk_write_87 : xlk (xm_cd m_Dk_write) 87 = some (.iinc 3 1, 3, (0, 0, 0, [])) := rfl
theorem l_Dk_write_90 : xlk (xm_cd m_Dk_write) 90 = some (.goto (-73), 3, (0, 17, 0, [])) := rfl
theorem l_Dk_write_93 : xlk (xm_cd m_Dk_write) 93 = some (.aload_n 0, 1, (0, 0, 0, [])) := rfl
theorem l_Dk_write_94 : xlk (xm_cd m_Dk_write) 94 = some (.invokevirtual 75, 3, (787, 134, 0, [])) := rfl
theorem l_Dk_write_97 : xlk (xm_cd m_Dk_write) 97 = some (.ifCond .ne 6, 3, (0, 103, 0, [])) := rfl
theorem l_Dk_write_100 : xlk (xm_cd m_Dk_write) 100 = some (.bipush (-4), 2, (0, 0, 0, [])) := rfl
theorem l_Dk_write_102 : xlk (xm_cd m_Dk_write) 102 = some (.ireturn, 1, (0, 0, 0, [])) := rfl
theorem l_Dk_write_103 : xlk (xm_cd m_Dk_write) 103 = some (.aload_n 0, 1, (0, 0, 0, [])) := rfl
theorem l_Dk_write_104 : xlk (xm_cd m_Dk_write) 104 = some (.getfield 26, 3, (247, 10, 2, [])) := rfl
theorem l_Dk_write_107 : xlk (xm_cd m_Dk_write) 107 = some (.iconst 1, 1, (0, 0, 0, [])) := rfl
theorem l_Dk_write_108 : xlk (xm_cd m_Dk_write) 108 = some (.aload_n 0, 1, (0, 0, 0, [])) := rfl
theorem l_Dk_write_109 : xlk (xm_cd m_Dk_write) 109 = some (.getfield 35, 3, (249, 10, 4, [])) := rfl
theorem l_Dk_write_112 : xlk (xm_cd m_Dk_write) 112 = some (.isub, 1, (0, 0, 0, [])) := rfl
theorem l_Dk_write_113 : xlk (xm_cd m_Dk_write) 113 = some (.aaload, 1, (0, 7, 0, [])) := rfl
theorem l_Dk_write_114 : xlk (xm_cd m_Dk_write) 114 = some (.aload_n 1, 1, (0, 0, 0, [])) := rfl
theorem l_Dk_write_115 : xlk (xm_cd m_Dk_write) 115 = some (.aload_n 0, 1, (0, 0, 0, [])) := rfl
theorem l_Dk_write_116 : xlk (xm_cd m_Dk_write) 116 = some (.getfield 31, 3, (248, 10, 3, [])) := rfl
theorem l_Dk_write_119 : xlk (xm_cd m_Dk_write) 119 = some (.invokevirtual 79, 3, (791, 135, 2, [])) := rfl
theorem l_Dk_write_122 : xlk (xm_cd m_Dk_write) 122 = some (.aload_n 0, 1, (0, 0, 0, [])) := rfl
theorem l_Dk_write_123 : xlk (xm_cd m_Dk_write) 123 = some (.invokevirtual 75, 3, (787, 134, 0, [])) := rfl
theorem l_Dk_write_126 : xlk (xm_cd m_Dk_write) 126 = some (.ifCond .ne 6, 3, (0, 132, 0, [])) := rfl
theorem l_Dk_write_129 : xlk (xm_cd m_Dk_write) 129 = some (.bipush (-4), 2, (0, 0, 0, [])) := rfl
theorem l_Dk_write_131 : xlk (xm_cd m_Dk_write) 131 = some (.ireturn, 1, (0, 0, 0, [])) := rfl
theorem l_Dk_write_132 : xlk (xm_cd m_Dk_write) 132 = some (.aload_n 0, 1, (0, 0, 0, [])) := rfl
theorem l_Dk_write_133 : xlk (xm_cd m_Dk_write) 133 = some (.iconst 1, 1, (0, 0, 0, [])) := rfl
theorem l_Dk_write_134 : xlk (xm_cd m_Dk_write) 134 = some (.aload_n 0, 1, (0, 0, 0, [])) := rfl
theorem l_Dk_write_135 : xlk (xm_cd m_Dk_write) 135 = some (.getfield 35, 3, (249, 10, 4, [])) := rfl
theorem l_Dk_write_138 : xlk (xm_cd m_Dk_write) 138 = some (.isub, 1, (0, 0, 0, [])) := rfl
theorem l_Dk_write_139 : xlk (xm_cd m_Dk_write) 139 = some (.putfield 35, 3, (249, 10, 4, [(0, 0)])) := rfl
theorem l_Dk_write_142 : xlk (xm_cd m_Dk_write) 142 = some (.aload_n 0, 1, (0, 0, 0, [])) := rfl
set_option maxRecDepth 20000 in
theorem l_Dk_write_143 : xlk (xm_cd m_Dk_write) 143 = some (.getfield 42, 3, (251, 10, 6, [])) := rfl
set_option maxRecDepth 20000 in
theorem l_Dk_write_146 : xlk (xm_cd m_Dk_write) 146 = some (.iload_n 2, 1, (0, 0, 0, [])) := rfl
set_option maxRecDepth 20000 in
theorem l_Dk_write_147 : xlk (xm_cd m_Dk_write) 147 = some (.isub, 1, (0, 0, 0, [])) := rfl
set_option maxRecDepth 20000 in
theorem l_Dk_write_148 : xlk (xm_cd m_Dk_write) 148 = some (.ireturn, 1, (0, 0, 0, [])) := rfl
def B_Dk_write_0 (d : Nat) (E : Option Value → xH → Prop) (f : xH) (a0 : Nat) (a1 : Nat) : Prop :=
  xgi f a0 10 7 (fun v1 => xbr (v1 = 0) (xgi f a0 10 6 (fun v2 => xWp (xT0, xSp xT0 d, none, m_Dk_write, E) 17 [some (.ref a0), some (.ref a1), some (.int v2), some (.int 0)] [] f 0 0)) (E (some (.int (-4))) f))
theorem b_Dk_write_0 {d : Nat} {E : Option Value → xH → Prop} {f : xH} {a0 : Nat} {a1 : Nat} (h : B_Dk_write_0 d E f a0 a1) : xWp (xT0, xSp xT0 d, none, m_Dk_write, E) 0 [some (.ref a0), some (.ref a1), none, none] [] f 0 0 := by
  unfold B_Dk_write_0 at h
  refine s_aln l_Dk_write_0 rfl ?_
  refine s_gi l_Dk_write_1 h (fun v1 h => ?_)
  refine s_if l_Dk_write_4 h (fun h => ?_) (fun h => ?_)
  · refine s_aln l_Dk_write_10 rfl ?_
    refine s_gi l_Dk_write_11 h (fun v2 h => ?_)
    refine s_isn l_Dk_write_14 (Nat.le_of_ble_eq_true rfl) ?_
    refine s_ic 0 l_Dk_write_15 rfl ?_
    refine s_isn l_Dk_write_16 (Nat.le_of_ble_eq_true rfl) ?_
    exact h
  · refine s_bp (-4) l_Dk_write_7 rfl ?_
    exact s_iret l_Dk_write_9 rfl ⟨Nat.zero_le _, Nat.zero_le _⟩ h
def B_Dk_write_17 (d : Nat) (E : Option Value → xH → Prop) (f : xH) (a0 : Nat) (a1 : Nat) (x2 : Int32) (x3 : Int32) : Prop :=
  (∃ fs, f a1 = some (xO 2 fs)) ∧ xSp xT0 d j_Tr_size [.ref a1] f (fun w1 f2 => xvi w1 (fun v3 => xbr (v3 ≤ x3) ((∃ fs, f2 a0 = some (xO 10 fs)) ∧ xSp xT0 d j_Dk_spendWriting [.ref a0] f2 (fun w4 f5 => xvi w4 (fun v6 => xbr (¬ v6 = 0) (xgr f5 a0 10 2 (fun r7 => xgi f5 a0 10 4 (fun v8 => xrl f5 r7 7 (1 - v8) (fun r9 => xgr f5 a0 10 3 (fun r10 => (∃ fs, f5 r9 = some (xO 9 fs)) ∧ xSp xT0 d j_Li_becomeOf [.ref r9, .ref a1, .ref r10] f5 (fun w11 f12 => xvv w11 ((∃ fs, f12 a0 = some (xO 10 fs)) ∧ xSp xT0 d j_Dk_spendWriting [.ref a0] f12 (fun w13 f14 => xvi w13 (fun v15 => xbr (¬ v15 = 0) (xgi f14 a0 10 4 (fun v16 => xpf f14 a0 10 4 (.int (1 - v16)) (fun f17 => xgi f17 a0 10 6 (fun v18 => E (some (.int (v18 - x2))) f17)))) (E (some (.int (-4))) f14)))))))))) (E (some (.int (-4))) f5)))) (xgr f2 a0 10 3 (fun r19 => (∃ fs, f2 a1 = some (xO 2 fs)) ∧ xSp xT0 d j_Tr_pathAt [.ref a1, .int x3] f2 (fun w20 f21 => xvr w20 (fun r22 => (∃ fs, f21 a1 = some (xO 2 fs)) ∧ xSp xT0 d j_Tr_contentAt [.ref a1, .int x3] f21 (fun w23 f24 => xvr w23 (fun r25 => (∃ fs, f24 a0 = some (xO 10 fs)) ∧ xSp xT0 d j_Dk_slotHolding [.ref a0, .ref r22, .ref r25] f24 (fun w26 f27 => xvi w26 (fun v28 => xas f27 r19 0 x3 v28 (fun f29 => xgr f29 a0 10 3 (fun r30 => xal f29 r30 0 x3 (fun v31 => xbr (¬ v31 = (-1)) (xWp (xT0, xSp xT0 d, none, m_Dk_write, E) 17 [some (.ref a0), some (.ref a1), some (.int x2), some (.int (x3 + 1))] [] f29 0 0) (xgr f29 a0 10 3 (fun r32 => (∃ fs, f29 a0 = some (xO 10 fs)) ∧ xSp xT0 d j_Dk_leastFree [.ref a0, .int x3] f29 (fun w33 f34 => xvi w33 (fun v35 => xas f34 r32 0 x3 v35 (fun f36 => xgr f36 a0 10 3 (fun r37 => xal f36 r37 0 x3 (fun v38 => (∃ fs, f36 a1 = some (xO 2 fs)) ∧ xSp xT0 d j_Tr_contentAt [.ref a1, .int x3] f36 (fun w39 f40 => xvr w39 (fun r41 => (∃ fs, f40 a0 = some (xO 10 fs)) ∧ xSp xT0 d j_Dk_writeSlot [.ref a0, .int v38, .ref r41] f40 (fun w42 f43 => xvi w42 (fun v44 => xbr (¬ v44 = 0) (xWp (xT0, xSp xT0 d, none, m_Dk_write, E) 17 [some (.ref a0), some (.ref a1), some (.int x2), some (.int (x3 + 1))] [] f43 0 0) (E (some (.int (-4))) f43)))))))))))))))))))))))))
theorem b_Dk_write_17 {d : Nat} {E : Option Value → xH → Prop} {f : xH} {a0 : Nat} {a1 : Nat} {x2 : Int32} {x3 : Int32} (h : B_Dk_write_17 d E f a0 a1 x2 x3) : xWp (xT0, xSp xT0 d, none, m_Dk_write, E) 17 [some (.ref a0), some (.ref a1), some (.int x2), some (.int x3)] [] f 0 0 := by
  unfold B_Dk_write_17 at h
  refine s_iln l_Dk_write_17 rfl ?_
  refine s_aln l_Dk_write_18 rfl ?_
  refine s_cvi (As := []) (r := [.int x3]) l_Dk_write_19 rfl ⟨rfl, rfl⟩ rfl (Nat.le_of_ble_eq_true rfl) rfl ⟨Nat.zero_le _, Nat.zero_le _⟩ h (fun v3 f2 h => ?_)
  refine s_ifc l_Dk_write_22 h (fun h => ?_) (fun h => ?_)
  · refine s_aln l_Dk_write_93 rfl ?_
    refine s_cvi (As := []) (r := []) l_Dk_write_94 rfl ⟨rfl, rfl⟩ rfl (Nat.le_of_ble_eq_true rfl) rfl ⟨Nat.zero_le _, Nat.zero_le _⟩ h (fun v6 f5 h => ?_)
    refine s_if l_Dk_write_97 h (fun h => ?_) (fun h => ?_)
    · refine s_aln l_Dk_write_103 rfl ?_
      refine s_gr l_Dk_write_104 h (fun r7 h => ?_)
      refine s_ic 1 l_Dk_write_107 rfl ?_
      refine s_aln l_Dk_write_108 rfl ?_
      refine s_gi l_Dk_write_109 h (fun v8 h => ?_)
      refine s_isub l_Dk_write_112 ?_
      refine s_aal l_Dk_write_113 h (fun r9 h => ?_)
      refine s_aln l_Dk_write_114 rfl ?_
      refine s_aln l_Dk_write_115 rfl ?_
      refine s_gr l_Dk_write_116 h (fun r10 h => ?_)
      refine s_cvv (As := [.ref a1, .ref r10]) (r := []) l_Dk_write_119 rfl ⟨rfl, rfl⟩ rfl (Nat.le_of_ble_eq_true rfl) rfl ⟨Nat.zero_le _, Nat.zero_le _⟩ h (fun f12 h => ?_)
      refine s_aln l_Dk_write_122 rfl ?_
      refine s_cvi (As := []) (r := []) l_Dk_write_123 rfl ⟨rfl, rfl⟩ rfl (Nat.le_of_ble_eq_true rfl) rfl ⟨Nat.zero_le _, Nat.zero_le _⟩ h (fun v15 f14 h => ?_)
      refine s_if l_Dk_write_126 h (fun h => ?_) (fun h => ?_)
      · refine s_aln l_Dk_write_132 rfl ?_
        refine s_ic 1 l_Dk_write_133 rfl ?_
        refine s_aln l_Dk_write_134 rfl ?_
        refine s_gi l_Dk_write_135 h (fun v16 h => ?_)
        refine s_isub l_Dk_write_138 ?_
        refine s_pf l_Dk_write_139 ⟨_, rfl⟩ h (fun f17 h => ?_)
        refine s_aln l_Dk_write_142 rfl ?_
        refine s_gi l_Dk_write_143 h (fun v18 h => ?_)
        refine s_iln l_Dk_write_146 rfl ?_
        refine s_isub l_Dk_write_147 ?_
        exact s_iret l_Dk_write_148 rfl ⟨Nat.zero_le _, Nat.zero_le _⟩ h
      · refine s_bp (-4) l_Dk_write_129 rfl ?_
        exact s_iret l_Dk_write_131 rfl ⟨Nat.zero_le _, Nat.zero_le _⟩ h
    · refine s_bp (-4) l_Dk_write_100 rfl ?_
      exact s_iret l_Dk_write_102 rfl ⟨Nat.zero_le _, Nat.zero_le _⟩ h
  · refine s_aln l_Dk_write_25 rfl ?_
    refine s_gr l_Dk_write_26 h (fun r19 h => ?_)
    refine s_iln l_Dk_write_29 rfl ?_
    refine s_aln l_Dk_write_30 rfl ?_
    refine s_aln l_Dk_write_31 rfl ?_
    refine s_iln l_Dk_write_32 rfl ?_
    refine s_cvr (As := [.int x3]) (r := [.ref a0, .int x3, .ref r19]) l_Dk_write_33 rfl ⟨rfl, rfl⟩ rfl (Nat.le_of_ble_eq_true rfl) rfl ⟨Nat.zero_le _, Nat.zero_le _⟩ h (fun r22 f21 h => ?_)
    refine s_aln l_Dk_write_36 rfl ?_
    refine s_iln l_Dk_write_37 rfl ?_
    refine s_cvr (As := [.int x3]) (r := [.ref r22, .ref a0, .int x3, .ref r19]) l_Dk_write_38 rfl ⟨rfl, rfl⟩ rfl (Nat.le_of_ble_eq_true rfl) rfl ⟨Nat.zero_le _, Nat.zero_le _⟩ h (fun r25 f24 h => ?_)
    refine s_cvi (As := [.ref r22, .ref r25]) (r := [.int x3, .ref r19]) l_Dk_write_41 rfl ⟨rfl, rfl⟩ rfl (Nat.le_of_ble_eq_true rfl) rfl ⟨Nat.zero_le _, Nat.zero_le _⟩ h (fun v28 f27 h => ?_)
    refine s_iast l_Dk_write_44 h (fun f29 h => ?_)
    refine s_aln l_Dk_write_45 rfl ?_
    refine s_gr l_Dk_write_46 h (fun r30 h => ?_)
    refine s_iln l_Dk_write_49 rfl ?_
    refine s_ial l_Dk_write_50 rfl h (fun v31 h => ?_)
    refine s_ic (-1) l_Dk_write_51 rfl ?_
    refine s_ifc l_Dk_write_52 h (fun h => ?_) (fun h => ?_)
    · refine s_inc 1 l_Dk_write_87 rfl rfl ?_
      refine s_goto l_Dk_write_90 ?_
      exact h
    · refine s_aln l_Dk_write_55 rfl ?_
      refine s_gr l_Dk_write_56 h (fun r32 h => ?_)
      refine s_iln l_Dk_write_59 rfl ?_
      refine s_aln l_Dk_write_60 rfl ?_
      refine s_iln l_Dk_write_61 rfl ?_
      refine s_cvi (As := [.int x3]) (r := [.int x3, .ref r32]) l_Dk_write_62 rfl ⟨rfl, rfl⟩ rfl (Nat.le_of_ble_eq_true rfl) rfl ⟨Nat.zero_le _, Nat.zero_le _⟩ h (fun v35 f34 h => ?_)
      refine s_iast l_Dk_write_65 h (fun f36 h => ?_)
      refine s_aln l_Dk_write_66 rfl ?_
      refine s_aln l_Dk_write_67 rfl ?_
      refine s_gr l_Dk_write_68 h (fun r37 h => ?_)
      refine s_iln l_Dk_write_71 rfl ?_
      refine s_ial l_Dk_write_72 rfl h (fun v38 h => ?_)
      refine s_aln l_Dk_write_73 rfl ?_
      refine s_iln l_Dk_write_74 rfl ?_
      refine s_cvr (As := [.int x3]) (r := [.int v38, .ref a0]) l_Dk_write_75 rfl ⟨rfl, rfl⟩ rfl (Nat.le_of_ble_eq_true rfl) rfl ⟨Nat.zero_le _, Nat.zero_le _⟩ h (fun r41 f40 h => ?_)
      refine s_cvi (As := [.int v38, .ref r41]) (r := []) l_Dk_write_78 rfl ⟨rfl, rfl⟩ rfl (Nat.le_of_ble_eq_true rfl) rfl ⟨Nat.zero_le _, Nat.zero_le _⟩ h (fun v44 f43 h => ?_)
      refine s_if l_Dk_write_81 h (fun h => ?_) (fun h => ?_)
      · refine s_inc 1 l_Dk_write_87 rfl rfl ?_
        refine s_goto l_Dk_write_90 ?_
        exact h
      · refine s_bp (-4) l_Dk_write_84 rfl ?_
        exact s_iret l_Dk_write_86 rfl ⟨Nat.zero_le _, Nat.zero_le _⟩ h
theorem l_Dk_slotHolding_0 : xlk (xm_cd m_Dk_slotHolding) 0 = some (.aload_n 0, 1, (0, 0, 0, [])) := rfl
theorem l_Dk_slotHolding_1 : xlk (xm_cd m_Dk_slotHolding) 1 = some (.getfield 26, 3, (247, 10, 2, [])) := rfl
theorem l_Dk_slotHolding_4 : xlk (xm_cd m_Dk_slotHolding) 4 = some (.aload_n 0, 1, (0, 0, 0, [])) := rfl
theorem l_Dk_slotHolding_5 : xlk (xm_cd m_Dk_slotHolding) 5 = some (.getfield 35, 3, (249, 10, 4, [])) := rfl
theorem l_Dk_slotHolding_8 : xlk (xm_cd m_Dk_slotHolding) 8 = some (.aaload, 1, (0, 7, 0, [])) := rfl
theorem l_Dk_slotHolding_9 : xlk (xm_cd m_Dk_slotHolding) 9 = some (.aload_n 1, 1, (0, 0, 0, [])) := rfl
theorem l_Dk_slotHolding_10 : xlk (xm_cd m_Dk_slotHolding) 10 = some (.invokevirtual 106, 3, (765, 128, 1, [])) := rfl
theorem l_Dk_slotHolding_13 : xlk (xm_cd m_Dk_slotHolding) 13 = some (.istore_n 3, 1, (0, 0, 0, [])) := rfl
theorem l_Dk_slotHolding_14 : xlk (xm_cd m_Dk_slotHolding) 14 = some (.aload_n 0, 1, (0, 0, 0, [])) := rfl
theorem l_Dk_slotHolding_15 : xlk (xm_cd m_Dk_slotHolding) 15 = some (.iload_n 3, 1, (0, 0, 0, [])) := rfl
theorem l_Dk_slotHolding_16 : xlk (xm_cd m_Dk_slotHolding) 16 = some (.invokevirtual 89, 3, (770, 129, 1, [])) := rfl
theorem l_Dk_slotHolding_19 : xlk (xm_cd m_Dk_slotHolding) 19 = some (.ifCond .eq 20, 3, (0, 39, 0, [])) := rfl
theorem l_Dk_slotHolding_22 : xlk (xm_cd m_Dk_slotHolding) 22 = some (.aload_n 0, 1, (0, 0, 0, [])) := rfl
theorem l_Dk_slotHolding_23 : xlk (xm_cd m_Dk_slotHolding) 23 = some (.getfield 11, 3, (245, 10, 0, [])) := rfl
theorem l_Dk_slotHolding_26 : xlk (xm_cd m_Dk_slotHolding) 26 = some (.iload_n 3, 1, (0, 0, 0, [])) := rfl
theorem l_Dk_slotHolding_27 : xlk (xm_cd m_Dk_slotHolding) 27 = some (.aaload, 1, (0, 3, 0, [])) := rfl
theorem l_Dk_slotHolding_28 : xlk (xm_cd m_Dk_slotHolding) 28 = some (.aload_n 2, 1, (0, 0, 0, [])) := rfl
theorem l_Dk_slotHolding_29 : xlk (xm_cd m_Dk_slotHolding) 29 = some (.invokevirtual 110, 3, (773, 29, 1, [])) := rfl
theorem l_Dk_slotHolding_32 : xlk (xm_cd m_Dk_slotHolding) 32 = some (.ifCond .eq 7, 3, (0, 39, 0, [])) := rfl
theorem l_Dk_slotHolding_35 : xlk (xm_cd m_Dk_slotHolding) 35 = some (.iload_n 3, 1, (0, 0, 0, [])) := rfl
theorem l_Dk_slotHolding_36 : xlk (xm_cd m_Dk_slotHolding) 36 = some (.goto 4, 3, (0, 40, 0, [])) := rfl
theorem l_Dk_slotHolding_39 : xlk (xm_cd m_Dk_slotHolding) 39 = some (.iconst (-1), 1, (0, 0, 0, [])) := rfl
theorem l_Dk_slotHolding_40 : xlk (xm_cd m_Dk_slotHolding) 40 = some (.ireturn, 1, (0, 0, 0, [])) := rfl
def B_Dk_slotHolding_0 (d : Nat) (E : Option Value → xH → Prop) (f : xH) (a0 : Nat) (a1 : Nat) (a2 : Nat) : Prop :=
  xgr f a0 10 2 (fun r1 => xgi f a0 10 4 (fun v2 => xrl f r1 7 v2 (fun r3 => (∃ fs, f r3 = some (xO 9 fs)) ∧ xSp xT0 d j_Li_slotOf [.ref r3, .ref a1] f (fun w4 f5 => xvi w4 (fun v6 => (∃ fs, f5 a0 = some (xO 10 fs)) ∧ xSp xT0 d j_Dk_isSlot [.ref a0, .int v6] f5 (fun w7 f8 => xvi w7 (fun v9 => xbr (v9 = 0) (E (some (.int (-1))) f8) (xgr f8 a0 10 0 (fun r10 => xrl f8 r10 3 v6 (fun r11 => (∃ fs, f8 r11 = some (xO 1 fs)) ∧ xSp xT0 d j_By_equalTo [.ref r11, .ref a2] f8 (fun w12 f13 => xvi w12 (fun v14 => xbr (v14 = 0) (E (some (.int (-1))) f13) (E (some (.int v6)) f13)))))))))))))
theorem b_Dk_slotHolding_0 {d : Nat} {E : Option Value → xH → Prop} {f : xH} {a0 : Nat} {a1 : Nat} {a2 : Nat} (h : B_Dk_slotHolding_0 d E f a0 a1 a2) : xWp (xT0, xSp xT0 d, none, m_Dk_slotHolding, E) 0 [some (.ref a0), some (.ref a1), some (.ref a2), none] [] f 0 0 := by
  unfold B_Dk_slotHolding_0 at h
  refine s_aln l_Dk_slotHolding_0 rfl ?_
  refine s_gr l_Dk_slotHolding_1 h (fun r1 h => ?_)
  refine s_aln l_Dk_slotHolding_4 rfl ?_
  refine s_gi l_Dk_slotHolding_5 h (fun v2 h => ?_)
  refine s_aal l_Dk_slotHolding_8 h (fun r3 h => ?_)
  refine s_aln l_Dk_slotHolding_9 rfl ?_
  refine s_cvi (As := [.ref a1]) (r := []) l_Dk_slotHolding_10 rfl ⟨rfl, rfl⟩ rfl (Nat.le_of_ble_eq_true rfl) rfl ⟨Nat.zero_le _, Nat.zero_le _⟩ h (fun v6 f5 h => ?_)
  refine s_isn l_Dk_slotHolding_13 (Nat.le_of_ble_eq_true rfl) ?_
  refine s_aln l_Dk_slotHolding_14 rfl ?_
  refine s_iln l_Dk_slotHolding_15 rfl ?_
  refine s_cvi (As := [.int v6]) (r := []) l_Dk_slotHolding_16 rfl ⟨rfl, rfl⟩ rfl (Nat.le_of_ble_eq_true rfl) rfl ⟨Nat.zero_le _, Nat.zero_le _⟩ h (fun v9 f8 h => ?_)
  refine s_if l_Dk_slotHolding_19 h (fun h => ?_) (fun h => ?_)
  · refine s_ic (-1) l_Dk_slotHolding_39 rfl ?_
    exact s_iret l_Dk_slotHolding_40 rfl ⟨Nat.zero_le _, Nat.zero_le _⟩ h
  · refine s_aln l_Dk_slotHolding_22 rfl ?_
    refine s_gr l_Dk_slotHolding_23 h (fun r10 h => ?_)
    refine s_iln l_Dk_slotHolding_26 rfl ?_
    refine s_aal l_Dk_slotHolding_27 h (fun r11 h => ?_)
    refine s_aln l_Dk_slotHolding_28 rfl ?_
    refine s_cvi (As := [.ref a2]) (r := []) l_Dk_slotHolding_29 rfl ⟨rfl, rfl⟩ rfl (Nat.le_of_ble_eq_true rfl) rfl ⟨Nat.zero_le _, Nat.zero_le _⟩ h (fun v14 f13 h => ?_)
    refine s_if l_Dk_slotHolding_32 h (fun h => ?_) (fun h => ?_)
    · refine s_ic (-1) l_Dk_slotHolding_39 rfl ?_
      exact s_iret l_Dk_slotHolding_40 rfl ⟨Nat.zero_le _, Nat.zero_le _⟩ h
    · refine s_iln l_Dk_slotHolding_35 rfl ?_
      refine s_goto l_Dk_slotHolding_36 ?_
      exact s_iret l_Dk_slotHolding_40 rfl ⟨Nat.zero_le _, Nat.zero_le _⟩ h
theorem l_Dk_isSlot_0 : xlk (xm_cd m_Dk_isSlot) 0 = some (.iload_n 1, 1, (0, 0, 0, [])) := rfl
theorem l_Dk_isSlot_1 : xlk (xm_cd m_Dk_isSlot) 1 = some (.ifCond .lt 13, 3, (0, 14, 0, [])) := rfl
theorem l_Dk_isSlot_4 : xlk (xm_cd m_Dk_isSlot) 4 = some (.iload_n 1, 1, (0, 0, 0, [])) := rfl
theorem l_Dk_isSlot_5 : xlk (xm_cd m_Dk_isSlot) 5 = some (.bipush 30, 2, (0, 0, 0, [])) := rfl
theorem l_Dk_isSlot_7 : xlk (xm_cd m_Dk_isSlot) 7 = some (.if_icmp .ge 7, 3, (0, 14, 0, [])) := rfl
theorem l_Dk_isSlot_10 : xlk (xm_cd m_Dk_isSlot) 10 = some (.iconst 1, 1, (0, 0, 0, [])) := rfl
theorem l_Dk_isSlot_11 : xlk (xm_cd m_Dk_isSlot) 11 = some (.goto 4, 3, (0, 15, 0, [])) := rfl
theorem l_Dk_isSlot_14 : xlk (xm_cd m_Dk_isSlot) 14 = some (.iconst 0, 1, (0, 0, 0, [])) := rfl
theorem l_Dk_isSlot_15 : xlk (xm_cd m_Dk_isSlot) 15 = some (.ireturn, 1, (0, 0, 0, [])) := rfl
def B_Dk_isSlot_0 (d : Nat) (E : Option Value → xH → Prop) (f : xH) (a0 : Nat) (x1 : Int32) : Prop :=
  xbr (x1 < 0) (E (some (.int 0)) f) (xbr ((30 : Int32) ≤ x1) (E (some (.int 0)) f) (E (some (.int 1)) f))
theorem b_Dk_isSlot_0 {d : Nat} {E : Option Value → xH → Prop} {f : xH} {a0 : Nat} {x1 : Int32} (h : B_Dk_isSlot_0 d E f a0 x1) : xWp (xT0, xSp xT0 d, none, m_Dk_isSlot, E) 0 [some (.ref a0), some (.int x1)] [] f 0 0 := by
  unfold B_Dk_isSlot_0 at h
  refine s_iln l_Dk_isSlot_0 rfl ?_
  refine s_if l_Dk_isSlot_1 h (fun h => ?_) (fun h => ?_)
  · refine s_ic 0 l_Dk_isSlot_14 rfl ?_
    exact s_zret l_Dk_isSlot_15 rfl ⟨Nat.zero_le _, Nat.zero_le _⟩ ⟨Or.inl rfl, h⟩
  · refine s_iln l_Dk_isSlot_4 rfl ?_
    refine s_bp 30 l_Dk_isSlot_5 rfl ?_
    refine s_ifc l_Dk_isSlot_7 h (fun h => ?_) (fun h => ?_)
    · refine s_ic 0 l_Dk_isSlot_14 rfl ?_
      exact s_zret l_Dk_isSlot_15 rfl ⟨Nat.zero_le _, Nat.zero_le _⟩ ⟨Or.inl rfl, h⟩
    · refine s_ic 1 l_Dk_isSlot_10 rfl ?_
      refine s_goto l_Dk_isSlot_11 ?_
      exact s_zret l_Dk_isSlot_15 rfl ⟨Nat.zero_le _, Nat.zero_le _⟩ ⟨Or.inr rfl, h⟩
theorem l_Dk_leastFree_0 : xlk (xm_cd m_Dk_leastFree) 0 = some (.iconst 0, 1, (0, 0, 0, [])) := rfl
theorem l_Dk_leastFree_1 : xlk (xm_cd m_Dk_leastFree) 1 = some (.istore_n 2, 1, (0, 0, 0, [])) := rfl
theorem l_Dk_leastFree_2 : xlk (xm_cd m_Dk_leastFree) 2 = some (.iload_n 2, 1, (0, 0, 0, [])) := rfl
theorem l_Dk_leastFree_3 : xlk (xm_cd m_Dk_leastFree) 3 = some (.bipush 30, 2, (0, 0, 0, [])) := rfl
theorem l_Dk_leastFree_5 : xlk (xm_cd m_Dk_leastFree) 5 = some (.if_icmp .ge 34, 3, (0, 39, 0, [])) := rfl
theorem l_Dk_leastFree_8 : xlk (xm_cd m_Dk_leastFree) 8 = some (.aload_n 0, 1, (0, 0, 0, [])) := rfl
theorem l_Dk_leastFree_9 : xlk (xm_cd m_Dk_leastFree) 9 = some (.getfield 26, 3, (247, 10, 2, [])) := rfl
theorem l_Dk_leastFree_12 : xlk (xm_cd m_Dk_leastFree) 12 = some (.aload_n 0, 1, (0, 0, 0, [])) := rfl
theorem l_Dk_leastFree_13 : xlk (xm_cd m_Dk_leastFree) 13 = some (.getfield 35, 3, (249, 10, 4, [])) := rfl
theorem l_Dk_leastFree_16 : xlk (xm_cd m_Dk_leastFree) 16 = some (.aaload, 1, (0, 7, 0, [])) := rfl
theorem l_Dk_leastFree_17 : xlk (xm_cd m_Dk_leastFree) 17 = some (.iload_n 2, 1, (0, 0, 0, [])) := rfl
theorem l_Dk_leastFree_18 : xlk (xm_cd m_Dk_leastFree) 18 = some (.invokevirtual 103, 3, (777, 131, 1, [])) := rfl
theorem l_Dk_leastFree_21 : xlk (xm_cd m_Dk_leastFree) 21 = some (.ifCond .ne 12, 3, (0, 33, 0, [])) := rfl
theorem l_Dk_leastFree_24 : xlk (xm_cd m_Dk_leastFree) 24 = some (.aload_n 0, 1, (0, 0, 0, [])) := rfl
theorem l_Dk_leastFree_25 : xlk (xm_cd m_Dk_leastFree) 25 = some (.iload_n 2, 1, (0, 0, 0, [])) := rfl
theorem l_Dk_leastFree_26 : xlk (xm_cd m_Dk_leastFree) 26 = some (.iload_n 1, 1, (0, 0, 0, [])) := rfl
theorem l_Dk_leastFree_27 : xlk (xm_cd m_Dk_leastFree) 27 = some (.invokevirtual 114, 3, (781, 132, 2, [])) := rfl
theorem l_Dk_leastFree_30 : xlk (xm_cd m_Dk_leastFree) 30 = some (.ifCond .eq 9, 3, (0, 39, 0, [])) := rfl
theorem l_Dk_leastFree_33 : xlk (xm_cd m_Dk_leastFree) 33 = some (.iinc 2 1, 3, (0, 0, 0, [])) := rfl
theorem l_Dk_leastFree_36 : xlk (xm_cd m_Dk_leastFree) 36 = some (.goto (-34), 3, (0, 2, 0, [])) := rfl
theorem l_Dk_leastFree_39 : xlk (xm_cd m_Dk_leastFree) 39 = some (.iload_n 2, 1, (0, 0, 0, [])) := rfl
theorem l_Dk_leastFree_40 : xlk (xm_cd m_Dk_leastFree) 40 = some (.ireturn, 1, (0, 0, 0, [])) := rfl
def B_Dk_leastFree_0 (d : Nat) (E : Option Value → xH → Prop) (f : xH) (a0 : Nat) (x1 : Int32) : Prop :=
  xWp (xT0, xSp xT0 d, none, m_Dk_leastFree, E) 2 [some (.ref a0), some (.int x1), some (.int 0)] [] f 0 0
theorem b_Dk_leastFree_0 {d : Nat} {E : Option Value → xH → Prop} {f : xH} {a0 : Nat} {x1 : Int32} (h : B_Dk_leastFree_0 d E f a0 x1) : xWp (xT0, xSp xT0 d, none, m_Dk_leastFree, E) 0 [some (.ref a0), some (.int x1), none] [] f 0 0 := by
  unfold B_Dk_leastFree_0 at h
  refine s_ic 0 l_Dk_leastFree_0 rfl ?_
  refine s_isn l_Dk_leastFree_1 (Nat.le_of_ble_eq_true rfl) ?_
  exact h
def B_Dk_leastFree_2 (d : Nat) (E : Option Value → xH → Prop) (f : xH) (a0 : Nat) (x1 : Int32) (x2 : Int32) : Prop :=
  xbr ((30 : Int32) ≤ x2) (E (some (.int x2)) f) (xgr f a0 10 2 (fun r1 => xgi f a0 10 4 (fun v2 => xrl f r1 7 v2 (fun r3 => (∃ fs, f r3 = some (xO 9 fs)) ∧ xSp xT0 d j_Li_uses [.ref r3, .int x2] f (fun w4 f5 => xvi w4 (fun v6 => xbr (¬ v6 = 0) (xWp (xT0, xSp xT0 d, none, m_Dk_leastFree, E) 2 [some (.ref a0), some (.int x1), some (.int (x2 + 1))] [] f5 0 0) ((∃ fs, f5 a0 = some (xO 10 fs)) ∧ xSp xT0 d j_Dk_isChosen [.ref a0, .int x2, .int x1] f5 (fun w7 f8 => xvi w7 (fun v9 => xbr (v9 = 0) (E (some (.int x2)) f8) (xWp (xT0, xSp xT0 d, none, m_Dk_leastFree, E) 2 [some (.ref a0), some (.int x1), some (.int (x2 + 1))] [] f8 0 0))))))))))
theorem b_Dk_leastFree_2 {d : Nat} {E : Option Value → xH → Prop} {f : xH} {a0 : Nat} {x1 : Int32} {x2 : Int32} (h : B_Dk_leastFree_2 d E f a0 x1 x2) : xWp (xT0, xSp xT0 d, none, m_Dk_leastFree, E) 2 [some (.ref a0), some (.int x1), some (.int x2)] [] f 0 0 := by
  unfold B_Dk_leastFree_2 at h
  refine s_iln l_Dk_leastFree_2 rfl ?_
  refine s_bp 30 l_Dk_leastFree_3 rfl ?_
  refine s_ifc l_Dk_leastFree_5 h (fun h => ?_) (fun h => ?_)
  · refine s_iln l_Dk_leastFree_39 rfl ?_
    exact s_iret l_Dk_leastFree_40 rfl ⟨Nat.zero_le _, Nat.zero_le _⟩ h
  · refine s_aln l_Dk_leastFree_8 rfl ?_
    refine s_gr l_Dk_leastFree_9 h (fun r1 h => ?_)
    refine s_aln l_Dk_leastFree_12 rfl ?_
    refine s_gi l_Dk_leastFree_13 h (fun v2 h => ?_)
    refine s_aal l_Dk_leastFree_16 h (fun r3 h => ?_)
    refine s_iln l_Dk_leastFree_17 rfl ?_
    refine s_cvi (As := [.int x2]) (r := []) l_Dk_leastFree_18 rfl ⟨rfl, rfl⟩ rfl (Nat.le_of_ble_eq_true rfl) rfl ⟨Nat.zero_le _, Nat.zero_le _⟩ h (fun v6 f5 h => ?_)
    refine s_if l_Dk_leastFree_21 h (fun h => ?_) (fun h => ?_)
    · refine s_inc 1 l_Dk_leastFree_33 rfl rfl ?_
      refine s_goto l_Dk_leastFree_36 ?_
      exact h
    · refine s_aln l_Dk_leastFree_24 rfl ?_
      refine s_iln l_Dk_leastFree_25 rfl ?_
      refine s_iln l_Dk_leastFree_26 rfl ?_
      refine s_cvi (As := [.int x2, .int x1]) (r := []) l_Dk_leastFree_27 rfl ⟨rfl, rfl⟩ rfl (Nat.le_of_ble_eq_true rfl) rfl ⟨Nat.zero_le _, Nat.zero_le _⟩ h (fun v9 f8 h => ?_)
      refine s_if l_Dk_leastFree_30 h (fun h => ?_) (fun h => ?_)
      · refine s_iln l_Dk_leastFree_39 rfl ?_
        exact s_iret l_Dk_leastFree_40 rfl ⟨Nat.zero_le _, Nat.zero_le _⟩ h
      · refine s_inc 1 l_Dk_leastFree_33 rfl rfl ?_
        refine s_goto l_Dk_leastFree_36 ?_
        exact h
theorem l_Dk_isChosen_0 : xlk (xm_cd m_Dk_isChosen) 0 = some (.iconst 0, 1, (0, 0, 0, [])) := rfl
theorem l_Dk_isChosen_1 : xlk (xm_cd m_Dk_isChosen) 1 = some (.istore_n 3, 1, (0, 0, 0, [])) := rfl
theorem l_Dk_isChosen_2 : xlk (xm_cd m_Dk_isChosen) 2 = some (.iload_n 3, 1, (0, 0, 0, [])) := rfl
theorem l_Dk_isChosen_3 : xlk (xm_cd m_Dk_isChosen) 3 = some (.iload_n 2, 1, (0, 0, 0, [])) := rfl
theorem l_Dk_isChosen_4 : xlk (xm_cd m_Dk_isChosen) 4 = some (.if_icmp .ge 21, 3, (0, 25, 0, [])) := rfl
theorem l_Dk_isChosen_7 : xlk (xm_cd m_Dk_isChosen) 7 = some (.aload_n 0, 1, (0, 0, 0, [])) := rfl
theorem l_Dk_isChosen_8 : xlk (xm_cd m_Dk_isChosen) 8 = some (.getfield 31, 3, (248, 10, 3, [])) := rfl
theorem l_Dk_isChosen_11 : xlk (xm_cd m_Dk_isChosen) 11 = some (.iload_n 3, 1, (0, 0, 0, [])) := rfl
theorem l_Dk_isChosen_12 : xlk (xm_cd m_Dk_isChosen) 12 = some (.iaload, 1, (0, 0, 0, [])) := rfl
theorem l_Dk_isChosen_13 : xlk (xm_cd m_Dk_isChosen) 13 = some (.iload_n 1, 1, (0, 0, 0, [])) := rfl
theorem l_Dk_isChosen_14 : xlk (xm_cd m_Dk_isChosen) 14 = some (.if_icmp .ne 5, 3, (0, 19, 0, [])) := rfl
theorem l_Dk_isChosen_17 : xlk (xm_cd m_Dk_isChosen) 17 = some (.iconst 1, 1, (0, 0, 0, [])) := rfl
theorem l_Dk_isChosen_18 : xlk (xm_cd m_Dk_isChosen) 18 = some (.ireturn, 1, (0, 0, 0, [])) := rfl
theorem l_Dk_isChosen_19 : xlk (xm_cd m_Dk_isChosen) 19 = some (.iinc 3 1, 3, (0, 0, 0, [])) := rfl
theorem l_Dk_isChosen_22 : xlk (xm_cd m_Dk_isChosen) 22 = some (.goto (-20), 3, (0, 2, 0, [])) := rfl
theorem l_Dk_isChosen_25 : xlk (xm_cd m_Dk_isChosen) 25 = some (.iconst 0, 1, (0, 0, 0, [])) := rfl
theorem l_Dk_isChosen_26 : xlk (xm_cd m_Dk_isChosen) 26 = some (.ireturn, 1, (0, 0, 0, [])) := rfl
def B_Dk_isChosen_0 (d : Nat) (E : Option Value → xH → Prop) (f : xH) (a0 : Nat) (x1 : Int32) (x2 : Int32) : Prop :=
  xWp (xT0, xSp xT0 d, none, m_Dk_isChosen, E) 2 [some (.ref a0), some (.int x1), some (.int x2), some (.int 0)] [] f 0 0
theorem b_Dk_isChosen_0 {d : Nat} {E : Option Value → xH → Prop} {f : xH} {a0 : Nat} {x1 : Int32} {x2 : Int32} (h : B_Dk_isChosen_0 d E f a0 x1 x2) : xWp (xT0, xSp xT0 d, none, m_Dk_isChosen, E) 0 [some (.ref a0), some (.int x1), some (.int x2), none] [] f 0 0 := by
  unfold B_Dk_isChosen_0 at h
  refine s_ic 0 l_Dk_isChosen_0 rfl ?_
  refine s_isn l_Dk_isChosen_1 (Nat.le_of_ble_eq_true rfl) ?_
  exact h
def B_Dk_isChosen_2 (d : Nat) (E : Option Value → xH → Prop) (f : xH) (a0 : Nat) (x1 : Int32) (x2 : Int32) (x3 : Int32) : Prop :=
  xbr (x2 ≤ x3) (E (some (.int 0)) f) (xgr f a0 10 3 (fun r1 => xal f r1 0 x3 (fun v2 => xbr (¬ v2 = x1) (xWp (xT0, xSp xT0 d, none, m_Dk_isChosen, E) 2 [some (.ref a0), some (.int x1), some (.int x2), some (.int (x3 + 1))] [] f 0 0) (E (some (.int 1)) f))))
theorem b_Dk_isChosen_2 {d : Nat} {E : Option Value → xH → Prop} {f : xH} {a0 : Nat} {x1 : Int32} {x2 : Int32} {x3 : Int32} (h : B_Dk_isChosen_2 d E f a0 x1 x2 x3) : xWp (xT0, xSp xT0 d, none, m_Dk_isChosen, E) 2 [some (.ref a0), some (.int x1), some (.int x2), some (.int x3)] [] f 0 0 := by
  unfold B_Dk_isChosen_2 at h
  refine s_iln l_Dk_isChosen_2 rfl ?_
  refine s_iln l_Dk_isChosen_3 rfl ?_
  refine s_ifc l_Dk_isChosen_4 h (fun h => ?_) (fun h => ?_)
  · refine s_ic 0 l_Dk_isChosen_25 rfl ?_
    exact s_zret l_Dk_isChosen_26 rfl ⟨Nat.zero_le _, Nat.zero_le _⟩ ⟨Or.inl rfl, h⟩
  · refine s_aln l_Dk_isChosen_7 rfl ?_
    refine s_gr l_Dk_isChosen_8 h (fun r1 h => ?_)
    refine s_iln l_Dk_isChosen_11 rfl ?_
    refine s_ial l_Dk_isChosen_12 rfl h (fun v2 h => ?_)
    refine s_iln l_Dk_isChosen_13 rfl ?_
    refine s_ifc l_Dk_isChosen_14 h (fun h => ?_) (fun h => ?_)
    · refine s_inc 1 l_Dk_isChosen_19 rfl rfl ?_
      refine s_goto l_Dk_isChosen_22 ?_
      exact h
    · refine s_ic 1 l_Dk_isChosen_17 rfl ?_
      exact s_zret l_Dk_isChosen_18 rfl ⟨Nat.zero_le _, Nat.zero_le _⟩ ⟨Or.inr rfl, h⟩
theorem l_Dk_writeSlot_0 : xlk (xm_cd m_Dk_writeSlot) 0 = some (.aload_n 0, 1, (0, 0, 0, [])) := rfl
theorem l_Dk_writeSlot_1 : xlk (xm_cd m_Dk_writeSlot) 1 = some (.invokevirtual 75, 3, (787, 134, 0, [])) := rfl
theorem l_Dk_writeSlot_4 : xlk (xm_cd m_Dk_writeSlot) 4 = some (.ifCond .ne 5, 3, (0, 9, 0, [])) := rfl
theorem l_Dk_writeSlot_7 : xlk (xm_cd m_Dk_writeSlot) 7 = some (.iconst 0, 1, (0, 0, 0, [])) := rfl
theorem l_Dk_writeSlot_8 : xlk (xm_cd m_Dk_writeSlot) 8 = some (.ireturn, 1, (0, 0, 0, [])) := rfl
theorem l_Dk_writeSlot_9 : xlk (xm_cd m_Dk_writeSlot) 9 = some (.aload_n 0, 1, (0, 0, 0, [])) := rfl
theorem l_Dk_writeSlot_10 : xlk (xm_cd m_Dk_writeSlot) 10 = some (.iload_n 1, 1, (0, 0, 0, [])) := rfl
theorem l_Dk_writeSlot_11 : xlk (xm_cd m_Dk_writeSlot) 11 = some (.invokevirtual 89, 3, (770, 129, 1, [])) := rfl
theorem l_Dk_writeSlot_14 : xlk (xm_cd m_Dk_writeSlot) 14 = some (.ifCond .eq 20, 3, (0, 34, 0, [])) := rfl
theorem l_Dk_writeSlot_17 : xlk (xm_cd m_Dk_writeSlot) 17 = some (.aload_n 0, 1, (0, 0, 0, [])) := rfl
theorem l_Dk_writeSlot_18 : xlk (xm_cd m_Dk_writeSlot) 18 = some (.getfield 11, 3, (245, 10, 0, [])) := rfl
theorem l_Dk_writeSlot_21 : xlk (xm_cd m_Dk_writeSlot) 21 = some (.iload_n 1, 1, (0, 0, 0, [])) := rfl
theorem l_Dk_writeSlot_22 : xlk (xm_cd m_Dk_writeSlot) 22 = some (.aaload, 1, (0, 3, 0, [])) := rfl
theorem l_Dk_writeSlot_23 : xlk (xm_cd m_Dk_writeSlot) 23 = some (.aload_n 2, 1, (0, 0, 0, [])) := rfl
theorem l_Dk_writeSlot_24 : xlk (xm_cd m_Dk_writeSlot) 24 = some (.invokevirtual 118, 3, (790, 19, 1, [])) := rfl
theorem l_Dk_writeSlot_27 : xlk (xm_cd m_Dk_writeSlot) 27 = some (.aload_n 0, 1, (0, 0, 0, [])) := rfl
theorem l_Dk_writeSlot_28 : xlk (xm_cd m_Dk_writeSlot) 28 = some (.getfield 20, 3, (246, 10, 1, [])) := rfl
theorem l_Dk_writeSlot_31 : xlk (xm_cd m_Dk_writeSlot) 31 = some (.iload_n 1, 1, (0, 0, 0, [])) := rfl
theorem l_Dk_writeSlot_32 : xlk (xm_cd m_Dk_writeSlot) 32 = some (.iconst 1, 1, (0, 0, 0, [])) := rfl
theorem l_Dk_writeSlot_33 : xlk (xm_cd m_Dk_writeSlot) 33 = some (.bastore, 1, (0, 0, 0, [])) := rfl
theorem l_Dk_writeSlot_34 : xlk (xm_cd m_Dk_writeSlot) 34 = some (.iconst 1, 1, (0, 0, 0, [])) := rfl
theorem l_Dk_writeSlot_35 : xlk (xm_cd m_Dk_writeSlot) 35 = some (.ireturn, 1, (0, 0, 0, [])) := rfl
def B_Dk_writeSlot_0 (d : Nat) (E : Option Value → xH → Prop) (f : xH) (a0 : Nat) (x1 : Int32) (a2 : Nat) : Prop :=
  (∃ fs, f a0 = some (xO 10 fs)) ∧ xSp xT0 d j_Dk_spendWriting [.ref a0] f (fun w1 f2 => xvi w1 (fun v3 => xbr (¬ v3 = 0) ((∃ fs, f2 a0 = some (xO 10 fs)) ∧ xSp xT0 d j_Dk_isSlot [.ref a0, .int x1] f2 (fun w4 f5 => xvi w4 (fun v6 => xbr (v6 = 0) (E (some (.int 1)) f5) (xgr f5 a0 10 0 (fun r7 => xrl f5 r7 3 x1 (fun r8 => (∃ fs, f5 r8 = some (xO 1 fs)) ∧ xSp xT0 d j_By_copyOf [.ref r8, .ref a2] f5 (fun w9 f10 => xvv w9 (xgr f10 a0 10 1 (fun r11 => xas f10 r11 1 x1 1 (fun f12 => E (some (.int 1)) f12)))))))))) (E (some (.int 0)) f2)))
theorem b_Dk_writeSlot_0 {d : Nat} {E : Option Value → xH → Prop} {f : xH} {a0 : Nat} {x1 : Int32} {a2 : Nat} (h : B_Dk_writeSlot_0 d E f a0 x1 a2) : xWp (xT0, xSp xT0 d, none, m_Dk_writeSlot, E) 0 [some (.ref a0), some (.int x1), some (.ref a2)] [] f 0 0 := by
  unfold B_Dk_writeSlot_0 at h
  refine s_aln l_Dk_writeSlot_0 rfl ?_
  refine s_cvi (As := []) (r := []) l_Dk_writeSlot_1 rfl ⟨rfl, rfl⟩ rfl (Nat.le_of_ble_eq_true rfl) rfl ⟨Nat.zero_le _, Nat.zero_le _⟩ h (fun v3 f2 h => ?_)
  refine s_if l_Dk_writeSlot_4 h (fun h => ?_) (fun h => ?_)
  · refine s_aln l_Dk_writeSlot_9 rfl ?_
    refine s_iln l_Dk_writeSlot_10 rfl ?_
    refine s_cvi (As := [.int x1]) (r := []) l_Dk_writeSlot_11 rfl ⟨rfl, rfl⟩ rfl (Nat.le_of_ble_eq_true rfl) rfl ⟨Nat.zero_le _, Nat.zero_le _⟩ h (fun v6 f5 h => ?_)
    refine s_if l_Dk_writeSlot_14 h (fun h => ?_) (fun h => ?_)
    · refine s_ic 1 l_Dk_writeSlot_34 rfl ?_
      exact s_zret l_Dk_writeSlot_35 rfl ⟨Nat.zero_le _, Nat.zero_le _⟩ ⟨Or.inr rfl, h⟩
    · refine s_aln l_Dk_writeSlot_17 rfl ?_
      refine s_gr l_Dk_writeSlot_18 h (fun r7 h => ?_)
      refine s_iln l_Dk_writeSlot_21 rfl ?_
      refine s_aal l_Dk_writeSlot_22 h (fun r8 h => ?_)
      refine s_aln l_Dk_writeSlot_23 rfl ?_
      refine s_cvv (As := [.ref a2]) (r := []) l_Dk_writeSlot_24 rfl ⟨rfl, rfl⟩ rfl (Nat.le_of_ble_eq_true rfl) rfl ⟨Nat.zero_le _, Nat.zero_le _⟩ h (fun f10 h => ?_)
      refine s_aln l_Dk_writeSlot_27 rfl ?_
      refine s_gr l_Dk_writeSlot_28 h (fun r11 h => ?_)
      refine s_iln l_Dk_writeSlot_31 rfl ?_
      refine s_ic 1 l_Dk_writeSlot_32 rfl ?_
      refine s_zast l_Dk_writeSlot_33 ⟨Or.inr rfl, h⟩ (fun f12 h => ?_)
      refine s_ic 1 l_Dk_writeSlot_34 rfl ?_
      exact s_zret l_Dk_writeSlot_35 rfl ⟨Nat.zero_le _, Nat.zero_le _⟩ ⟨Or.inr rfl, h⟩
  · refine s_ic 0 l_Dk_writeSlot_7 rfl ?_
    exact s_zret l_Dk_writeSlot_8 rfl ⟨Nat.zero_le _, Nat.zero_le _⟩ ⟨Or.inl rfl, h⟩
theorem l_Dk_spendWriting_0 : xlk (xm_cd m_Dk_spendWriting) 0 = some (.aload_n 0, 1, (0, 0, 0, [])) := rfl
theorem l_Dk_spendWriting_1 : xlk (xm_cd m_Dk_spendWriting) 1 = some (.getfield 39, 3, (250, 10, 5, [])) := rfl
theorem l_Dk_spendWriting_4 : xlk (xm_cd m_Dk_spendWriting) 4 = some (.ifCond .ne 10, 3, (0, 14, 0, [])) := rfl
theorem l_Dk_spendWriting_7 : xlk (xm_cd m_Dk_spendWriting) 7 = some (.aload_n 0, 1, (0, 0, 0, [])) := rfl
theorem l_Dk_spendWriting_8 : xlk (xm_cd m_Dk_spendWriting) 8 = some (.iconst 1, 1, (0, 0, 0, [])) := rfl
theorem l_Dk_spendWriting_9 : xlk (xm_cd m_Dk_spendWriting) 9 = some (.putfield 45, 3, (252, 10, 7, [(0, 2)])) := rfl
theorem l_Dk_spendWriting_12 : xlk (xm_cd m_Dk_spendWriting) 12 = some (.iconst 0, 1, (0, 0, 0, [])) := rfl
theorem l_Dk_spendWriting_13 : xlk (xm_cd m_Dk_spendWriting) 13 = some (.ireturn, 1, (0, 0, 0, [])) := rfl
theorem l_Dk_spendWriting_14 : xlk (xm_cd m_Dk_spendWriting) 14 = some (.aload_n 0, 1, (0, 0, 0, [])) := rfl
theorem l_Dk_spendWriting_15 : xlk (xm_cd m_Dk_spendWriting) 15 = some (.getfield 39, 3, (250, 10, 5, [])) := rfl
theorem l_Dk_spendWriting_18 : xlk (xm_cd m_Dk_spendWriting) 18 = some (.ifCond .le 13, 3, (0, 31, 0, [])) := rfl
theorem l_Dk_spendWriting_21 : xlk (xm_cd m_Dk_spendWriting) 21 = some (.aload_n 0, 1, (0, 0, 0, [])) := rfl
theorem l_Dk_spendWriting_22 : xlk (xm_cd m_Dk_spendWriting) 22 = some (.dup, 1, (0, 0, 0, [])) := rfl
theorem l_Dk_spendWriting_23 : xlk (xm_cd m_Dk_spendWriting) 23 = some (.getfield 39, 3, (250, 10, 5, [])) := rfl
theorem l_Dk_spendWriting_26 : xlk (xm_cd m_Dk_spendWriting) 26 = some (.iconst 1, 1, (0, 0, 0, [])) := rfl
theorem l_Dk_spendWriting_27 : xlk (xm_cd m_Dk_spendWriting) 27 = some (.isub, 1, (0, 0, 0, [])) := rfl
theorem l_Dk_spendWriting_28 : xlk (xm_cd m_Dk_spendWriting) 28 = some (.putfield 39, 3, (250, 10, 5, [(0, 0)])) := rfl
theorem l_Dk_spendWriting_31 : xlk (xm_cd m_Dk_spendWriting) 31 = some (.aload_n 0, 1, (0, 0, 0, [])) := rfl
theorem l_Dk_spendWriting_32 : xlk (xm_cd m_Dk_spendWriting) 32 = some (.dup, 1, (0, 0, 0, [])) := rfl
theorem l_Dk_spendWriting_33 : xlk (xm_cd m_Dk_spendWriting) 33 = some (.getfield 42, 3, (251, 10, 6, [])) := rfl
theorem l_Dk_spendWriting_36 : xlk (xm_cd m_Dk_spendWriting) 36 = some (.iconst 1, 1, (0, 0, 0, [])) := rfl
theorem l_Dk_spendWriting_37 : xlk (xm_cd m_Dk_spendWriting) 37 = some (.iadd, 1, (0, 0, 0, [])) := rfl
theorem l_Dk_spendWriting_38 : xlk (xm_cd m_Dk_spendWriting) 38 = some (.putfield 42, 3, (251, 10, 6, [(0, 0)])) := rfl
theorem l_Dk_spendWriting_41 : xlk (xm_cd m_Dk_spendWriting) 41 = some (.iconst 1, 1, (0, 0, 0, [])) := rfl
theorem l_Dk_spendWriting_42 : xlk (xm_cd m_Dk_spendWriting) 42 = some (.ireturn, 1, (0, 0, 0, [])) := rfl
def B_Dk_spendWriting_0 (d : Nat) (E : Option Value → xH → Prop) (f : xH) (a0 : Nat) : Prop :=
  xgi f a0 10 5 (fun v1 => xbr (¬ v1 = 0) (xgi f a0 10 5 (fun v2 => xbr (v2 ≤ 0) (xWp (xT0, xSp xT0 d, none, m_Dk_spendWriting, E) 31 [some (.ref a0)] [] f 0 0) (xgi f a0 10 5 (fun v3 => xpf f a0 10 5 (.int (v3 - 1)) (fun f4 => xWp (xT0, xSp xT0 d, none, m_Dk_spendWriting, E) 31 [some (.ref a0)] [] f4 0 0))))) (xpf f a0 10 7 (.int 1) (fun f5 => E (some (.int 0)) f5)))
theorem b_Dk_spendWriting_0 {d : Nat} {E : Option Value → xH → Prop} {f : xH} {a0 : Nat} (h : B_Dk_spendWriting_0 d E f a0) : xWp (xT0, xSp xT0 d, none, m_Dk_spendWriting, E) 0 [some (.ref a0)] [] f 0 0 := by
  unfold B_Dk_spendWriting_0 at h
  refine s_aln l_Dk_spendWriting_0 rfl ?_
  refine s_gi l_Dk_spendWriting_1 h (fun v1 h => ?_)
  refine s_if l_Dk_spendWriting_4 h (fun h => ?_) (fun h => ?_)
  · refine s_aln l_Dk_spendWriting_14 rfl ?_
    refine s_gi l_Dk_spendWriting_15 h (fun v2 h => ?_)
    refine s_if l_Dk_spendWriting_18 h (fun h => ?_) (fun h => ?_)
    · exact h
    · refine s_aln l_Dk_spendWriting_21 rfl ?_
      refine s_dup l_Dk_spendWriting_22 rfl ?_
      refine s_gi l_Dk_spendWriting_23 h (fun v3 h => ?_)
      refine s_ic 1 l_Dk_spendWriting_26 rfl ?_
      refine s_isub l_Dk_spendWriting_27 ?_
      refine s_pf l_Dk_spendWriting_28 ⟨_, rfl⟩ h (fun f4 h => ?_)
      exact h
  · refine s_aln l_Dk_spendWriting_7 rfl ?_
    refine s_ic 1 l_Dk_spendWriting_8 rfl ?_
    refine s_pf l_Dk_spendWriting_9 (Or.inr rfl) h (fun f5 h => ?_)
    refine s_ic 0 l_Dk_spendWriting_12 rfl ?_
    exact s_zret l_Dk_spendWriting_13 rfl ⟨Nat.zero_le _, Nat.zero_le _⟩ ⟨Or.inl rfl, h⟩
def B_Dk_spendWriting_31 (d : Nat) (E : Option Value → xH → Prop) (f : xH) (a0 : Nat) : Prop :=
  xgi f a0 10 6 (fun v1 => xpf f a0 10 6 (.int (v1 + 1)) (fun f2 => E (some (.int 1)) f2))
theorem b_Dk_spendWriting_31 {d : Nat} {E : Option Value → xH → Prop} {f : xH} {a0 : Nat} (h : B_Dk_spendWriting_31 d E f a0) : xWp (xT0, xSp xT0 d, none, m_Dk_spendWriting, E) 31 [some (.ref a0)] [] f 0 0 := by
  unfold B_Dk_spendWriting_31 at h
  refine s_aln l_Dk_spendWriting_31 rfl ?_
  refine s_dup l_Dk_spendWriting_32 rfl ?_
  refine s_gi l_Dk_spendWriting_33 h (fun v1 h => ?_)
  refine s_ic 1 l_Dk_spendWriting_36 rfl ?_
  refine s_iadd l_Dk_spendWriting_37 ?_
  refine s_pf l_Dk_spendWriting_38 ⟨_, rfl⟩ h (fun f2 h => ?_)
  refine s_ic 1 l_Dk_spendWriting_41 rfl ?_
  exact s_zret l_Dk_spendWriting_42 rfl ⟨Nat.zero_le _, Nat.zero_le _⟩ ⟨Or.inr rfl, h⟩
theorem l_Dk_read_0 : xlk (xm_cd m_Dk_read) 0 = some (.aload_n 0, 1, (0, 0, 0, [])) := rfl
theorem l_Dk_read_1 : xlk (xm_cd m_Dk_read) 1 = some (.getfield 26, 3, (247, 10, 2, [])) := rfl
theorem l_Dk_read_4 : xlk (xm_cd m_Dk_read) 4 = some (.aload_n 0, 1, (0, 0, 0, [])) := rfl
theorem l_Dk_read_5 : xlk (xm_cd m_Dk_read) 5 = some (.getfield 35, 3, (249, 10, 4, [])) := rfl
theorem l_Dk_read_8 : xlk (xm_cd m_Dk_read) 8 = some (.aaload, 1, (0, 7, 0, [])) := rfl
theorem l_Dk_read_9 : xlk (xm_cd m_Dk_read) 9 = some (.astore_n 2, 1, (0, 0, 0, [])) := rfl
theorem l_Dk_read_10 : xlk (xm_cd m_Dk_read) 10 = some (.aload_n 1, 1, (0, 0, 0, [])) := rfl
theorem l_Dk_read_11 : xlk (xm_cd m_Dk_read) 11 = some (.invokevirtual 83, 3, (807, 23, 0, [])) := rfl
theorem l_Dk_read_14 : xlk (xm_cd m_Dk_read) 14 = some (.iconst 0, 1, (0, 0, 0, [])) := rfl
theorem l_Dk_read_15 : xlk (xm_cd m_Dk_read) 15 = some (.istore_n 3, 1, (0, 0, 0, [])) := rfl
theorem l_Dk_read_16 : xlk (xm_cd m_Dk_read) 16 = some (.iload_n 3, 1, (0, 0, 0, [])) := rfl
theorem l_Dk_read_17 : xlk (xm_cd m_Dk_read) 17 = some (.aload_n 2, 1, (0, 0, 0, [])) := rfl
theorem l_Dk_read_18 : xlk (xm_cd m_Dk_read) 18 = some (.invokevirtual 49, 3, (808, 138, 0, [])) := rfl
theorem l_Dk_read_21 : xlk (xm_cd m_Dk_read) 21 = some (.if_icmp .ge 44, 3, (0, 65, 0, [])) := rfl
theorem l_Dk_read_24 : xlk (xm_cd m_Dk_read) 24 = some (.aload_n 0, 1, (0, 0, 0, [])) := rfl
theorem l_Dk_read_25 : xlk (xm_cd m_Dk_read) 25 = some (.aload_n 2, 1, (0, 0, 0, [])) := rfl
theorem l_Dk_read_26 : xlk (xm_cd m_Dk_read) 26 = some (.getfield 86, 3, (0, 9, 1, [])) := rfl
theorem l_Dk_read_29 : xlk (xm_cd m_Dk_read) 29 = some (.iload_n 3, 1, (0, 0, 0, [])) := rfl
theorem l_Dk_read_30 : xlk (xm_cd m_Dk_read) 30 = some (.iaload, 1, (0, 0, 0, [])) := rfl
theorem l_Dk_read_31 : xlk (xm_cd m_Dk_read) 31 = some (.invokevirtual 89, 3, (770, 129, 1, [])) := rfl
theorem l_Dk_read_34 : xlk (xm_cd m_Dk_read) 34 = some (.ifCond .eq 25, 3, (0, 59, 0, [])) := rfl
theorem l_Dk_read_37 : xlk (xm_cd m_Dk_read) 37 = some (.aload_n 1, 1, (0, 0, 0, [])) := rfl
theorem l_Dk_read_38 : xlk (xm_cd m_Dk_read) 38 = some (.aload_n 2, 1, (0, 0, 0, [])) := rfl
theorem l_Dk_read_39 : xlk (xm_cd m_Dk_read) 39 = some (.getfield 93, 3, (0, 9, 0, [])) := rfl
theorem l_Dk_read_42 : xlk (xm_cd m_Dk_read) 42 = some (.iload_n 3, 1, (0, 0, 0, [])) := rfl
theorem l_Dk_read_43 : xlk (xm_cd m_Dk_read) 43 = some (.aaload, 1, (0, 3, 0, [])) := rfl
theorem l_Dk_read_44 : xlk (xm_cd m_Dk_read) 44 = some (.aload_n 0, 1, (0, 0, 0, [])) := rfl
theorem l_Dk_read_45 : xlk (xm_cd m_Dk_read) 45 = some (.getfield 11, 3, (245, 10, 0, [])) := rfl
theorem l_Dk_read_48 : xlk (xm_cd m_Dk_read) 48 = some (.aload_n 2, 1, (0, 0, 0, [])) := rfl
theorem l_Dk_read_49 : xlk (xm_cd m_Dk_read) 49 = some (.getfield 86, 3, (0, 9, 1, [])) := rfl
theorem l_Dk_read_52 : xlk (xm_cd m_Dk_read) 52 = some (.iload_n 3, 1, (0, 0, 0, [])) := rfl
theorem l_Dk_read_53 : xlk (xm_cd m_Dk_read) 53 = some (.iaload, 1, (0, 0, 0, [])) := rfl
theorem l_Dk_read_54 : xlk (xm_cd m_Dk_read) 54 = some (.aaload, 1, (0, 3, 0, [])) := rfl
theorem l_Dk_read_55 : xlk (xm_cd m_Dk_read) 55 = some (.invokevirtual 96, 3, (812, 27, 2, [])) := rfl
theorem l_Dk_read_58 : xlk (xm_cd m_Dk_read) 58 = some (.pop, 1, (0, 0, 0, [])) := rfl
theorem l_Dk_read_59 : xlk (xm_cd m_Dk_read) 59 = some (.iinc 3 1, 3, (0, 0, 0, [])) := rfl
theorem l_Dk_read_62 : xlk (xm_cd m_Dk_read) 62 = some (.goto (-46), 3, (0, 16, 0, [])) := rfl
theorem l_Dk_read_65 : xlk (xm_cd m_Dk_read) 65 = some (.aload_n 0, 1, (0, 0, 0, [])) := rfl
theorem l_Dk_read_66 : xlk (xm_cd m_Dk_read) 66 = some (.iconst (-1), 1, (0, 0, 0, [])) := rfl
theorem l_Dk_read_67 : xlk (xm_cd m_Dk_read) 67 = some (.putfield 39, 3, (250, 10, 5, [(0, 0)])) := rfl
theorem l_Dk_read_70 : xlk (xm_cd m_Dk_read) 70 = some (.aload_n 0, 1, (0, 0, 0, [])) := rfl
theorem l_Dk_read_71 : xlk (xm_cd m_Dk_read) 71 = some (.iconst 0, 1, (0, 0, 0, [])) := rfl
theorem l_Dk_read_72 : xlk (xm_cd m_Dk_read) 72 = some (.putfield 45, 3, (252, 10, 7, [(0, 2)])) := rfl
theorem l_Dk_read_75 : xlk (xm_cd m_Dk_read) 75 = some (.return_, 1, (0, 0, 0, [])) := rfl
def B_Dk_read_0 (d : Nat) (E : Option Value → xH → Prop) (f : xH) (a0 : Nat) (a1 : Nat) : Prop :=
  xgr f a0 10 2 (fun r1 => xgi f a0 10 4 (fun v2 => xrl f r1 7 v2 (fun r3 => (∃ fs, f a1 = some (xO 2 fs)) ∧ xSp xT0 d j_Tr_empty [.ref a1] f (fun w4 f5 => xvv w4 (xWp (xT0, xSp xT0 d, none, m_Dk_read, E) 16 [some (.ref a0), some (.ref a1), some (.ref r3), some (.int 0)] [] f5 0 0)))))
theorem b_Dk_read_0 {d : Nat} {E : Option Value → xH → Prop} {f : xH} {a0 : Nat} {a1 : Nat} (h : B_Dk_read_0 d E f a0 a1) : xWp (xT0, xSp xT0 d, none, m_Dk_read, E) 0 [some (.ref a0), some (.ref a1), none, none] [] f 0 0 := by
  unfold B_Dk_read_0 at h
  refine s_aln l_Dk_read_0 rfl ?_
  refine s_gr l_Dk_read_1 h (fun r1 h => ?_)
  refine s_aln l_Dk_read_4 rfl ?_
  refine s_gi l_Dk_read_5 h (fun v2 h => ?_)
  refine s_aal l_Dk_read_8 h (fun r3 h => ?_)
  refine s_asn l_Dk_read_9 (Nat.le_of_ble_eq_true rfl) ?_
  refine s_aln l_Dk_read_10 rfl ?_
  refine s_cvv (As := []) (r := []) l_Dk_read_11 rfl ⟨rfl, rfl⟩ rfl (Nat.le_of_ble_eq_true rfl) rfl ⟨Nat.zero_le _, Nat.zero_le _⟩ h (fun f5 h => ?_)
  refine s_ic 0 l_Dk_read_14 rfl ?_
  refine s_isn l_Dk_read_15 (Nat.le_of_ble_eq_true rfl) ?_
  exact h
def B_Dk_read_16 (d : Nat) (E : Option Value → xH → Prop) (f : xH) (a0 : Nat) (a1 : Nat) (a2 : Nat) (x3 : Int32) : Prop :=
  (∃ fs, f a2 = some (xO 9 fs)) ∧ xSp xT0 d j_Li_size [.ref a2] f (fun w1 f2 => xvi w1 (fun v3 => xbr (v3 ≤ x3) (xpf f2 a0 10 5 (.int (-1)) (fun f4 => xpf f4 a0 10 7 (.int 0) (fun f5 => E none f5))) (xgr f2 a2 9 1 (fun r6 => xal f2 r6 0 x3 (fun v7 => (∃ fs, f2 a0 = some (xO 10 fs)) ∧ xSp xT0 d j_Dk_isSlot [.ref a0, .int v7] f2 (fun w8 f9 => xvi w8 (fun v10 => xbr (v10 = 0) (xWp (xT0, xSp xT0 d, none, m_Dk_read, E) 16 [some (.ref a0), some (.ref a1), some (.ref a2), some (.int (x3 + 1))] [] f9 0 0) (xgr f9 a2 9 0 (fun r11 => xrl f9 r11 3 x3 (fun r12 => xgr f9 a0 10 0 (fun r13 => xgr f9 a2 9 1 (fun r14 => xal f9 r14 0 x3 (fun v15 => xrl f9 r13 3 v15 (fun r16 => (∃ fs, f9 a1 = some (xO 2 fs)) ∧ xSp xT0 d j_Tr_take [.ref a1, .ref r12, .ref r16] f9 (fun w17 f18 => xvi w17 (fun v19 => xWp (xT0, xSp xT0 d, none, m_Dk_read, E) 16 [some (.ref a0), some (.ref a1), some (.ref a2), some (.int (x3 + 1))] [] f18 0 0))))))))))))))))
theorem b_Dk_read_16 {d : Nat} {E : Option Value → xH → Prop} {f : xH} {a0 : Nat} {a1 : Nat} {a2 : Nat} {x3 : Int32} (h : B_Dk_read_16 d E f a0 a1 a2 x3) : xWp (xT0, xSp xT0 d, none, m_Dk_read, E) 16 [some (.ref a0), some (.ref a1), some (.ref a2), some (.int x3)] [] f 0 0 := by
  unfold B_Dk_read_16 at h
  refine s_iln l_Dk_read_16 rfl ?_
  refine s_aln l_Dk_read_17 rfl ?_
  refine s_cvi (As := []) (r := [.int x3]) l_Dk_read_18 rfl ⟨rfl, rfl⟩ rfl (Nat.le_of_ble_eq_true rfl) rfl ⟨Nat.zero_le _, Nat.zero_le _⟩ h (fun v3 f2 h => ?_)
  refine s_ifc l_Dk_read_21 h (fun h => ?_) (fun h => ?_)
  · refine s_aln l_Dk_read_65 rfl ?_
    refine s_ic (-1) l_Dk_read_66 rfl ?_
    refine s_pf l_Dk_read_67 ⟨_, rfl⟩ h (fun f4 h => ?_)
    refine s_aln l_Dk_read_70 rfl ?_
    refine s_ic 0 l_Dk_read_71 rfl ?_
    refine s_pf l_Dk_read_72 (Or.inl rfl) h (fun f5 h => ?_)
    exact s_ret l_Dk_read_75 ⟨Nat.zero_le _, Nat.zero_le _⟩ h
  · refine s_aln l_Dk_read_24 rfl ?_
    refine s_aln l_Dk_read_25 rfl ?_
    refine s_gr l_Dk_read_26 h (fun r6 h => ?_)
    refine s_iln l_Dk_read_29 rfl ?_
    refine s_ial l_Dk_read_30 rfl h (fun v7 h => ?_)
    refine s_cvi (As := [.int v7]) (r := []) l_Dk_read_31 rfl ⟨rfl, rfl⟩ rfl (Nat.le_of_ble_eq_true rfl) rfl ⟨Nat.zero_le _, Nat.zero_le _⟩ h (fun v10 f9 h => ?_)
    refine s_if l_Dk_read_34 h (fun h => ?_) (fun h => ?_)
    · refine s_inc 1 l_Dk_read_59 rfl rfl ?_
      refine s_goto l_Dk_read_62 ?_
      exact h
    · refine s_aln l_Dk_read_37 rfl ?_
      refine s_aln l_Dk_read_38 rfl ?_
      refine s_gr l_Dk_read_39 h (fun r11 h => ?_)
      refine s_iln l_Dk_read_42 rfl ?_
      refine s_aal l_Dk_read_43 h (fun r12 h => ?_)
      refine s_aln l_Dk_read_44 rfl ?_
      refine s_gr l_Dk_read_45 h (fun r13 h => ?_)
      refine s_aln l_Dk_read_48 rfl ?_
      refine s_gr l_Dk_read_49 h (fun r14 h => ?_)
      refine s_iln l_Dk_read_52 rfl ?_
      refine s_ial l_Dk_read_53 rfl h (fun v15 h => ?_)
      refine s_aal l_Dk_read_54 h (fun r16 h => ?_)
      refine s_cvi (As := [.ref r12, .ref r16]) (r := []) l_Dk_read_55 rfl ⟨rfl, rfl⟩ rfl (Nat.le_of_ble_eq_true rfl) rfl ⟨Nat.zero_le _, Nat.zero_le _⟩ h (fun v19 f18 h => ?_)
      refine s_pop l_Dk_read_58 rfl ?_
      refine s_inc 1 l_Dk_read_59 rfl rfl ?_
      refine s_goto l_Dk_read_62 ?_
      exact h
theorem l_Dk_tellSlot_0 : xlk (xm_cd m_Dk_tellSlot) 0 = some (.aload_n 0, 1, (0, 0, 0, [])) := rfl
theorem l_Dk_tellSlot_1 : xlk (xm_cd m_Dk_tellSlot) 1 = some (.iload_n 1, 1, (0, 0, 0, [])) := rfl
theorem l_Dk_tellSlot_2 : xlk (xm_cd m_Dk_tellSlot) 2 = some (.invokevirtual 89, 3, (770, 129, 1, [])) := rfl
theorem l_Dk_tellSlot_5 : xlk (xm_cd m_Dk_tellSlot) 5 = some (.ifCond .ne 5, 3, (0, 10, 0, [])) := rfl
theorem l_Dk_tellSlot_8 : xlk (xm_cd m_Dk_tellSlot) 8 = some (.iconst (-1), 1, (0, 0, 0, [])) := rfl
theorem l_Dk_tellSlot_9 : xlk (xm_cd m_Dk_tellSlot) 9 = some (.ireturn, 1, (0, 0, 0, [])) := rfl
theorem l_Dk_tellSlot_10 : xlk (xm_cd m_Dk_tellSlot) 10 = some (.iload_n 2, 1, (0, 0, 0, [])) := rfl
theorem l_Dk_tellSlot_11 : xlk (xm_cd m_Dk_tellSlot) 11 = some (.tableswitch 95 0 2 #[25, 49, 73], 25, (0, 106, 0, [(0, 36), (1, 60), (2, 84)])) := rfl
theorem l_Dk_tellSlot_36 : xlk (xm_cd m_Dk_tellSlot) 36 = some (.aload_n 0, 1, (0, 0, 0, [])) := rfl
theorem l_Dk_tellSlot_37 : xlk (xm_cd m_Dk_tellSlot) 37 = some (.getfield 20, 3, (246, 10, 1, [])) := rfl
theorem l_Dk_tellSlot_40 : xlk (xm_cd m_Dk_tellSlot) 40 = some (.iload_n 1, 1, (0, 0, 0, [])) := rfl
theorem l_Dk_tellSlot_41 : xlk (xm_cd m_Dk_tellSlot) 41 = some (.baload, 1, (0, 0, 0, [])) := rfl
theorem l_Dk_tellSlot_42 : xlk (xm_cd m_Dk_tellSlot) 42 = some (.ifCond .eq 15, 3, (0, 57, 0, [])) := rfl
theorem l_Dk_tellSlot_45 : xlk (xm_cd m_Dk_tellSlot) 45 = some (.aload_n 0, 1, (0, 0, 0, [])) := rfl
theorem l_Dk_tellSlot_46 : xlk (xm_cd m_Dk_tellSlot) 46 = some (.getfield 11, 3, (245, 10, 0, [])) := rfl
theorem l_Dk_tellSlot_49 : xlk (xm_cd m_Dk_tellSlot) 49 = some (.iload_n 1, 1, (0, 0, 0, [])) := rfl
theorem l_Dk_tellSlot_50 : xlk (xm_cd m_Dk_tellSlot) 50 = some (.aaload, 1, (0, 3, 0, [])) := rfl
theorem l_Dk_tellSlot_51 : xlk (xm_cd m_Dk_tellSlot) 51 = some (.invokevirtual 99, 3, (821, 12, 0, [])) := rfl
theorem l_Dk_tellSlot_54 : xlk (xm_cd m_Dk_tellSlot) 54 = some (.goto 5, 3, (0, 59, 0, [])) := rfl
theorem l_Dk_tellSlot_57 : xlk (xm_cd m_Dk_tellSlot) 57 = some (.bipush (-2), 2, (0, 0, 0, [])) := rfl
theorem l_Dk_tellSlot_59 : xlk (xm_cd m_Dk_tellSlot) 59 = some (.ireturn, 1, (0, 0, 0, [])) := rfl
theorem l_Dk_tellSlot_60 : xlk (xm_cd m_Dk_tellSlot) 60 = some (.aload_n 0, 1, (0, 0, 0, [])) := rfl
theorem l_Dk_tellSlot_61 : xlk (xm_cd m_Dk_tellSlot) 61 = some (.getfield 20, 3, (246, 10, 1, [])) := rfl
theorem l_Dk_tellSlot_64 : xlk (xm_cd m_Dk_tellSlot) 64 = some (.iload_n 1, 1, (0, 0, 0, [])) := rfl
theorem l_Dk_tellSlot_65 : xlk (xm_cd m_Dk_tellSlot) 65 = some (.baload, 1, (0, 0, 0, [])) := rfl
theorem l_Dk_tellSlot_66 : xlk (xm_cd m_Dk_tellSlot) 66 = some (.ifCond .eq 15, 3, (0, 81, 0, [])) := rfl
theorem l_Dk_tellSlot_69 : xlk (xm_cd m_Dk_tellSlot) 69 = some (.aload_n 0, 1, (0, 0, 0, [])) := rfl
theorem l_Dk_tellSlot_70 : xlk (xm_cd m_Dk_tellSlot) 70 = some (.getfield 11, 3, (245, 10, 0, [])) := rfl
theorem l_Dk_tellSlot_73 : xlk (xm_cd m_Dk_tellSlot) 73 = some (.iload_n 1, 1, (0, 0, 0, [])) := rfl
theorem l_Dk_tellSlot_74 : xlk (xm_cd m_Dk_tellSlot) 74 = some (.aaload, 1, (0, 3, 0, [])) := rfl
theorem l_Dk_tellSlot_75 : xlk (xm_cd m_Dk_tellSlot) 75 = some (.invokevirtual 100, 3, (822, 41, 0, [])) := rfl
theorem l_Dk_tellSlot_78 : xlk (xm_cd m_Dk_tellSlot) 78 = some (.goto 5, 3, (0, 83, 0, [])) := rfl
theorem l_Dk_tellSlot_81 : xlk (xm_cd m_Dk_tellSlot) 81 = some (.bipush (-2), 2, (0, 0, 0, [])) := rfl
theorem l_Dk_tellSlot_83 : xlk (xm_cd m_Dk_tellSlot) 83 = some (.ireturn, 1, (0, 0, 0, [])) := rfl
theorem l_Dk_tellSlot_84 : xlk (xm_cd m_Dk_tellSlot) 84 = some (.aload_n 0, 1, (0, 0, 0, [])) := rfl
theorem l_Dk_tellSlot_85 : xlk (xm_cd m_Dk_tellSlot) 85 = some (.getfield 26, 3, (247, 10, 2, [])) := rfl
theorem l_Dk_tellSlot_88 : xlk (xm_cd m_Dk_tellSlot) 88 = some (.aload_n 0, 1, (0, 0, 0, [])) := rfl
theorem l_Dk_tellSlot_89 : xlk (xm_cd m_Dk_tellSlot) 89 = some (.getfield 35, 3, (249, 10, 4, [])) := rfl
theorem l_Dk_tellSlot_92 : xlk (xm_cd m_Dk_tellSlot) 92 = some (.aaload, 1, (0, 7, 0, [])) := rfl
theorem l_Dk_tellSlot_93 : xlk (xm_cd m_Dk_tellSlot) 93 = some (.iload_n 1, 1, (0, 0, 0, [])) := rfl
theorem l_Dk_tellSlot_94 : xlk (xm_cd m_Dk_tellSlot) 94 = some (.invokevirtual 103, 3, (777, 131, 1, [])) := rfl
theorem l_Dk_tellSlot_97 : xlk (xm_cd m_Dk_tellSlot) 97 = some (.ifCond .eq 7, 3, (0, 104, 0, [])) := rfl
theorem l_Dk_tellSlot_100 : xlk (xm_cd m_Dk_tellSlot) 100 = some (.iconst 1, 1, (0, 0, 0, [])) := rfl
theorem l_Dk_tellSlot_101 : xlk (xm_cd m_Dk_tellSlot) 101 = some (.goto 4, 3, (0, 105, 0, [])) := rfl
theorem l_Dk_tellSlot_104 : xlk (xm_cd m_Dk_tellSlot) 104 = some (.iconst 0, 1, (0, 0, 0, [])) := rfl
theorem l_Dk_tellSlot_105 : xlk (xm_cd m_Dk_tellSlot) 105 = some (.ireturn, 1, (0, 0, 0, [])) := rfl
theorem l_Dk_tellSlot_106 : xlk (xm_cd m_Dk_tellSlot) 106 = some (.iconst (-1), 1, (0, 0, 0, [])) := rfl
theorem l_Dk_tellSlot_107 : xlk (xm_cd m_Dk_tellSlot) 107 = some (.ireturn, 1, (0, 0, 0, [])) := rfl
def B_Dk_tellSlot_0 (d : Nat) (E : Option Value → xH → Prop) (f : xH) (a0 : Nat) (x1 : Int32) (x2 : Int32) : Prop :=
  (∃ fs, f a0 = some (xO 10 fs)) ∧ xSp xT0 d j_Dk_isSlot [.ref a0, .int x1] f (fun w1 f2 => xvi w1 (fun v3 => xbr (¬ v3 = 0) (xbr (x2 = 0) (xgr f2 a0 10 1 (fun r4 => xal f2 r4 1 x1 (fun v5 => xbr (v5 = 0) (E (some (.int (-2))) f2) (xgr f2 a0 10 0 (fun r6 => xrl f2 r6 3 x1 (fun r7 => (∃ fs, f2 r7 = some (xO 1 fs)) ∧ xSp xT0 d j_By_size [.ref r7] f2 (fun w8 f9 => xvi w8 (fun v10 => E (some (.int v10)) f9)))))))) (xbr (x2 = 1) (xgr f2 a0 10 1 (fun r11 => xal f2 r11 1 x1 (fun v12 => xbr (v12 = 0) (E (some (.int (-2))) f2) (xgr f2 a0 10 0 (fun r13 => xrl f2 r13 3 x1 (fun r14 => (∃ fs, f2 r14 = some (xO 1 fs)) ∧ xSp xT0 d j_By_sum [.ref r14] f2 (fun w15 f16 => xvi w15 (fun v17 => E (some (.int v17)) f16)))))))) (xbr (x2 = 2) (xgr f2 a0 10 2 (fun r18 => xgi f2 a0 10 4 (fun v19 => xrl f2 r18 7 v19 (fun r20 => (∃ fs, f2 r20 = some (xO 9 fs)) ∧ xSp xT0 d j_Li_uses [.ref r20, .int x1] f2 (fun w21 f22 => xvi w21 (fun v23 => xbr (v23 = 0) (E (some (.int 0)) f22) (E (some (.int 1)) f22))))))) (E (some (.int (-1))) f2)))) (E (some (.int (-1))) f2)))
theorem b_Dk_tellSlot_0 {d : Nat} {E : Option Value → xH → Prop} {f : xH} {a0 : Nat} {x1 : Int32} {x2 : Int32} (h : B_Dk_tellSlot_0 d E f a0 x1 x2) : xWp (xT0, xSp xT0 d, none, m_Dk_tellSlot, E) 0 [some (.ref a0), some (.int x1), some (.int x2)] [] f 0 0 := by
  unfold B_Dk_tellSlot_0 at h
  refine s_aln l_Dk_tellSlot_0 rfl ?_
  refine s_iln l_Dk_tellSlot_1 rfl ?_
  refine s_cvi (As := [.int x1]) (r := []) l_Dk_tellSlot_2 rfl ⟨rfl, rfl⟩ rfl (Nat.le_of_ble_eq_true rfl) rfl ⟨Nat.zero_le _, Nat.zero_le _⟩ h (fun v3 f2 h => ?_)
  refine s_if l_Dk_tellSlot_5 h (fun h => ?_) (fun h => ?_)
  · refine s_iln l_Dk_tellSlot_10 rfl ?_
    refine s_ts l_Dk_tellSlot_11 ⟨fun q0 => ?_, fun n0 => ⟨fun q1 => ?_, fun n1 => ⟨fun q2 => ?_, fun n2 => ?_⟩⟩⟩
    · have h := (h).1 q0
      refine s_aln l_Dk_tellSlot_36 rfl ?_
      refine s_gr l_Dk_tellSlot_37 h (fun r4 h => ?_)
      refine s_iln l_Dk_tellSlot_40 rfl ?_
      refine s_bal l_Dk_tellSlot_41 (Or.inl rfl) h (fun v5 h => ?_)
      refine s_if l_Dk_tellSlot_42 h (fun h => ?_) (fun h => ?_)
      · refine s_bp (-2) l_Dk_tellSlot_57 rfl ?_
        exact s_iret l_Dk_tellSlot_59 rfl ⟨Nat.zero_le _, Nat.zero_le _⟩ h
      · refine s_aln l_Dk_tellSlot_45 rfl ?_
        refine s_gr l_Dk_tellSlot_46 h (fun r6 h => ?_)
        refine s_iln l_Dk_tellSlot_49 rfl ?_
        refine s_aal l_Dk_tellSlot_50 h (fun r7 h => ?_)
        refine s_cvi (As := []) (r := []) l_Dk_tellSlot_51 rfl ⟨rfl, rfl⟩ rfl (Nat.le_of_ble_eq_true rfl) rfl ⟨Nat.zero_le _, Nat.zero_le _⟩ h (fun v10 f9 h => ?_)
        refine s_goto l_Dk_tellSlot_54 ?_
        exact s_iret l_Dk_tellSlot_59 rfl ⟨Nat.zero_le _, Nat.zero_le _⟩ h
    · have h := ((h).2 n0).1 q1
      refine s_aln l_Dk_tellSlot_60 rfl ?_
      refine s_gr l_Dk_tellSlot_61 h (fun r11 h => ?_)
      refine s_iln l_Dk_tellSlot_64 rfl ?_
      refine s_bal l_Dk_tellSlot_65 (Or.inl rfl) h (fun v12 h => ?_)
      refine s_if l_Dk_tellSlot_66 h (fun h => ?_) (fun h => ?_)
      · refine s_bp (-2) l_Dk_tellSlot_81 rfl ?_
        exact s_iret l_Dk_tellSlot_83 rfl ⟨Nat.zero_le _, Nat.zero_le _⟩ h
      · refine s_aln l_Dk_tellSlot_69 rfl ?_
        refine s_gr l_Dk_tellSlot_70 h (fun r13 h => ?_)
        refine s_iln l_Dk_tellSlot_73 rfl ?_
        refine s_aal l_Dk_tellSlot_74 h (fun r14 h => ?_)
        refine s_cvi (As := []) (r := []) l_Dk_tellSlot_75 rfl ⟨rfl, rfl⟩ rfl (Nat.le_of_ble_eq_true rfl) rfl ⟨Nat.zero_le _, Nat.zero_le _⟩ h (fun v17 f16 h => ?_)
        refine s_goto l_Dk_tellSlot_78 ?_
        exact s_iret l_Dk_tellSlot_83 rfl ⟨Nat.zero_le _, Nat.zero_le _⟩ h
    · have h := (((h).2 n0).2 n1).1 q2
      refine s_aln l_Dk_tellSlot_84 rfl ?_
      refine s_gr l_Dk_tellSlot_85 h (fun r18 h => ?_)
      refine s_aln l_Dk_tellSlot_88 rfl ?_
      refine s_gi l_Dk_tellSlot_89 h (fun v19 h => ?_)
      refine s_aal l_Dk_tellSlot_92 h (fun r20 h => ?_)
      refine s_iln l_Dk_tellSlot_93 rfl ?_
      refine s_cvi (As := [.int x1]) (r := []) l_Dk_tellSlot_94 rfl ⟨rfl, rfl⟩ rfl (Nat.le_of_ble_eq_true rfl) rfl ⟨Nat.zero_le _, Nat.zero_le _⟩ h (fun v23 f22 h => ?_)
      refine s_if l_Dk_tellSlot_97 h (fun h => ?_) (fun h => ?_)
      · refine s_ic 0 l_Dk_tellSlot_104 rfl ?_
        exact s_iret l_Dk_tellSlot_105 rfl ⟨Nat.zero_le _, Nat.zero_le _⟩ h
      · refine s_ic 1 l_Dk_tellSlot_100 rfl ?_
        refine s_goto l_Dk_tellSlot_101 ?_
        exact s_iret l_Dk_tellSlot_105 rfl ⟨Nat.zero_le _, Nat.zero_le _⟩ h
    · have h := (((h).2 n0).2 n1).2 n2
      refine s_ic (-1) l_Dk_tellSlot_106 rfl ?_
      exact s_iret l_Dk_tellSlot_107 rfl ⟨Nat.zero_le _, Nat.zero_le _⟩ h
  · refine s_ic (-1) l_Dk_tellSlot_8 rfl ?_
    exact s_iret l_Dk_tellSlot_9 rfl ⟨Nat.zero_le _, Nat.zero_le _⟩ h
theorem l_Dk_listed_0 : xlk (xm_cd m_Dk_listed) 0 = some (.aload_n 0, 1, (0, 0, 0, [])) := rfl
theorem l_Dk_listed_1 : xlk (xm_cd m_Dk_listed) 1 = some (.getfield 26, 3, (247, 10, 2, [])) := rfl
theorem l_Dk_listed_4 : xlk (xm_cd m_Dk_listed) 4 = some (.aload_n 0, 1, (0, 0, 0, [])) := rfl
theorem l_Dk_listed_5 : xlk (xm_cd m_Dk_listed) 5 = some (.getfield 35, 3, (249, 10, 4, [])) := rfl
theorem l_Dk_listed_8 : xlk (xm_cd m_Dk_listed) 8 = some (.aaload, 1, (0, 7, 0, [])) := rfl
theorem l_Dk_listed_9 : xlk (xm_cd m_Dk_listed) 9 = some (.invokevirtual 49, 3, (808, 138, 0, [])) := rfl
theorem l_Dk_listed_12 : xlk (xm_cd m_Dk_listed) 12 = some (.ireturn, 1, (0, 0, 0, [])) := rfl
def B_Dk_listed_0 (d : Nat) (E : Option Value → xH → Prop) (f : xH) (a0 : Nat) : Prop :=
  xgr f a0 10 2 (fun r1 => xgi f a0 10 4 (fun v2 => xrl f r1 7 v2 (fun r3 => (∃ fs, f r3 = some (xO 9 fs)) ∧ xSp xT0 d j_Li_size [.ref r3] f (fun w4 f5 => xvi w4 (fun v6 => E (some (.int v6)) f5)))))
theorem b_Dk_listed_0 {d : Nat} {E : Option Value → xH → Prop} {f : xH} {a0 : Nat} (h : B_Dk_listed_0 d E f a0) : xWp (xT0, xSp xT0 d, none, m_Dk_listed, E) 0 [some (.ref a0)] [] f 0 0 := by
  unfold B_Dk_listed_0 at h
  refine s_aln l_Dk_listed_0 rfl ?_
  refine s_gr l_Dk_listed_1 h (fun r1 h => ?_)
  refine s_aln l_Dk_listed_4 rfl ?_
  refine s_gi l_Dk_listed_5 h (fun v2 h => ?_)
  refine s_aal l_Dk_listed_8 h (fun r3 h => ?_)
  refine s_cvi (As := []) (r := []) l_Dk_listed_9 rfl ⟨rfl, rfl⟩ rfl (Nat.le_of_ble_eq_true rfl) rfl ⟨Nat.zero_le _, Nat.zero_le _⟩ h (fun v6 f5 h => ?_)
  exact s_iret l_Dk_listed_12 rfl ⟨Nat.zero_le _, Nat.zero_le _⟩ h
theorem l_Dk_writings_0 : xlk (xm_cd m_Dk_writings) 0 = some (.aload_n 0, 1, (0, 0, 0, [])) := rfl
theorem l_Dk_writings_1 : xlk (xm_cd m_Dk_writings) 1 = some (.getfield 42, 3, (251, 10, 6, [])) := rfl
theorem l_Dk_writings_4 : xlk (xm_cd m_Dk_writings) 4 = some (.ireturn, 1, (0, 0, 0, [])) := rfl
def B_Dk_writings_0 (d : Nat) (E : Option Value → xH → Prop) (f : xH) (a0 : Nat) : Prop :=
  xgi f a0 10 6 (fun v1 => E (some (.int v1)) f)
theorem b_Dk_writings_0 {d : Nat} {E : Option Value → xH → Prop} {f : xH} {a0 : Nat} (h : B_Dk_writings_0 d E f a0) : xWp (xT0, xSp xT0 d, none, m_Dk_writings, E) 0 [some (.ref a0)] [] f 0 0 := by
  unfold B_Dk_writings_0 at h
  refine s_aln l_Dk_writings_0 rfl ?_
  refine s_gi l_Dk_writings_1 h (fun v1 h => ?_)
  exact s_iret l_Dk_writings_4 rfl ⟨Nat.zero_le _, Nat.zero_le _⟩ h
theorem l_Dk_isDown_0 : xlk (xm_cd m_Dk_isDown) 0 = some (.aload_n 0, 1, (0, 0, 0, [])) := rfl
theorem l_Dk_isDown_1 : xlk (xm_cd m_Dk_isDown) 1 = some (.getfield 45, 3, (252, 10, 7, [])) := rfl
theorem l_Dk_isDown_4 : xlk (xm_cd m_Dk_isDown) 4 = some (.ireturn, 1, (0, 0, 0, [])) := rfl
def B_Dk_isDown_0 (d : Nat) (E : Option Value → xH → Prop) (f : xH) (a0 : Nat) : Prop :=
  xgi f a0 10 7 (fun v1 => (v1 = 0 ∨ v1 = 1) ∧ E (some (.int v1)) f)
theorem b_Dk_isDown_0 {d : Nat} {E : Option Value → xH → Prop} {f : xH} {a0 : Nat} (h : B_Dk_isDown_0 d E f a0) : xWp (xT0, xSp xT0 d, none, m_Dk_isDown, E) 0 [some (.ref a0)] [] f 0 0 := by
  unfold B_Dk_isDown_0 at h
  refine s_aln l_Dk_isDown_0 rfl ?_
  refine s_gi l_Dk_isDown_1 h (fun v1 h => ?_)
  exact s_zret l_Dk_isDown_4 rfl ⟨Nat.zero_le _, Nat.zero_le _⟩ h
theorem l_Dk_counting_0 : xlk (xm_cd m_Dk_counting) 0 = some (.aload_n 0, 1, (0, 0, 0, [])) := rfl
theorem l_Dk_counting_1 : xlk (xm_cd m_Dk_counting) 1 = some (.getfield 35, 3, (249, 10, 4, [])) := rfl
theorem l_Dk_counting_4 : xlk (xm_cd m_Dk_counting) 4 = some (.ireturn, 1, (0, 0, 0, [])) := rfl
def B_Dk_counting_0 (d : Nat) (E : Option Value → xH → Prop) (f : xH) (a0 : Nat) : Prop :=
  xgi f a0 10 4 (fun v1 => E (some (.int v1)) f)
theorem b_Dk_counting_0 {d : Nat} {E : Option Value → xH → Prop} {f : xH} {a0 : Nat} (h : B_Dk_counting_0 d E f a0) : xWp (xT0, xSp xT0 d, none, m_Dk_counting, E) 0 [some (.ref a0)] [] f 0 0 := by
  unfold B_Dk_counting_0 at h
  refine s_aln l_Dk_counting_0 rfl ?_
  refine s_gi l_Dk_counting_1 h (fun v1 h => ?_)
  exact s_iret l_Dk_counting_4 rfl ⟨Nat.zero_le _, Nat.zero_le _⟩ h
