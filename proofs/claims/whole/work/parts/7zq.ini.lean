/-! blocks of the constructors -/
theorem l_PC_init_0 : xlk (xm_cd m_PC_init) 0 = some (.aload_n 0, 1, (0, 0, 0, [])) := rfl
theorem l_PC_init_1 : xlk (xm_cd m_PC_init) 1 = some (.invokespecial 1, 3, (94, 0, 0, [(2, 0)])) := rfl
theorem l_PC_init_4 : xlk (xm_cd m_PC_init) 4 = some (.aload_n 0, 1, (0, 0, 0, [])) := rfl
theorem l_PC_init_5 : xlk (xm_cd m_PC_init) 5 = some (.new 7, 3, (97, 1, 2, [(0, 1), (0, 0)])) := rfl
theorem l_PC_init_8 : xlk (xm_cd m_PC_init) 8 = some (.dup, 1, (0, 0, 0, [])) := rfl
theorem l_PC_init_9 : xlk (xm_cd m_PC_init) 9 = some (.bipush 80, 2, (0, 0, 0, [])) := rfl
theorem l_PC_init_11 : xlk (xm_cd m_PC_init) 11 = some (.invokespecial 11, 3, (99, 1, 1, [])) := rfl
theorem l_PC_init_14 : xlk (xm_cd m_PC_init) 14 = some (.putfield 14, 3, (261, 0, 0, [(0, 1)])) := rfl
theorem l_PC_init_17 : xlk (xm_cd m_PC_init) 17 = some (.aload_n 0, 1, (0, 0, 0, [])) := rfl
theorem l_PC_init_18 : xlk (xm_cd m_PC_init) 18 = some (.new 7, 3, (97, 1, 2, [(0, 1), (0, 0)])) := rfl
theorem l_PC_init_21 : xlk (xm_cd m_PC_init) 21 = some (.dup, 1, (0, 0, 0, [])) := rfl
theorem l_PC_init_22 : xlk (xm_cd m_PC_init) 22 = some (.bipush 17, 2, (0, 0, 0, [])) := rfl
theorem l_PC_init_24 : xlk (xm_cd m_PC_init) 24 = some (.invokespecial 11, 3, (99, 1, 1, [])) := rfl
theorem l_PC_init_27 : xlk (xm_cd m_PC_init) 27 = some (.putfield 18, 3, (262, 0, 1, [(0, 1)])) := rfl
theorem l_PC_init_30 : xlk (xm_cd m_PC_init) 30 = some (.aload_n 0, 1, (0, 0, 0, [])) := rfl
theorem l_PC_init_31 : xlk (xm_cd m_PC_init) 31 = some (.bipush 12, 2, (0, 0, 0, [])) := rfl
theorem l_PC_init_33 : xlk (xm_cd m_PC_init) 33 = some (.anewarray 21, 3, (111, 4, 0, [])) := rfl
theorem l_PC_init_36 : xlk (xm_cd m_PC_init) 36 = some (.putfield 23, 3, (263, 0, 2, [(0, 1)])) := rfl
theorem l_PC_init_39 : xlk (xm_cd m_PC_init) 39 = some (.iconst 0, 1, (0, 0, 0, [])) := rfl
theorem l_PC_init_40 : xlk (xm_cd m_PC_init) 40 = some (.istore_n 1, 1, (0, 0, 0, [])) := rfl
theorem l_PC_init_41 : xlk (xm_cd m_PC_init) 41 = some (.iload_n 1, 1, (0, 0, 0, [])) := rfl
theorem l_PC_init_42 : xlk (xm_cd m_PC_init) 42 = some (.bipush 12, 2, (0, 0, 0, [])) := rfl
theorem l_PC_init_44 : xlk (xm_cd m_PC_init) 44 = some (.if_icmp .ge 22, 3, (0, 66, 0, [])) := rfl
theorem l_PC_init_47 : xlk (xm_cd m_PC_init) 47 = some (.aload_n 0, 1, (0, 0, 0, [])) := rfl
theorem l_PC_init_48 : xlk (xm_cd m_PC_init) 48 = some (.getfield 23, 3, (263, 0, 2, [])) := rfl
theorem l_PC_init_51 : xlk (xm_cd m_PC_init) 51 = some (.iload_n 1, 1, (0, 0, 0, [])) := rfl
theorem l_PC_init_52 : xlk (xm_cd m_PC_init) 52 = some (.new 21, 3, (111, 2, 4, [(0, 1), (0, 1), (0, 1), (0, 0)])) := rfl
theorem l_PC_init_55 : xlk (xm_cd m_PC_init) 55 = some (.dup, 1, (0, 0, 0, [])) := rfl
theorem l_PC_init_56 : xlk (xm_cd m_PC_init) 56 = some (.invokespecial 27, 3, (113, 2, 0, [])) := rfl
theorem l_PC_init_59 : xlk (xm_cd m_PC_init) 59 = some (.aastore, 1, (0, 4, 2, [])) := rfl
theorem l_PC_init_60 : xlk (xm_cd m_PC_init) 60 = some (.iinc 1 1, 3, (0, 0, 0, [])) := rfl
theorem l_PC_init_63 : xlk (xm_cd m_PC_init) 63 = some (.goto (-22), 3, (0, 41, 0, [])) := rfl
theorem l_PC_init_66 : xlk (xm_cd m_PC_init) 66 = some (.aload_n 0, 1, (0, 0, 0, [])) := rfl
theorem l_PC_init_67 : xlk (xm_cd m_PC_init) 67 = some (.bipush 8, 2, (0, 0, 0, [])) := rfl
theorem l_PC_init_69 : xlk (xm_cd m_PC_init) 69 = some (.anewarray 28, 3, (127, 6, 0, [])) := rfl
theorem l_PC_init_72 : xlk (xm_cd m_PC_init) 72 = some (.putfield 30, 3, (264, 0, 3, [(0, 1)])) := rfl
theorem l_PC_init_75 : xlk (xm_cd m_PC_init) 75 = some (.iconst 0, 1, (0, 0, 0, [])) := rfl
theorem l_PC_init_76 : xlk (xm_cd m_PC_init) 76 = some (.istore_n 1, 1, (0, 0, 0, [])) := rfl
theorem l_PC_init_77 : xlk (xm_cd m_PC_init) 77 = some (.iload_n 1, 1, (0, 0, 0, [])) := rfl
theorem l_PC_init_78 : xlk (xm_cd m_PC_init) 78 = some (.bipush 8, 2, (0, 0, 0, [])) := rfl
theorem l_PC_init_80 : xlk (xm_cd m_PC_init) 80 = some (.if_icmp .ge 22, 3, (0, 102, 0, [])) := rfl
theorem l_PC_init_83 : xlk (xm_cd m_PC_init) 83 = some (.aload_n 0, 1, (0, 0, 0, [])) := rfl
theorem l_PC_init_84 : xlk (xm_cd m_PC_init) 84 = some (.getfield 30, 3, (264, 0, 3, [])) := rfl
theorem l_PC_init_87 : xlk (xm_cd m_PC_init) 87 = some (.iload_n 1, 1, (0, 0, 0, [])) := rfl
theorem l_PC_init_88 : xlk (xm_cd m_PC_init) 88 = some (.new 28, 3, (127, 5, 2, [(0, 1), (0, 0)])) := rfl
theorem l_PC_init_91 : xlk (xm_cd m_PC_init) 91 = some (.dup, 1, (0, 0, 0, [])) := rfl
theorem l_PC_init_92 : xlk (xm_cd m_PC_init) 92 = some (.invokespecial 34, 3, (129, 3, 0, [])) := rfl
theorem l_PC_init_95 : xlk (xm_cd m_PC_init) 95 = some (.aastore, 1, (0, 6, 5, [])) := rfl
theorem l_PC_init_96 : xlk (xm_cd m_PC_init) 96 = some (.iinc 1 1, 3, (0, 0, 0, [])) := rfl
theorem l_PC_init_99 : xlk (xm_cd m_PC_init) 99 = some (.goto (-22), 3, (0, 77, 0, [])) := rfl
theorem l_PC_init_102 : xlk (xm_cd m_PC_init) 102 = some (.aload_n 0, 1, (0, 0, 0, [])) := rfl
theorem l_PC_init_103 : xlk (xm_cd m_PC_init) 103 = some (.new 35, 3, (173, 7, 5, [(0, 1), (0, 1), (0, 1), (0, 1), (0, 1)])) := rfl
theorem l_PC_init_106 : xlk (xm_cd m_PC_init) 106 = some (.dup, 1, (0, 0, 0, [])) := rfl
theorem l_PC_init_107 : xlk (xm_cd m_PC_init) 107 = some (.invokespecial 37, 3, (175, 6, 0, [])) := rfl
theorem l_PC_init_110 : xlk (xm_cd m_PC_init) 110 = some (.putfield 38, 3, (265, 0, 4, [(0, 1)])) := rfl
theorem l_PC_init_113 : xlk (xm_cd m_PC_init) 113 = some (.aload_n 0, 1, (0, 0, 0, [])) := rfl
theorem l_PC_init_114 : xlk (xm_cd m_PC_init) 114 = some (.new 42, 3, (205, 8, 5, [(0, 1), (0, 1), (0, 1), (0, 1), (0, 0)])) := rfl
theorem l_PC_init_117 : xlk (xm_cd m_PC_init) 117 = some (.dup, 1, (0, 0, 0, [])) := rfl
theorem l_PC_init_118 : xlk (xm_cd m_PC_init) 118 = some (.invokespecial 44, 3, (207, 8, 0, [])) := rfl
theorem l_PC_init_121 : xlk (xm_cd m_PC_init) 121 = some (.putfield 45, 3, (266, 0, 5, [(0, 1)])) := rfl
theorem l_PC_init_124 : xlk (xm_cd m_PC_init) 124 = some (.aload_n 0, 1, (0, 0, 0, [])) := rfl
theorem l_PC_init_125 : xlk (xm_cd m_PC_init) 125 = some (.new 49, 3, (223, 10, 8, [(0, 1), (0, 1), (0, 1), (0, 1), (0, 0), (0, 0), (0, 0), (0, 2)])) := rfl
theorem l_PC_init_128 : xlk (xm_cd m_PC_init) 128 = some (.dup, 1, (0, 0, 0, [])) := rfl
theorem l_PC_init_129 : xlk (xm_cd m_PC_init) 129 = some (.invokespecial 51, 3, (225, 9, 0, [])) := rfl
theorem l_PC_init_132 : xlk (xm_cd m_PC_init) 132 = some (.putfield 52, 3, (267, 0, 6, [(0, 1)])) := rfl
theorem l_PC_init_135 : xlk (xm_cd m_PC_init) 135 = some (.aload_n 0, 1, (0, 0, 0, [])) := rfl
theorem l_PC_init_136 : xlk (xm_cd m_PC_init) 136 = some (.iconst 0, 1, (0, 0, 0, [])) := rfl
theorem l_PC_init_137 : xlk (xm_cd m_PC_init) 137 = some (.putfield 56, 3, (268, 0, 7, [(0, 0)])) := rfl
theorem l_PC_init_140 : xlk (xm_cd m_PC_init) 140 = some (.aload_n 0, 1, (0, 0, 0, [])) := rfl
theorem l_PC_init_141 : xlk (xm_cd m_PC_init) 141 = some (.iconst 0, 1, (0, 0, 0, [])) := rfl
theorem l_PC_init_142 : xlk (xm_cd m_PC_init) 142 = some (.putfield 60, 3, (269, 0, 8, [(0, 0)])) := rfl
theorem l_PC_init_145 : xlk (xm_cd m_PC_init) 145 = some (.return_, 1, (0, 0, 0, [])) := rfl
def B_PC_init_0 (d : Nat) (E : Option Value → xH → Prop) (f : xH) (a0 : Nat) : Prop :=
  (1 ≤ 2499 ∧ 2 ≤ 80719) ∧ xnw f (xO 1 [.null, .int 0]) (fun q1 f2 => (2 ≤ 2499 ∧ 82 ≤ 80719) ∧ xSp xT0 d j_By_init [.ref q1, .int 80] f2 (fun w3 f4 => xvv w3 (xpf f4 a0 0 0 (.ref q1) (fun f5 => (3 ≤ 2499 ∧ 84 ≤ 80719) ∧ xnw f5 (xO 1 [.null, .int 0]) (fun q6 f7 => (4 ≤ 2499 ∧ 164 ≤ 80719) ∧ xSp xT0 d j_By_init [.ref q6, .int 17] f7 (fun w8 f9 => xvv w8 (xpf f9 a0 0 1 (.ref q6) (fun f10 => (5 ≤ 2499 ∧ 176 ≤ 80719) ∧ xnw f10 (xR 4 12 (fun _ => none)) (fun q11 f12 => xpf f12 a0 0 2 (.ref q11) (fun f13 => xWp (xT0, xSp xT0 d, none, m_PC_init, E) 41 [some (.ref a0), some (.int 0)] [] f13 5 176))))))))))
theorem b_PC_init_0 {d : Nat} {E : Option Value → xH → Prop} {f : xH} {a0 : Nat} (h : B_PC_init_0 d E f a0) : xWp (xT0, xSp xT0 d, none, m_PC_init, E) 0 [some (.ref a0), none] [] f 0 0 := by
  unfold B_PC_init_0 at h
  refine s_aln l_PC_init_0 rfl ?_
  refine s_spo l_PC_init_1 (Nat.le_of_ble_eq_true rfl) ?_
  refine s_aln l_PC_init_4 rfl ?_
  refine s_new 2 l_PC_init_5 rfl rfl h.1.1 h.1.2 h.2 (fun q1 f2 h => ?_)
  refine s_dup l_PC_init_8 rfl ?_
  refine s_bp 80 l_PC_init_9 rfl ?_
  refine s_csp (As := [.int 80]) (r := [.ref q1, .ref a0]) (mc := 1) (ms := 80) l_PC_init_11 rfl ⟨rfl, rfl⟩ rfl (Nat.le_of_ble_eq_true rfl) rfl h.1.1 h.1.2 h.2 (fun f4 h => ?_)
  refine s_pf l_PC_init_14 (Or.inr ⟨_, rfl⟩) h (fun f5 h => ?_)
  refine s_aln l_PC_init_17 rfl ?_
  refine s_new 2 l_PC_init_18 rfl rfl h.1.1 h.1.2 h.2 (fun q6 f7 h => ?_)
  refine s_dup l_PC_init_21 rfl ?_
  refine s_bp 17 l_PC_init_22 rfl ?_
  refine s_csp (As := [.int 17]) (r := [.ref q6, .ref a0]) (mc := 1) (ms := 80) l_PC_init_24 rfl ⟨rfl, rfl⟩ rfl (Nat.le_of_ble_eq_true rfl) rfl h.1.1 h.1.2 h.2 (fun f9 h => ?_)
  refine s_pf l_PC_init_27 (Or.inr ⟨_, rfl⟩) h (fun f10 h => ?_)
  refine s_aln l_PC_init_30 rfl ?_
  refine s_bp 12 l_PC_init_31 rfl ?_
  refine s_ana 12 l_PC_init_33 (by decide) (by decide) (by decide) h.1.1 h.1.2 h.2 (fun q11 f12 h => ?_)
  refine s_pf l_PC_init_36 (Or.inr ⟨_, rfl⟩) h (fun f13 h => ?_)
  refine s_ic 0 l_PC_init_39 rfl ?_
  refine s_isn l_PC_init_40 (Nat.le_of_ble_eq_true rfl) ?_
  exact h
def B_PC_init_41 (d : Nat) (E : Option Value → xH → Prop) (f : xH) (cu su : Nat) (a0 : Nat) (x1 : Int32) : Prop :=
  xbr ((12 : Int32) ≤ x1) ((cu + 1 ≤ 2499 ∧ su + 8 ≤ 80719) ∧ xnw f (xR 6 8 (fun _ => none)) (fun q1 f2 => xpf f2 a0 0 3 (.ref q1) (fun f3 => xWp (xT0, xSp xT0 d, none, m_PC_init, E) 77 [some (.ref a0), some (.int 0)] [] f3 (cu + 1) (su + 8)))) (xgr f a0 0 2 (fun r4 => (cu + 1 ≤ 2499 ∧ su + 4 ≤ 80719) ∧ xnw f (xO 2 [.null, .null, .null, .int 0]) (fun q5 f6 => (cu + 45 ≤ 2499 ∧ su + 1746 ≤ 80719) ∧ xSp xT0 d j_Tr_init [.ref q5] f6 (fun w7 f8 => xvv w7 (xrs f8 r4 4 2 x1 q5 (fun f9 => xWp (xT0, xSp xT0 d, none, m_PC_init, E) 41 [some (.ref a0), some (.int (x1 + 1))] [] f9 (cu + 45) (su + 1746)))))))
theorem b_PC_init_41 {d : Nat} {E : Option Value → xH → Prop} {f : xH} {cu su : Nat} {a0 : Nat} {x1 : Int32} (h : B_PC_init_41 d E f cu su a0 x1) : xWp (xT0, xSp xT0 d, none, m_PC_init, E) 41 [some (.ref a0), some (.int x1)] [] f cu su := by
  unfold B_PC_init_41 at h
  refine s_iln l_PC_init_41 rfl ?_
  refine s_bp 12 l_PC_init_42 rfl ?_
  refine s_ifc l_PC_init_44 h (fun h => ?_) (fun h => ?_)
  · refine s_aln l_PC_init_66 rfl ?_
    refine s_bp 8 l_PC_init_67 rfl ?_
    refine s_ana 8 l_PC_init_69 (by decide) (by decide) (by decide) h.1.1 h.1.2 h.2 (fun q1 f2 h => ?_)
    refine s_pf l_PC_init_72 (Or.inr ⟨_, rfl⟩) h (fun f3 h => ?_)
    refine s_ic 0 l_PC_init_75 rfl ?_
    refine s_isn l_PC_init_76 (Nat.le_of_ble_eq_true rfl) ?_
    exact h
  · refine s_aln l_PC_init_47 rfl ?_
    refine s_gr l_PC_init_48 h (fun r4 h => ?_)
    refine s_iln l_PC_init_51 rfl ?_
    refine s_new 4 l_PC_init_52 rfl rfl h.1.1 h.1.2 h.2 (fun q5 f6 h => ?_)
    refine s_dup l_PC_init_55 rfl ?_
    refine s_csp (As := []) (r := [.ref q5, .int x1, .ref r4]) (mc := 44) (ms := 1742) l_PC_init_56 rfl ⟨rfl, rfl⟩ rfl (Nat.le_of_ble_eq_true rfl) rfl h.1.1 h.1.2 h.2 (fun f8 h => ?_)
    refine s_aast l_PC_init_59 h (fun f9 h => ?_)
    refine s_inc 1 l_PC_init_60 rfl rfl ?_
    refine s_goto l_PC_init_63 ?_
    exact h
def B_PC_init_77 (d : Nat) (E : Option Value → xH → Prop) (f : xH) (cu su : Nat) (a0 : Nat) (x1 : Int32) : Prop :=
  xbr ((8 : Int32) ≤ x1) ((cu + 1 ≤ 2499 ∧ su + 5 ≤ 80719) ∧ xnw f (xO 7 [.null, .null, .null, .null, .null]) (fun q1 f2 => (cu + 20 ≤ 2499 ∧ su + 382 ≤ 80719) ∧ xSp xT0 d j_Di_init [.ref q1] f2 (fun w3 f4 => xvv w3 (xpf f4 a0 0 4 (.ref q1) (fun f5 => (cu + 21 ≤ 2499 ∧ su + 387 ≤ 80719) ∧ xnw f5 (xO 8 [.null, .null, .null, .null, .int 0]) (fun q6 f7 => (cu + 26 ≤ 2499 ∧ su + 541 ≤ 80719) ∧ xSp xT0 d j_Ap_init [.ref q6] f7 (fun w8 f9 => xvv w8 (xpf f9 a0 0 5 (.ref q6) (fun f10 => (cu + 27 ≤ 2499 ∧ su + 549 ≤ 80719) ∧ xnw f10 (xO 10 [.null, .null, .null, .null, .int 0, .int 0, .int 0, .int 0]) (fun q11 f12 => (cu + 137 ≤ 2499 ∧ su + 4767 ≤ 80719) ∧ xSp xT0 d j_Dk_init [.ref q11] f12 (fun w13 f14 => xvv w13 (xpf f14 a0 0 6 (.ref q11) (fun f15 => xpf f15 a0 0 7 (.int 0) (fun f16 => xpf f16 a0 0 8 (.int 0) (fun f17 => (cu + 137 ≤ 2499 ∧ su + 4767 ≤ 80719) ∧ E none f17))))))))))))))) (xgr f a0 0 3 (fun r18 => (cu + 1 ≤ 2499 ∧ su + 2 ≤ 80719) ∧ xnw f (xO 5 [.null, .int 0]) (fun q19 f20 => (cu + 227 ≤ 2499 ∧ su + 6852 ≤ 80719) ∧ xSp xT0 d j_Pa_init [.ref q19] f20 (fun w21 f22 => xvv w21 (xrs f22 r18 6 5 x1 q19 (fun f23 => xWp (xT0, xSp xT0 d, none, m_PC_init, E) 77 [some (.ref a0), some (.int (x1 + 1))] [] f23 (cu + 227) (su + 6852)))))))
theorem b_PC_init_77 {d : Nat} {E : Option Value → xH → Prop} {f : xH} {cu su : Nat} {a0 : Nat} {x1 : Int32} (h : B_PC_init_77 d E f cu su a0 x1) : xWp (xT0, xSp xT0 d, none, m_PC_init, E) 77 [some (.ref a0), some (.int x1)] [] f cu su := by
  unfold B_PC_init_77 at h
  refine s_iln l_PC_init_77 rfl ?_
  refine s_bp 8 l_PC_init_78 rfl ?_
  refine s_ifc l_PC_init_80 h (fun h => ?_) (fun h => ?_)
  · refine s_aln l_PC_init_102 rfl ?_
    refine s_new 5 l_PC_init_103 rfl rfl h.1.1 h.1.2 h.2 (fun q1 f2 h => ?_)
    refine s_dup l_PC_init_106 rfl ?_
    refine s_csp (As := []) (r := [.ref q1, .ref a0]) (mc := 19) (ms := 377) l_PC_init_107 rfl ⟨rfl, rfl⟩ rfl (Nat.le_of_ble_eq_true rfl) rfl h.1.1 h.1.2 h.2 (fun f4 h => ?_)
    refine s_pf l_PC_init_110 (Or.inr ⟨_, rfl⟩) h (fun f5 h => ?_)
    refine s_aln l_PC_init_113 rfl ?_
    refine s_new 5 l_PC_init_114 rfl rfl h.1.1 h.1.2 h.2 (fun q6 f7 h => ?_)
    refine s_dup l_PC_init_117 rfl ?_
    refine s_csp (As := []) (r := [.ref q6, .ref a0]) (mc := 5) (ms := 154) l_PC_init_118 rfl ⟨rfl, rfl⟩ rfl (Nat.le_of_ble_eq_true rfl) rfl h.1.1 h.1.2 h.2 (fun f9 h => ?_)
    refine s_pf l_PC_init_121 (Or.inr ⟨_, rfl⟩) h (fun f10 h => ?_)
    refine s_aln l_PC_init_124 rfl ?_
    refine s_new 8 l_PC_init_125 rfl rfl h.1.1 h.1.2 h.2 (fun q11 f12 h => ?_)
    refine s_dup l_PC_init_128 rfl ?_
    refine s_csp (As := []) (r := [.ref q11, .ref a0]) (mc := 110) (ms := 4218) l_PC_init_129 rfl ⟨rfl, rfl⟩ rfl (Nat.le_of_ble_eq_true rfl) rfl h.1.1 h.1.2 h.2 (fun f14 h => ?_)
    refine s_pf l_PC_init_132 (Or.inr ⟨_, rfl⟩) h (fun f15 h => ?_)
    refine s_aln l_PC_init_135 rfl ?_
    refine s_ic 0 l_PC_init_136 rfl ?_
    refine s_pf l_PC_init_137 ⟨_, rfl⟩ h (fun f16 h => ?_)
    refine s_aln l_PC_init_140 rfl ?_
    refine s_ic 0 l_PC_init_141 rfl ?_
    refine s_pf l_PC_init_142 ⟨_, rfl⟩ h (fun f17 h => ?_)
    exact s_ret l_PC_init_145 h.1 h.2
  · refine s_aln l_PC_init_83 rfl ?_
    refine s_gr l_PC_init_84 h (fun r18 h => ?_)
    refine s_iln l_PC_init_87 rfl ?_
    refine s_new 2 l_PC_init_88 rfl rfl h.1.1 h.1.2 h.2 (fun q19 f20 h => ?_)
    refine s_dup l_PC_init_91 rfl ?_
    refine s_csp (As := []) (r := [.ref q19, .int x1, .ref r18]) (mc := 226) (ms := 6850) l_PC_init_92 rfl ⟨rfl, rfl⟩ rfl (Nat.le_of_ble_eq_true rfl) rfl h.1.1 h.1.2 h.2 (fun f22 h => ?_)
    refine s_aast l_PC_init_95 h (fun f23 h => ?_)
    refine s_inc 1 l_PC_init_96 rfl rfl ?_
    refine s_goto l_PC_init_99 ?_
    exact h
theorem l_Tr_init_0 : xlk (xm_cd m_Tr_init) 0 = some (.aload_n 0, 1, (0, 0, 0, [])) := rfl
theorem l_Tr_init_1 : xlk (xm_cd m_Tr_init) 1 = some (.invokespecial 3, 3, (116, 0, 0, [(2, 0)])) := rfl
theorem l_Tr_init_4 : xlk (xm_cd m_Tr_init) 4 = some (.aload_n 0, 1, (0, 0, 0, [])) := rfl
theorem l_Tr_init_5 : xlk (xm_cd m_Tr_init) 5 = some (.bipush 10, 2, (0, 0, 0, [])) := rfl
theorem l_Tr_init_7 : xlk (xm_cd m_Tr_init) 7 = some (.anewarray 9, 3, (117, 3, 0, [])) := rfl
theorem l_Tr_init_10 : xlk (xm_cd m_Tr_init) 10 = some (.putfield 11, 3, (119, 2, 0, [(0, 1)])) := rfl
theorem l_Tr_init_13 : xlk (xm_cd m_Tr_init) 13 = some (.aload_n 0, 1, (0, 0, 0, [])) := rfl
theorem l_Tr_init_14 : xlk (xm_cd m_Tr_init) 14 = some (.bipush 10, 2, (0, 0, 0, [])) := rfl
theorem l_Tr_init_16 : xlk (xm_cd m_Tr_init) 16 = some (.anewarray 9, 3, (117, 3, 0, [])) := rfl
theorem l_Tr_init_19 : xlk (xm_cd m_Tr_init) 19 = some (.putfield 17, 3, (120, 2, 1, [(0, 1)])) := rfl
theorem l_Tr_init_22 : xlk (xm_cd m_Tr_init) 22 = some (.iconst 0, 1, (0, 0, 0, [])) := rfl
theorem l_Tr_init_23 : xlk (xm_cd m_Tr_init) 23 = some (.istore_n 1, 1, (0, 0, 0, [])) := rfl
theorem l_Tr_init_24 : xlk (xm_cd m_Tr_init) 24 = some (.iload_n 1, 1, (0, 0, 0, [])) := rfl
theorem l_Tr_init_25 : xlk (xm_cd m_Tr_init) 25 = some (.bipush 10, 2, (0, 0, 0, [])) := rfl
theorem l_Tr_init_27 : xlk (xm_cd m_Tr_init) 27 = some (.if_icmp .ge 39, 3, (0, 66, 0, [])) := rfl
theorem l_Tr_init_30 : xlk (xm_cd m_Tr_init) 30 = some (.aload_n 0, 1, (0, 0, 0, [])) := rfl
theorem l_Tr_init_31 : xlk (xm_cd m_Tr_init) 31 = some (.getfield 11, 3, (119, 2, 0, [])) := rfl
theorem l_Tr_init_34 : xlk (xm_cd m_Tr_init) 34 = some (.iload_n 1, 1, (0, 0, 0, [])) := rfl
theorem l_Tr_init_35 : xlk (xm_cd m_Tr_init) 35 = some (.new 9, 3, (117, 1, 2, [(0, 1), (0, 0)])) := rfl
theorem l_Tr_init_38 : xlk (xm_cd m_Tr_init) 38 = some (.dup, 1, (0, 0, 0, [])) := rfl
theorem l_Tr_init_39 : xlk (xm_cd m_Tr_init) 39 = some (.bipush 17, 2, (0, 0, 0, [])) := rfl
theorem l_Tr_init_41 : xlk (xm_cd m_Tr_init) 41 = some (.invokespecial 20, 3, (118, 1, 1, [])) := rfl
theorem l_Tr_init_44 : xlk (xm_cd m_Tr_init) 44 = some (.aastore, 1, (0, 3, 1, [])) := rfl
theorem l_Tr_init_45 : xlk (xm_cd m_Tr_init) 45 = some (.aload_n 0, 1, (0, 0, 0, [])) := rfl
theorem l_Tr_init_46 : xlk (xm_cd m_Tr_init) 46 = some (.getfield 17, 3, (120, 2, 1, [])) := rfl
theorem l_Tr_init_49 : xlk (xm_cd m_Tr_init) 49 = some (.iload_n 1, 1, (0, 0, 0, [])) := rfl
theorem l_Tr_init_50 : xlk (xm_cd m_Tr_init) 50 = some (.new 9, 3, (117, 1, 2, [(0, 1), (0, 0)])) := rfl
theorem l_Tr_init_53 : xlk (xm_cd m_Tr_init) 53 = some (.dup, 1, (0, 0, 0, [])) := rfl
theorem l_Tr_init_54 : xlk (xm_cd m_Tr_init) 54 = some (.bipush 48, 2, (0, 0, 0, [])) := rfl
theorem l_Tr_init_56 : xlk (xm_cd m_Tr_init) 56 = some (.invokespecial 20, 3, (118, 1, 1, [])) := rfl
theorem l_Tr_init_59 : xlk (xm_cd m_Tr_init) 59 = some (.aastore, 1, (0, 3, 1, [])) := rfl
theorem l_Tr_init_60 : xlk (xm_cd m_Tr_init) 60 = some (.iinc 1 1, 3, (0, 0, 0, [])) := rfl
theorem l_Tr_init_63 : xlk (xm_cd m_Tr_init) 63 = some (.goto (-39), 3, (0, 24, 0, [])) := rfl
theorem l_Tr_init_66 : xlk (xm_cd m_Tr_init) 66 = some (.aload_n 0, 1, (0, 0, 0, [])) := rfl
theorem l_Tr_init_67 : xlk (xm_cd m_Tr_init) 67 = some (.new 9, 3, (117, 1, 2, [(0, 1), (0, 0)])) := rfl
theorem l_Tr_init_70 : xlk (xm_cd m_Tr_init) 70 = some (.dup, 1, (0, 0, 0, [])) := rfl
theorem l_Tr_init_71 : xlk (xm_cd m_Tr_init) 71 = some (.iconst 0, 1, (0, 0, 0, [])) := rfl
theorem l_Tr_init_72 : xlk (xm_cd m_Tr_init) 72 = some (.invokespecial 20, 3, (118, 1, 1, [])) := rfl
theorem l_Tr_init_75 : xlk (xm_cd m_Tr_init) 75 = some (.putfield 23, 3, (121, 2, 2, [(0, 1)])) := rfl
theorem l_Tr_init_78 : xlk (xm_cd m_Tr_init) 78 = some (.aload_n 0, 1, (0, 0, 0, [])) := rfl
theorem l_Tr_init_79 : xlk (xm_cd m_Tr_init) 79 = some (.iconst 0, 1, (0, 0, 0, [])) := rfl
theorem l_Tr_init_80 : xlk (xm_cd m_Tr_init) 80 = some (.putfield 27, 3, (122, 2, 3, [(0, 0)])) := rfl
theorem l_Tr_init_83 : xlk (xm_cd m_Tr_init) 83 = some (.return_, 1, (0, 0, 0, [])) := rfl
def B_Tr_init_0 (d : Nat) (E : Option Value → xH → Prop) (f : xH) (a0 : Nat) : Prop :=
  (1 ≤ 44 ∧ 10 ≤ 1742) ∧ xnw f (xR 3 10 (fun _ => none)) (fun q1 f2 => xpf f2 a0 2 0 (.ref q1) (fun f3 => (2 ≤ 44 ∧ 20 ≤ 1742) ∧ xnw f3 (xR 3 10 (fun _ => none)) (fun q4 f5 => xpf f5 a0 2 1 (.ref q4) (fun f6 => xWp (xT0, xSp xT0 d, none, m_Tr_init, E) 24 [some (.ref a0), some (.int 0)] [] f6 2 20))))
theorem b_Tr_init_0 {d : Nat} {E : Option Value → xH → Prop} {f : xH} {a0 : Nat} (h : B_Tr_init_0 d E f a0) : xWp (xT0, xSp xT0 d, none, m_Tr_init, E) 0 [some (.ref a0), none] [] f 0 0 := by
  unfold B_Tr_init_0 at h
  refine s_aln l_Tr_init_0 rfl ?_
  refine s_spo l_Tr_init_1 (Nat.le_of_ble_eq_true rfl) ?_
  refine s_aln l_Tr_init_4 rfl ?_
  refine s_bp 10 l_Tr_init_5 rfl ?_
  refine s_ana 10 l_Tr_init_7 (by decide) (by decide) (by decide) h.1.1 h.1.2 h.2 (fun q1 f2 h => ?_)
  refine s_pf l_Tr_init_10 (Or.inr ⟨_, rfl⟩) h (fun f3 h => ?_)
  refine s_aln l_Tr_init_13 rfl ?_
  refine s_bp 10 l_Tr_init_14 rfl ?_
  refine s_ana 10 l_Tr_init_16 (by decide) (by decide) (by decide) h.1.1 h.1.2 h.2 (fun q4 f5 h => ?_)
  refine s_pf l_Tr_init_19 (Or.inr ⟨_, rfl⟩) h (fun f6 h => ?_)
  refine s_ic 0 l_Tr_init_22 rfl ?_
  refine s_isn l_Tr_init_23 (Nat.le_of_ble_eq_true rfl) ?_
  exact h
def B_Tr_init_24 (d : Nat) (E : Option Value → xH → Prop) (f : xH) (cu su : Nat) (a0 : Nat) (x1 : Int32) : Prop :=
  xbr ((10 : Int32) ≤ x1) ((cu + 1 ≤ 44 ∧ su + 2 ≤ 1742) ∧ xnw f (xO 1 [.null, .int 0]) (fun q1 f2 => (cu + 2 ≤ 44 ∧ su + 82 ≤ 1742) ∧ xSp xT0 d j_By_init [.ref q1, .int 0] f2 (fun w3 f4 => xvv w3 (xpf f4 a0 2 2 (.ref q1) (fun f5 => xpf f5 a0 2 3 (.int 0) (fun f6 => (cu + 2 ≤ 44 ∧ su + 82 ≤ 1742) ∧ E none f6)))))) (xgr f a0 2 0 (fun r7 => (cu + 1 ≤ 44 ∧ su + 2 ≤ 1742) ∧ xnw f (xO 1 [.null, .int 0]) (fun q8 f9 => (cu + 2 ≤ 44 ∧ su + 82 ≤ 1742) ∧ xSp xT0 d j_By_init [.ref q8, .int 17] f9 (fun w10 f11 => xvv w10 (xrs f11 r7 3 1 x1 q8 (fun f12 => xgr f12 a0 2 1 (fun r13 => (cu + 3 ≤ 44 ∧ su + 84 ≤ 1742) ∧ xnw f12 (xO 1 [.null, .int 0]) (fun q14 f15 => (cu + 4 ≤ 44 ∧ su + 164 ≤ 1742) ∧ xSp xT0 d j_By_init [.ref q14, .int 48] f15 (fun w16 f17 => xvv w16 (xrs f17 r13 3 1 x1 q14 (fun f18 => xWp (xT0, xSp xT0 d, none, m_Tr_init, E) 24 [some (.ref a0), some (.int (x1 + 1))] [] f18 (cu + 4) (su + 164))))))))))))
theorem b_Tr_init_24 {d : Nat} {E : Option Value → xH → Prop} {f : xH} {cu su : Nat} {a0 : Nat} {x1 : Int32} (h : B_Tr_init_24 d E f cu su a0 x1) : xWp (xT0, xSp xT0 d, none, m_Tr_init, E) 24 [some (.ref a0), some (.int x1)] [] f cu su := by
  unfold B_Tr_init_24 at h
  refine s_iln l_Tr_init_24 rfl ?_
  refine s_bp 10 l_Tr_init_25 rfl ?_
  refine s_ifc l_Tr_init_27 h (fun h => ?_) (fun h => ?_)
  · refine s_aln l_Tr_init_66 rfl ?_
    refine s_new 2 l_Tr_init_67 rfl rfl h.1.1 h.1.2 h.2 (fun q1 f2 h => ?_)
    refine s_dup l_Tr_init_70 rfl ?_
    refine s_ic 0 l_Tr_init_71 rfl ?_
    refine s_csp (As := [.int 0]) (r := [.ref q1, .ref a0]) (mc := 1) (ms := 80) l_Tr_init_72 rfl ⟨rfl, rfl⟩ rfl (Nat.le_of_ble_eq_true rfl) rfl h.1.1 h.1.2 h.2 (fun f4 h => ?_)
    refine s_pf l_Tr_init_75 (Or.inr ⟨_, rfl⟩) h (fun f5 h => ?_)
    refine s_aln l_Tr_init_78 rfl ?_
    refine s_ic 0 l_Tr_init_79 rfl ?_
    refine s_pf l_Tr_init_80 ⟨_, rfl⟩ h (fun f6 h => ?_)
    exact s_ret l_Tr_init_83 h.1 h.2
  · refine s_aln l_Tr_init_30 rfl ?_
    refine s_gr l_Tr_init_31 h (fun r7 h => ?_)
    refine s_iln l_Tr_init_34 rfl ?_
    refine s_new 2 l_Tr_init_35 rfl rfl h.1.1 h.1.2 h.2 (fun q8 f9 h => ?_)
    refine s_dup l_Tr_init_38 rfl ?_
    refine s_bp 17 l_Tr_init_39 rfl ?_
    refine s_csp (As := [.int 17]) (r := [.ref q8, .int x1, .ref r7]) (mc := 1) (ms := 80) l_Tr_init_41 rfl ⟨rfl, rfl⟩ rfl (Nat.le_of_ble_eq_true rfl) rfl h.1.1 h.1.2 h.2 (fun f11 h => ?_)
    refine s_aast l_Tr_init_44 h (fun f12 h => ?_)
    refine s_aln l_Tr_init_45 rfl ?_
    refine s_gr l_Tr_init_46 h (fun r13 h => ?_)
    refine s_iln l_Tr_init_49 rfl ?_
    refine s_new 2 l_Tr_init_50 rfl rfl h.1.1 h.1.2 h.2 (fun q14 f15 h => ?_)
    refine s_dup l_Tr_init_53 rfl ?_
    refine s_bp 48 l_Tr_init_54 rfl ?_
    refine s_csp (As := [.int 48]) (r := [.ref q14, .int x1, .ref r13]) (mc := 1) (ms := 80) l_Tr_init_56 rfl ⟨rfl, rfl⟩ rfl (Nat.le_of_ble_eq_true rfl) rfl h.1.1 h.1.2 h.2 (fun f17 h => ?_)
    refine s_aast l_Tr_init_59 h (fun f18 h => ?_)
    refine s_inc 1 l_Tr_init_60 rfl rfl ?_
    refine s_goto l_Tr_init_63 ?_
    exact h
theorem l_Pa_init_0 : xlk (xm_cd m_Pa_init) 0 = some (.aload_n 0, 1, (0, 0, 0, [])) := rfl
theorem l_Pa_init_1 : xlk (xm_cd m_Pa_init) 1 = some (.invokespecial 3, 3, (132, 0, 0, [(2, 0)])) := rfl
theorem l_Pa_init_4 : xlk (xm_cd m_Pa_init) 4 = some (.aload_n 0, 1, (0, 0, 0, [])) := rfl
theorem l_Pa_init_5 : xlk (xm_cd m_Pa_init) 5 = some (.bipush 25, 2, (0, 0, 0, [])) := rfl
theorem l_Pa_init_7 : xlk (xm_cd m_Pa_init) 7 = some (.anewarray 9, 3, (133, 5, 0, [])) := rfl
theorem l_Pa_init_10 : xlk (xm_cd m_Pa_init) 10 = some (.putfield 11, 3, (169, 5, 0, [(0, 1)])) := rfl
theorem l_Pa_init_13 : xlk (xm_cd m_Pa_init) 13 = some (.iconst 0, 1, (0, 0, 0, [])) := rfl
theorem l_Pa_init_14 : xlk (xm_cd m_Pa_init) 14 = some (.istore_n 1, 1, (0, 0, 0, [])) := rfl
theorem l_Pa_init_15 : xlk (xm_cd m_Pa_init) 15 = some (.iload_n 1, 1, (0, 0, 0, [])) := rfl
theorem l_Pa_init_16 : xlk (xm_cd m_Pa_init) 16 = some (.bipush 24, 2, (0, 0, 0, [])) := rfl
theorem l_Pa_init_18 : xlk (xm_cd m_Pa_init) 18 = some (.if_icmp .gt 22, 3, (0, 40, 0, [])) := rfl
theorem l_Pa_init_21 : xlk (xm_cd m_Pa_init) 21 = some (.aload_n 0, 1, (0, 0, 0, [])) := rfl
theorem l_Pa_init_22 : xlk (xm_cd m_Pa_init) 22 = some (.getfield 11, 3, (169, 5, 0, [])) := rfl
theorem l_Pa_init_25 : xlk (xm_cd m_Pa_init) 25 = some (.iload_n 1, 1, (0, 0, 0, [])) := rfl
theorem l_Pa_init_26 : xlk (xm_cd m_Pa_init) 26 = some (.new 9, 3, (133, 4, 9, [(0, 1), (0, 1), (0, 1), (0, 1), (0, 0), (0, 0), (0, 0), (0, 0), (0, 0)])) := rfl
theorem l_Pa_init_29 : xlk (xm_cd m_Pa_init) 29 = some (.dup, 1, (0, 0, 0, [])) := rfl
theorem l_Pa_init_30 : xlk (xm_cd m_Pa_init) 30 = some (.invokespecial 17, 3, (135, 4, 0, [])) := rfl
theorem l_Pa_init_33 : xlk (xm_cd m_Pa_init) 33 = some (.aastore, 1, (0, 5, 4, [])) := rfl
theorem l_Pa_init_34 : xlk (xm_cd m_Pa_init) 34 = some (.iinc 1 1, 3, (0, 0, 0, [])) := rfl
theorem l_Pa_init_37 : xlk (xm_cd m_Pa_init) 37 = some (.goto (-22), 3, (0, 15, 0, [])) := rfl
theorem l_Pa_init_40 : xlk (xm_cd m_Pa_init) 40 = some (.aload_n 0, 1, (0, 0, 0, [])) := rfl
theorem l_Pa_init_41 : xlk (xm_cd m_Pa_init) 41 = some (.iconst 0, 1, (0, 0, 0, [])) := rfl
theorem l_Pa_init_42 : xlk (xm_cd m_Pa_init) 42 = some (.putfield 18, 3, (170, 5, 1, [(0, 0)])) := rfl
theorem l_Pa_init_45 : xlk (xm_cd m_Pa_init) 45 = some (.return_, 1, (0, 0, 0, [])) := rfl
def B_Pa_init_0 (d : Nat) (E : Option Value → xH → Prop) (f : xH) (a0 : Nat) : Prop :=
  (1 ≤ 226 ∧ 25 ≤ 6850) ∧ xnw f (xR 5 25 (fun _ => none)) (fun q1 f2 => xpf f2 a0 5 0 (.ref q1) (fun f3 => xWp (xT0, xSp xT0 d, none, m_Pa_init, E) 15 [some (.ref a0), some (.int 0)] [] f3 1 25))
theorem b_Pa_init_0 {d : Nat} {E : Option Value → xH → Prop} {f : xH} {a0 : Nat} (h : B_Pa_init_0 d E f a0) : xWp (xT0, xSp xT0 d, none, m_Pa_init, E) 0 [some (.ref a0), none] [] f 0 0 := by
  unfold B_Pa_init_0 at h
  refine s_aln l_Pa_init_0 rfl ?_
  refine s_spo l_Pa_init_1 (Nat.le_of_ble_eq_true rfl) ?_
  refine s_aln l_Pa_init_4 rfl ?_
  refine s_bp 25 l_Pa_init_5 rfl ?_
  refine s_ana 25 l_Pa_init_7 (by decide) (by decide) (by decide) h.1.1 h.1.2 h.2 (fun q1 f2 h => ?_)
  refine s_pf l_Pa_init_10 (Or.inr ⟨_, rfl⟩) h (fun f3 h => ?_)
  refine s_ic 0 l_Pa_init_13 rfl ?_
  refine s_isn l_Pa_init_14 (Nat.le_of_ble_eq_true rfl) ?_
  exact h
def B_Pa_init_15 (d : Nat) (E : Option Value → xH → Prop) (f : xH) (cu su : Nat) (a0 : Nat) (x1 : Int32) : Prop :=
  xbr ((24 : Int32) < x1) (xpf f a0 5 1 (.int 0) (fun f1 => (cu ≤ 226 ∧ su ≤ 6850) ∧ E none f1)) (xgr f a0 5 0 (fun r2 => (cu + 1 ≤ 226 ∧ su + 9 ≤ 6850) ∧ xnw f (xO 4 [.null, .null, .null, .null, .int 0, .int 0, .int 0, .int 0, .int 0]) (fun q3 f4 => (cu + 9 ≤ 226 ∧ su + 273 ≤ 6850) ∧ xSp xT0 d j_St_init [.ref q3] f4 (fun w5 f6 => xvv w5 (xrs f6 r2 5 4 x1 q3 (fun f7 => xWp (xT0, xSp xT0 d, none, m_Pa_init, E) 15 [some (.ref a0), some (.int (x1 + 1))] [] f7 (cu + 9) (su + 273)))))))
theorem b_Pa_init_15 {d : Nat} {E : Option Value → xH → Prop} {f : xH} {cu su : Nat} {a0 : Nat} {x1 : Int32} (h : B_Pa_init_15 d E f cu su a0 x1) : xWp (xT0, xSp xT0 d, none, m_Pa_init, E) 15 [some (.ref a0), some (.int x1)] [] f cu su := by
  unfold B_Pa_init_15 at h
  refine s_iln l_Pa_init_15 rfl ?_
  refine s_bp 24 l_Pa_init_16 rfl ?_
  refine s_ifc l_Pa_init_18 h (fun h => ?_) (fun h => ?_)
  · refine s_aln l_Pa_init_40 rfl ?_
    refine s_ic 0 l_Pa_init_41 rfl ?_
    refine s_pf l_Pa_init_42 ⟨_, rfl⟩ h (fun f1 h => ?_)
    exact s_ret l_Pa_init_45 h.1 h.2
  · refine s_aln l_Pa_init_21 rfl ?_
    refine s_gr l_Pa_init_22 h (fun r2 h => ?_)
    refine s_iln l_Pa_init_25 rfl ?_
    refine s_new 9 l_Pa_init_26 rfl rfl h.1.1 h.1.2 h.2 (fun q3 f4 h => ?_)
    refine s_dup l_Pa_init_29 rfl ?_
    refine s_csp (As := []) (r := [.ref q3, .int x1, .ref r2]) (mc := 8) (ms := 264) l_Pa_init_30 rfl ⟨rfl, rfl⟩ rfl (Nat.le_of_ble_eq_true rfl) rfl h.1.1 h.1.2 h.2 (fun f6 h => ?_)
    refine s_aast l_Pa_init_33 h (fun f7 h => ?_)
    refine s_inc 1 l_Pa_init_34 rfl rfl ?_
    refine s_goto l_Pa_init_37 ?_
    exact h
theorem l_St_init_0 : xlk (xm_cd m_St_init) 0 = some (.aload_n 0, 1, (0, 0, 0, [])) := rfl
theorem l_St_init_1 : xlk (xm_cd m_St_init) 1 = some (.invokespecial 3, 3, (138, 0, 0, [(2, 0)])) := rfl
theorem l_St_init_4 : xlk (xm_cd m_St_init) 4 = some (.aload_n 0, 1, (0, 0, 0, [])) := rfl
theorem l_St_init_5 : xlk (xm_cd m_St_init) 5 = some (.new 9, 3, (139, 1, 2, [(0, 1), (0, 0)])) := rfl
theorem l_St_init_8 : xlk (xm_cd m_St_init) 8 = some (.dup, 1, (0, 0, 0, [])) := rfl
theorem l_St_init_9 : xlk (xm_cd m_St_init) 9 = some (.bipush 17, 2, (0, 0, 0, [])) := rfl
theorem l_St_init_11 : xlk (xm_cd m_St_init) 11 = some (.invokespecial 11, 3, (140, 1, 1, [])) := rfl
theorem l_St_init_14 : xlk (xm_cd m_St_init) 14 = some (.putfield 14, 3, (151, 4, 0, [(0, 1)])) := rfl
theorem l_St_init_17 : xlk (xm_cd m_St_init) 17 = some (.aload_n 0, 1, (0, 0, 0, [])) := rfl
theorem l_St_init_18 : xlk (xm_cd m_St_init) 18 = some (.new 9, 3, (139, 1, 2, [(0, 1), (0, 0)])) := rfl
theorem l_St_init_21 : xlk (xm_cd m_St_init) 21 = some (.dup, 1, (0, 0, 0, [])) := rfl
theorem l_St_init_22 : xlk (xm_cd m_St_init) 22 = some (.bipush 17, 2, (0, 0, 0, [])) := rfl
theorem l_St_init_24 : xlk (xm_cd m_St_init) 24 = some (.invokespecial 11, 3, (140, 1, 1, [])) := rfl
theorem l_St_init_27 : xlk (xm_cd m_St_init) 27 = some (.putfield 20, 3, (152, 4, 1, [(0, 1)])) := rfl
theorem l_St_init_30 : xlk (xm_cd m_St_init) 30 = some (.aload_n 0, 1, (0, 0, 0, [])) := rfl
theorem l_St_init_31 : xlk (xm_cd m_St_init) 31 = some (.new 23, 3, (141, 3, 2, [(0, 1), (0, 0)])) := rfl
theorem l_St_init_34 : xlk (xm_cd m_St_init) 34 = some (.dup, 1, (0, 0, 0, [])) := rfl
theorem l_St_init_35 : xlk (xm_cd m_St_init) 35 = some (.invokespecial 25, 3, (143, 5, 0, [])) := rfl
theorem l_St_init_38 : xlk (xm_cd m_St_init) 38 = some (.putfield 26, 3, (153, 4, 2, [(0, 1)])) := rfl
theorem l_St_init_41 : xlk (xm_cd m_St_init) 41 = some (.aload_n 0, 1, (0, 0, 0, [])) := rfl
theorem l_St_init_42 : xlk (xm_cd m_St_init) 42 = some (.new 23, 3, (141, 3, 2, [(0, 1), (0, 0)])) := rfl
theorem l_St_init_45 : xlk (xm_cd m_St_init) 45 = some (.dup, 1, (0, 0, 0, [])) := rfl
theorem l_St_init_46 : xlk (xm_cd m_St_init) 46 = some (.invokespecial 25, 3, (143, 5, 0, [])) := rfl
theorem l_St_init_49 : xlk (xm_cd m_St_init) 49 = some (.putfield 30, 3, (154, 4, 3, [(0, 1)])) := rfl
theorem l_St_init_52 : xlk (xm_cd m_St_init) 52 = some (.aload_n 0, 1, (0, 0, 0, [])) := rfl
theorem l_St_init_53 : xlk (xm_cd m_St_init) 53 = some (.iconst 0, 1, (0, 0, 0, [])) := rfl
theorem l_St_init_54 : xlk (xm_cd m_St_init) 54 = some (.putfield 33, 3, (155, 4, 4, [(0, 0)])) := rfl
theorem l_St_init_57 : xlk (xm_cd m_St_init) 57 = some (.aload_n 0, 1, (0, 0, 0, [])) := rfl
theorem l_St_init_58 : xlk (xm_cd m_St_init) 58 = some (.bipush (-2), 2, (0, 0, 0, [])) := rfl
theorem l_St_init_60 : xlk (xm_cd m_St_init) 60 = some (.putfield 37, 3, (156, 4, 5, [(0, 0)])) := rfl
theorem l_St_init_63 : xlk (xm_cd m_St_init) 63 = some (.aload_n 0, 1, (0, 0, 0, [])) := rfl
theorem l_St_init_64 : xlk (xm_cd m_St_init) 64 = some (.bipush (-2), 2, (0, 0, 0, [])) := rfl
theorem l_St_init_66 : xlk (xm_cd m_St_init) 66 = some (.putfield 40, 3, (157, 4, 6, [(0, 0)])) := rfl
theorem l_St_init_69 : xlk (xm_cd m_St_init) 69 = some (.aload_n 0, 1, (0, 0, 0, [])) := rfl
theorem l_St_init_70 : xlk (xm_cd m_St_init) 70 = some (.bipush (-2), 2, (0, 0, 0, [])) := rfl
theorem l_St_init_72 : xlk (xm_cd m_St_init) 72 = some (.putfield 43, 3, (158, 4, 7, [(0, 0)])) := rfl
theorem l_St_init_75 : xlk (xm_cd m_St_init) 75 = some (.aload_n 0, 1, (0, 0, 0, [])) := rfl
theorem l_St_init_76 : xlk (xm_cd m_St_init) 76 = some (.bipush (-2), 2, (0, 0, 0, [])) := rfl
theorem l_St_init_78 : xlk (xm_cd m_St_init) 78 = some (.putfield 46, 3, (159, 4, 8, [(0, 0)])) := rfl
theorem l_St_init_81 : xlk (xm_cd m_St_init) 81 = some (.return_, 1, (0, 0, 0, [])) := rfl
def B_St_init_0 (d : Nat) (E : Option Value → xH → Prop) (f : xH) (a0 : Nat) : Prop :=
  (1 ≤ 8 ∧ 2 ≤ 264) ∧ xnw f (xO 1 [.null, .int 0]) (fun q1 f2 => (2 ≤ 8 ∧ 82 ≤ 264) ∧ xSp xT0 d j_By_init [.ref q1, .int 17] f2 (fun w3 f4 => xvv w3 (xpf f4 a0 4 0 (.ref q1) (fun f5 => (3 ≤ 8 ∧ 84 ≤ 264) ∧ xnw f5 (xO 1 [.null, .int 0]) (fun q6 f7 => (4 ≤ 8 ∧ 164 ≤ 264) ∧ xSp xT0 d j_By_init [.ref q6, .int 17] f7 (fun w8 f9 => xvv w8 (xpf f9 a0 4 1 (.ref q6) (fun f10 => (5 ≤ 8 ∧ 166 ≤ 264) ∧ xnw f10 (xO 3 [.null, .int 0]) (fun q11 f12 => (6 ≤ 8 ∧ 214 ≤ 264) ∧ xSp xT0 d j_De_init [.ref q11] f12 (fun w13 f14 => xvv w13 (xpf f14 a0 4 2 (.ref q11) (fun f15 => (7 ≤ 8 ∧ 216 ≤ 264) ∧ xnw f15 (xO 3 [.null, .int 0]) (fun q16 f17 => (8 ≤ 8 ∧ 264 ≤ 264) ∧ xSp xT0 d j_De_init [.ref q16] f17 (fun w18 f19 => xvv w18 (xpf f19 a0 4 3 (.ref q16) (fun f20 => xpf f20 a0 4 4 (.int 0) (fun f21 => xpf f21 a0 4 5 (.int (-2)) (fun f22 => xpf f22 a0 4 6 (.int (-2)) (fun f23 => xpf f23 a0 4 7 (.int (-2)) (fun f24 => xpf f24 a0 4 8 (.int (-2)) (fun f25 => (8 ≤ 8 ∧ 264 ≤ 264) ∧ E none f25)))))))))))))))))))))
theorem b_St_init_0 {d : Nat} {E : Option Value → xH → Prop} {f : xH} {a0 : Nat} (h : B_St_init_0 d E f a0) : xWp (xT0, xSp xT0 d, none, m_St_init, E) 0 [some (.ref a0)] [] f 0 0 := by
  unfold B_St_init_0 at h
  refine s_aln l_St_init_0 rfl ?_
  refine s_spo l_St_init_1 (Nat.le_of_ble_eq_true rfl) ?_
  refine s_aln l_St_init_4 rfl ?_
  refine s_new 2 l_St_init_5 rfl rfl h.1.1 h.1.2 h.2 (fun q1 f2 h => ?_)
  refine s_dup l_St_init_8 rfl ?_
  refine s_bp 17 l_St_init_9 rfl ?_
  refine s_csp (As := [.int 17]) (r := [.ref q1, .ref a0]) (mc := 1) (ms := 80) l_St_init_11 rfl ⟨rfl, rfl⟩ rfl (Nat.le_of_ble_eq_true rfl) rfl h.1.1 h.1.2 h.2 (fun f4 h => ?_)
  refine s_pf l_St_init_14 (Or.inr ⟨_, rfl⟩) h (fun f5 h => ?_)
  refine s_aln l_St_init_17 rfl ?_
  refine s_new 2 l_St_init_18 rfl rfl h.1.1 h.1.2 h.2 (fun q6 f7 h => ?_)
  refine s_dup l_St_init_21 rfl ?_
  refine s_bp 17 l_St_init_22 rfl ?_
  refine s_csp (As := [.int 17]) (r := [.ref q6, .ref a0]) (mc := 1) (ms := 80) l_St_init_24 rfl ⟨rfl, rfl⟩ rfl (Nat.le_of_ble_eq_true rfl) rfl h.1.1 h.1.2 h.2 (fun f9 h => ?_)
  refine s_pf l_St_init_27 (Or.inr ⟨_, rfl⟩) h (fun f10 h => ?_)
  refine s_aln l_St_init_30 rfl ?_
  refine s_new 2 l_St_init_31 rfl rfl h.1.1 h.1.2 h.2 (fun q11 f12 h => ?_)
  refine s_dup l_St_init_34 rfl ?_
  refine s_csp (As := []) (r := [.ref q11, .ref a0]) (mc := 1) (ms := 48) l_St_init_35 rfl ⟨rfl, rfl⟩ rfl (Nat.le_of_ble_eq_true rfl) rfl h.1.1 h.1.2 h.2 (fun f14 h => ?_)
  refine s_pf l_St_init_38 (Or.inr ⟨_, rfl⟩) h (fun f15 h => ?_)
  refine s_aln l_St_init_41 rfl ?_
  refine s_new 2 l_St_init_42 rfl rfl h.1.1 h.1.2 h.2 (fun q16 f17 h => ?_)
  refine s_dup l_St_init_45 rfl ?_
  refine s_csp (As := []) (r := [.ref q16, .ref a0]) (mc := 1) (ms := 48) l_St_init_46 rfl ⟨rfl, rfl⟩ rfl (Nat.le_of_ble_eq_true rfl) rfl h.1.1 h.1.2 h.2 (fun f19 h => ?_)
  refine s_pf l_St_init_49 (Or.inr ⟨_, rfl⟩) h (fun f20 h => ?_)
  refine s_aln l_St_init_52 rfl ?_
  refine s_ic 0 l_St_init_53 rfl ?_
  refine s_pf l_St_init_54 ⟨_, rfl⟩ h (fun f21 h => ?_)
  refine s_aln l_St_init_57 rfl ?_
  refine s_bp (-2) l_St_init_58 rfl ?_
  refine s_pf l_St_init_60 ⟨_, rfl⟩ h (fun f22 h => ?_)
  refine s_aln l_St_init_63 rfl ?_
  refine s_bp (-2) l_St_init_64 rfl ?_
  refine s_pf l_St_init_66 ⟨_, rfl⟩ h (fun f23 h => ?_)
  refine s_aln l_St_init_69 rfl ?_
  refine s_bp (-2) l_St_init_70 rfl ?_
  refine s_pf l_St_init_72 ⟨_, rfl⟩ h (fun f24 h => ?_)
  refine s_aln l_St_init_75 rfl ?_
  refine s_bp (-2) l_St_init_76 rfl ?_
  refine s_pf l_St_init_78 ⟨_, rfl⟩ h (fun f25 h => ?_)
  exact s_ret l_St_init_81 h.1 h.2
theorem l_De_init_0 : xlk (xm_cd m_De_init) 0 = some (.aload_n 0, 1, (0, 0, 0, [])) := rfl
theorem l_De_init_1 : xlk (xm_cd m_De_init) 1 = some (.invokespecial 3, 3, (146, 0, 0, [(2, 0)])) := rfl
theorem l_De_init_4 : xlk (xm_cd m_De_init) 4 = some (.aload_n 0, 1, (0, 0, 0, [])) := rfl
theorem l_De_init_5 : xlk (xm_cd m_De_init) 5 = some (.bipush 48, 2, (0, 0, 0, [])) := rfl
theorem l_De_init_7 : xlk (xm_cd m_De_init) 7 = some (.newarray .int, 2, (110, 0, 0, [])) := rfl
theorem l_De_init_9 : xlk (xm_cd m_De_init) 9 = some (.putfield 9, 3, (147, 3, 0, [(0, 1)])) := rfl
theorem l_De_init_12 : xlk (xm_cd m_De_init) 12 = some (.aload_n 0, 1, (0, 0, 0, [])) := rfl
theorem l_De_init_13 : xlk (xm_cd m_De_init) 13 = some (.iconst 0, 1, (0, 0, 0, [])) := rfl
theorem l_De_init_14 : xlk (xm_cd m_De_init) 14 = some (.putfield 15, 3, (148, 3, 1, [(0, 0)])) := rfl
theorem l_De_init_17 : xlk (xm_cd m_De_init) 17 = some (.return_, 1, (0, 0, 0, [])) := rfl
def B_De_init_0 (d : Nat) (E : Option Value → xH → Prop) (f : xH) (a0 : Nat) : Prop :=
  (1 ≤ 1 ∧ 48 ≤ 48) ∧ xnw f (xI 0 48 (fun _ => 0)) (fun q1 f2 => xpf f2 a0 3 0 (.ref q1) (fun f3 => xpf f3 a0 3 1 (.int 0) (fun f4 => (1 ≤ 1 ∧ 48 ≤ 48) ∧ E none f4)))
theorem b_De_init_0 {d : Nat} {E : Option Value → xH → Prop} {f : xH} {a0 : Nat} (h : B_De_init_0 d E f a0) : xWp (xT0, xSp xT0 d, none, m_De_init, E) 0 [some (.ref a0)] [] f 0 0 := by
  unfold B_De_init_0 at h
  refine s_aln l_De_init_0 rfl ?_
  refine s_spo l_De_init_1 (Nat.le_of_ble_eq_true rfl) ?_
  refine s_aln l_De_init_4 rfl ?_
  refine s_bp 48 l_De_init_5 rfl ?_
  refine s_na 48 l_De_init_7 (by decide) (by decide) (by decide) h.1.1 h.1.2 h.2 (fun q1 f2 h => ?_)
  refine s_pf l_De_init_9 (Or.inr ⟨_, rfl⟩) h (fun f3 h => ?_)
  refine s_aln l_De_init_12 rfl ?_
  refine s_ic 0 l_De_init_13 rfl ?_
  refine s_pf l_De_init_14 ⟨_, rfl⟩ h (fun f4 h => ?_)
  exact s_ret l_De_init_17 h.1 h.2
theorem l_Di_init_0 : xlk (xm_cd m_Di_init) 0 = some (.aload_n 0, 1, (0, 0, 0, [])) := rfl
theorem l_Di_init_1 : xlk (xm_cd m_Di_init) 1 = some (.invokespecial 3, 3, (178, 0, 0, [(2, 0)])) := rfl
theorem l_Di_init_4 : xlk (xm_cd m_Di_init) 4 = some (.aload_n 0, 1, (0, 0, 0, [])) := rfl
theorem l_Di_init_5 : xlk (xm_cd m_Di_init) 5 = some (.new 9, 3, (179, 6, 4, [(0, 1), (0, 1), (0, 1), (0, 1)])) := rfl
theorem l_Di_init_8 : xlk (xm_cd m_Di_init) 8 = some (.dup, 1, (0, 0, 0, [])) := rfl
theorem l_Di_init_9 : xlk (xm_cd m_Di_init) 9 = some (.invokespecial 11, 3, (181, 7, 0, [])) := rfl
theorem l_Di_init_12 : xlk (xm_cd m_Di_init) 12 = some (.putfield 12, 3, (194, 7, 0, [(0, 1)])) := rfl
theorem l_Di_init_15 : xlk (xm_cd m_Di_init) 15 = some (.aload_n 0, 1, (0, 0, 0, [])) := rfl
theorem l_Di_init_16 : xlk (xm_cd m_Di_init) 16 = some (.bipush 10, 2, (0, 0, 0, [])) := rfl
theorem l_Di_init_18 : xlk (xm_cd m_Di_init) 18 = some (.newarray .boolean, 2, (204, 1, 0, [])) := rfl
theorem l_Di_init_20 : xlk (xm_cd m_Di_init) 20 = some (.putfield 18, 3, (195, 7, 1, [(0, 1)])) := rfl
theorem l_Di_init_23 : xlk (xm_cd m_Di_init) 23 = some (.aload_n 0, 1, (0, 0, 0, [])) := rfl
theorem l_Di_init_24 : xlk (xm_cd m_Di_init) 24 = some (.bipush 10, 2, (0, 0, 0, [])) := rfl
theorem l_Di_init_26 : xlk (xm_cd m_Di_init) 26 = some (.newarray .boolean, 2, (204, 1, 0, [])) := rfl
theorem l_Di_init_28 : xlk (xm_cd m_Di_init) 28 = some (.putfield 22, 3, (196, 7, 2, [(0, 1)])) := rfl
theorem l_Di_init_31 : xlk (xm_cd m_Di_init) 31 = some (.aload_n 0, 1, (0, 0, 0, [])) := rfl
theorem l_Di_init_32 : xlk (xm_cd m_Di_init) 32 = some (.bipush 10, 2, (0, 0, 0, [])) := rfl
theorem l_Di_init_34 : xlk (xm_cd m_Di_init) 34 = some (.bipush 10, 2, (0, 0, 0, [])) := rfl
theorem l_Di_init_36 : xlk (xm_cd m_Di_init) 36 = some (.multianewarray 25 2, 4, (193, 8, 0, [])) := rfl
theorem l_Di_init_40 : xlk (xm_cd m_Di_init) 40 = some (.putfield 27, 3, (197, 7, 3, [(0, 1)])) := rfl
theorem l_Di_init_43 : xlk (xm_cd m_Di_init) 43 = some (.aload_n 0, 1, (0, 0, 0, [])) := rfl
theorem l_Di_init_44 : xlk (xm_cd m_Di_init) 44 = some (.bipush 49, 2, (0, 0, 0, [])) := rfl
theorem l_Di_init_46 : xlk (xm_cd m_Di_init) 46 = some (.newarray .int, 2, (110, 0, 0, [])) := rfl
theorem l_Di_init_48 : xlk (xm_cd m_Di_init) 48 = some (.putfield 30, 3, (198, 7, 4, [(0, 1)])) := rfl
theorem l_Di_init_51 : xlk (xm_cd m_Di_init) 51 = some (.return_, 1, (0, 0, 0, [])) := rfl
def B_Di_init_0 (d : Nat) (E : Option Value → xH → Prop) (f : xH) (a0 : Nat) : Prop :=
  (1 ≤ 19 ∧ 4 ≤ 377) ∧ xnw f (xO 6 [.null, .null, .null, .null]) (fun q1 f2 => (5 ≤ 19 ∧ 198 ≤ 377) ∧ xSp xT0 d j_We_init [.ref q1] f2 (fun w3 f4 => xvv w3 (xpf f4 a0 7 0 (.ref q1) (fun f5 => (6 ≤ 19 ∧ 208 ≤ 377) ∧ xnw f5 (xI 1 10 (fun _ => 0)) (fun q6 f7 => xpf f7 a0 7 1 (.ref q6) (fun f8 => (7 ≤ 19 ∧ 218 ≤ 377) ∧ xnw f8 (xI 1 10 (fun _ => 0)) (fun q9 f10 => xpf f10 a0 7 2 (.ref q9) (fun f11 => (18 ≤ 19 ∧ 328 ≤ 377) ∧ xnm f11 8 10 10 (fun q12 w13 f14 => xpf f14 a0 7 3 (.ref q12) (fun f15 => (19 ≤ 19 ∧ 377 ≤ 377) ∧ xnw f15 (xI 0 49 (fun _ => 0)) (fun q16 f17 => xpf f17 a0 7 4 (.ref q16) (fun f18 => (19 ≤ 19 ∧ 377 ≤ 377) ∧ E none f18))))))))))))
theorem b_Di_init_0 {d : Nat} {E : Option Value → xH → Prop} {f : xH} {a0 : Nat} (h : B_Di_init_0 d E f a0) : xWp (xT0, xSp xT0 d, none, m_Di_init, E) 0 [some (.ref a0)] [] f 0 0 := by
  unfold B_Di_init_0 at h
  refine s_aln l_Di_init_0 rfl ?_
  refine s_spo l_Di_init_1 (Nat.le_of_ble_eq_true rfl) ?_
  refine s_aln l_Di_init_4 rfl ?_
  refine s_new 4 l_Di_init_5 rfl rfl h.1.1 h.1.2 h.2 (fun q1 f2 h => ?_)
  refine s_dup l_Di_init_8 rfl ?_
  refine s_csp (As := []) (r := [.ref q1, .ref a0]) (mc := 4) (ms := 194) l_Di_init_9 rfl ⟨rfl, rfl⟩ rfl (Nat.le_of_ble_eq_true rfl) rfl h.1.1 h.1.2 h.2 (fun f4 h => ?_)
  refine s_pf l_Di_init_12 (Or.inr ⟨_, rfl⟩) h (fun f5 h => ?_)
  refine s_aln l_Di_init_15 rfl ?_
  refine s_bp 10 l_Di_init_16 rfl ?_
  refine s_na 10 l_Di_init_18 (by decide) (by decide) (by decide) h.1.1 h.1.2 h.2 (fun q6 f7 h => ?_)
  refine s_pf l_Di_init_20 (Or.inr ⟨_, rfl⟩) h (fun f8 h => ?_)
  refine s_aln l_Di_init_23 rfl ?_
  refine s_bp 10 l_Di_init_24 rfl ?_
  refine s_na 10 l_Di_init_26 (by decide) (by decide) (by decide) h.1.1 h.1.2 h.2 (fun q9 f10 h => ?_)
  refine s_pf l_Di_init_28 (Or.inr ⟨_, rfl⟩) h (fun f11 h => ?_)
  refine s_aln l_Di_init_31 rfl ?_
  refine s_bp 10 l_Di_init_32 rfl ?_
  refine s_bp 10 l_Di_init_34 rfl ?_
  refine s_mna 10 10 l_Di_init_36 (by decide) (by decide) (by decide) (by decide) (by decide) (by decide) h.1.1 h.1.2 h.2 (fun q12 w13 f14 h => ?_)
  refine s_pf l_Di_init_40 (Or.inr ⟨_, rfl⟩) h (fun f15 h => ?_)
  refine s_aln l_Di_init_43 rfl ?_
  refine s_bp 49 l_Di_init_44 rfl ?_
  refine s_na 49 l_Di_init_46 (by decide) (by decide) (by decide) h.1.1 h.1.2 h.2 (fun q16 f17 h => ?_)
  refine s_pf l_Di_init_48 (Or.inr ⟨_, rfl⟩) h (fun f18 h => ?_)
  exact s_ret l_Di_init_51 h.1 h.2
theorem l_We_init_0 : xlk (xm_cd m_We_init) 0 = some (.aload_n 0, 1, (0, 0, 0, [])) := rfl
theorem l_We_init_1 : xlk (xm_cd m_We_init) 1 = some (.invokespecial 3, 3, (184, 0, 0, [(2, 0)])) := rfl
theorem l_We_init_4 : xlk (xm_cd m_We_init) 4 = some (.aload_n 0, 1, (0, 0, 0, [])) := rfl
theorem l_We_init_5 : xlk (xm_cd m_We_init) 5 = some (.bipush 49, 2, (0, 0, 0, [])) := rfl
theorem l_We_init_7 : xlk (xm_cd m_We_init) 7 = some (.newarray .int, 2, (110, 0, 0, [])) := rfl
theorem l_We_init_9 : xlk (xm_cd m_We_init) 9 = some (.putfield 9, 3, (185, 6, 0, [(0, 1)])) := rfl
theorem l_We_init_12 : xlk (xm_cd m_We_init) 12 = some (.aload_n 0, 1, (0, 0, 0, [])) := rfl
theorem l_We_init_13 : xlk (xm_cd m_We_init) 13 = some (.bipush 49, 2, (0, 0, 0, [])) := rfl
theorem l_We_init_15 : xlk (xm_cd m_We_init) 15 = some (.newarray .int, 2, (110, 0, 0, [])) := rfl
theorem l_We_init_17 : xlk (xm_cd m_We_init) 17 = some (.putfield 15, 3, (186, 6, 1, [(0, 1)])) := rfl
theorem l_We_init_20 : xlk (xm_cd m_We_init) 20 = some (.aload_n 0, 1, (0, 0, 0, [])) := rfl
theorem l_We_init_21 : xlk (xm_cd m_We_init) 21 = some (.bipush 48, 2, (0, 0, 0, [])) := rfl
theorem l_We_init_23 : xlk (xm_cd m_We_init) 23 = some (.newarray .int, 2, (110, 0, 0, [])) := rfl
theorem l_We_init_25 : xlk (xm_cd m_We_init) 25 = some (.putfield 18, 3, (187, 6, 2, [(0, 1)])) := rfl
theorem l_We_init_28 : xlk (xm_cd m_We_init) 28 = some (.aload_n 0, 1, (0, 0, 0, [])) := rfl
theorem l_We_init_29 : xlk (xm_cd m_We_init) 29 = some (.bipush 48, 2, (0, 0, 0, [])) := rfl
theorem l_We_init_31 : xlk (xm_cd m_We_init) 31 = some (.newarray .int, 2, (110, 0, 0, [])) := rfl
theorem l_We_init_33 : xlk (xm_cd m_We_init) 33 = some (.putfield 21, 3, (188, 6, 3, [(0, 1)])) := rfl
theorem l_We_init_36 : xlk (xm_cd m_We_init) 36 = some (.return_, 1, (0, 0, 0, [])) := rfl
def B_We_init_0 (d : Nat) (E : Option Value → xH → Prop) (f : xH) (a0 : Nat) : Prop :=
  (1 ≤ 4 ∧ 49 ≤ 194) ∧ xnw f (xI 0 49 (fun _ => 0)) (fun q1 f2 => xpf f2 a0 6 0 (.ref q1) (fun f3 => (2 ≤ 4 ∧ 98 ≤ 194) ∧ xnw f3 (xI 0 49 (fun _ => 0)) (fun q4 f5 => xpf f5 a0 6 1 (.ref q4) (fun f6 => (3 ≤ 4 ∧ 146 ≤ 194) ∧ xnw f6 (xI 0 48 (fun _ => 0)) (fun q7 f8 => xpf f8 a0 6 2 (.ref q7) (fun f9 => (4 ≤ 4 ∧ 194 ≤ 194) ∧ xnw f9 (xI 0 48 (fun _ => 0)) (fun q10 f11 => xpf f11 a0 6 3 (.ref q10) (fun f12 => (4 ≤ 4 ∧ 194 ≤ 194) ∧ E none f12))))))))
theorem b_We_init_0 {d : Nat} {E : Option Value → xH → Prop} {f : xH} {a0 : Nat} (h : B_We_init_0 d E f a0) : xWp (xT0, xSp xT0 d, none, m_We_init, E) 0 [some (.ref a0)] [] f 0 0 := by
  unfold B_We_init_0 at h
  refine s_aln l_We_init_0 rfl ?_
  refine s_spo l_We_init_1 (Nat.le_of_ble_eq_true rfl) ?_
  refine s_aln l_We_init_4 rfl ?_
  refine s_bp 49 l_We_init_5 rfl ?_
  refine s_na 49 l_We_init_7 (by decide) (by decide) (by decide) h.1.1 h.1.2 h.2 (fun q1 f2 h => ?_)
  refine s_pf l_We_init_9 (Or.inr ⟨_, rfl⟩) h (fun f3 h => ?_)
  refine s_aln l_We_init_12 rfl ?_
  refine s_bp 49 l_We_init_13 rfl ?_
  refine s_na 49 l_We_init_15 (by decide) (by decide) (by decide) h.1.1 h.1.2 h.2 (fun q4 f5 h => ?_)
  refine s_pf l_We_init_17 (Or.inr ⟨_, rfl⟩) h (fun f6 h => ?_)
  refine s_aln l_We_init_20 rfl ?_
  refine s_bp 48 l_We_init_21 rfl ?_
  refine s_na 48 l_We_init_23 (by decide) (by decide) (by decide) h.1.1 h.1.2 h.2 (fun q7 f8 h => ?_)
  refine s_pf l_We_init_25 (Or.inr ⟨_, rfl⟩) h (fun f9 h => ?_)
  refine s_aln l_We_init_28 rfl ?_
  refine s_bp 48 l_We_init_29 rfl ?_
  refine s_na 48 l_We_init_31 (by decide) (by decide) (by decide) h.1.1 h.1.2 h.2 (fun q10 f11 h => ?_)
  refine s_pf l_We_init_33 (Or.inr ⟨_, rfl⟩) h (fun f12 h => ?_)
  exact s_ret l_We_init_36 h.1 h.2
theorem l_Ap_init_0 : xlk (xm_cd m_Ap_init) 0 = some (.aload_n 0, 1, (0, 0, 0, [])) := rfl
theorem l_Ap_init_1 : xlk (xm_cd m_Ap_init) 1 = some (.invokespecial 3, 3, (210, 0, 0, [(2, 0)])) := rfl
theorem l_Ap_init_4 : xlk (xm_cd m_Ap_init) 4 = some (.aload_n 0, 1, (0, 0, 0, [])) := rfl
theorem l_Ap_init_5 : xlk (xm_cd m_Ap_init) 5 = some (.bipush 24, 2, (0, 0, 0, [])) := rfl
theorem l_Ap_init_7 : xlk (xm_cd m_Ap_init) 7 = some (.newarray .boolean, 2, (204, 1, 0, [])) := rfl
theorem l_Ap_init_9 : xlk (xm_cd m_Ap_init) 9 = some (.putfield 9, 3, (213, 8, 0, [(0, 1)])) := rfl
theorem l_Ap_init_12 : xlk (xm_cd m_Ap_init) 12 = some (.aload_n 0, 1, (0, 0, 0, [])) := rfl
theorem l_Ap_init_13 : xlk (xm_cd m_Ap_init) 13 = some (.bipush 24, 2, (0, 0, 0, [])) := rfl
theorem l_Ap_init_15 : xlk (xm_cd m_Ap_init) 15 = some (.newarray .int, 2, (110, 0, 0, [])) := rfl
theorem l_Ap_init_17 : xlk (xm_cd m_Ap_init) 17 = some (.putfield 15, 3, (214, 8, 1, [(0, 1)])) := rfl
theorem l_Ap_init_20 : xlk (xm_cd m_Ap_init) 20 = some (.aload_n 0, 1, (0, 0, 0, [])) := rfl
theorem l_Ap_init_21 : xlk (xm_cd m_Ap_init) 21 = some (.bipush 24, 2, (0, 0, 0, [])) := rfl
theorem l_Ap_init_23 : xlk (xm_cd m_Ap_init) 23 = some (.newarray .int, 2, (110, 0, 0, [])) := rfl
theorem l_Ap_init_25 : xlk (xm_cd m_Ap_init) 25 = some (.putfield 19, 3, (215, 8, 2, [(0, 1)])) := rfl
theorem l_Ap_init_28 : xlk (xm_cd m_Ap_init) 28 = some (.aload_n 0, 1, (0, 0, 0, [])) := rfl
theorem l_Ap_init_29 : xlk (xm_cd m_Ap_init) 29 = some (.new 22, 3, (211, 1, 2, [(0, 1), (0, 0)])) := rfl
theorem l_Ap_init_32 : xlk (xm_cd m_Ap_init) 32 = some (.dup, 1, (0, 0, 0, [])) := rfl
theorem l_Ap_init_33 : xlk (xm_cd m_Ap_init) 33 = some (.bipush 48, 2, (0, 0, 0, [])) := rfl
theorem l_Ap_init_35 : xlk (xm_cd m_Ap_init) 35 = some (.invokespecial 24, 3, (212, 1, 1, [])) := rfl
theorem l_Ap_init_38 : xlk (xm_cd m_Ap_init) 38 = some (.putfield 27, 3, (216, 8, 3, [(0, 1)])) := rfl
theorem l_Ap_init_41 : xlk (xm_cd m_Ap_init) 41 = some (.aload_n 0, 1, (0, 0, 0, [])) := rfl
theorem l_Ap_init_42 : xlk (xm_cd m_Ap_init) 42 = some (.iconst 0, 1, (0, 0, 0, [])) := rfl
theorem l_Ap_init_43 : xlk (xm_cd m_Ap_init) 43 = some (.putfield 31, 3, (217, 8, 4, [(0, 0)])) := rfl
theorem l_Ap_init_46 : xlk (xm_cd m_Ap_init) 46 = some (.return_, 1, (0, 0, 0, [])) := rfl
def B_Ap_init_0 (d : Nat) (E : Option Value → xH → Prop) (f : xH) (a0 : Nat) : Prop :=
  (1 ≤ 5 ∧ 24 ≤ 154) ∧ xnw f (xI 1 24 (fun _ => 0)) (fun q1 f2 => xpf f2 a0 8 0 (.ref q1) (fun f3 => (2 ≤ 5 ∧ 48 ≤ 154) ∧ xnw f3 (xI 0 24 (fun _ => 0)) (fun q4 f5 => xpf f5 a0 8 1 (.ref q4) (fun f6 => (3 ≤ 5 ∧ 72 ≤ 154) ∧ xnw f6 (xI 0 24 (fun _ => 0)) (fun q7 f8 => xpf f8 a0 8 2 (.ref q7) (fun f9 => (4 ≤ 5 ∧ 74 ≤ 154) ∧ xnw f9 (xO 1 [.null, .int 0]) (fun q10 f11 => (5 ≤ 5 ∧ 154 ≤ 154) ∧ xSp xT0 d j_By_init [.ref q10, .int 48] f11 (fun w12 f13 => xvv w12 (xpf f13 a0 8 3 (.ref q10) (fun f14 => xpf f14 a0 8 4 (.int 0) (fun f15 => (5 ≤ 5 ∧ 154 ≤ 154) ∧ E none f15)))))))))))
theorem b_Ap_init_0 {d : Nat} {E : Option Value → xH → Prop} {f : xH} {a0 : Nat} (h : B_Ap_init_0 d E f a0) : xWp (xT0, xSp xT0 d, none, m_Ap_init, E) 0 [some (.ref a0)] [] f 0 0 := by
  unfold B_Ap_init_0 at h
  refine s_aln l_Ap_init_0 rfl ?_
  refine s_spo l_Ap_init_1 (Nat.le_of_ble_eq_true rfl) ?_
  refine s_aln l_Ap_init_4 rfl ?_
  refine s_bp 24 l_Ap_init_5 rfl ?_
  refine s_na 24 l_Ap_init_7 (by decide) (by decide) (by decide) h.1.1 h.1.2 h.2 (fun q1 f2 h => ?_)
  refine s_pf l_Ap_init_9 (Or.inr ⟨_, rfl⟩) h (fun f3 h => ?_)
  refine s_aln l_Ap_init_12 rfl ?_
  refine s_bp 24 l_Ap_init_13 rfl ?_
  refine s_na 24 l_Ap_init_15 (by decide) (by decide) (by decide) h.1.1 h.1.2 h.2 (fun q4 f5 h => ?_)
  refine s_pf l_Ap_init_17 (Or.inr ⟨_, rfl⟩) h (fun f6 h => ?_)
  refine s_aln l_Ap_init_20 rfl ?_
  refine s_bp 24 l_Ap_init_21 rfl ?_
  refine s_na 24 l_Ap_init_23 (by decide) (by decide) (by decide) h.1.1 h.1.2 h.2 (fun q7 f8 h => ?_)
  refine s_pf l_Ap_init_25 (Or.inr ⟨_, rfl⟩) h (fun f9 h => ?_)
  refine s_aln l_Ap_init_28 rfl ?_
  refine s_new 2 l_Ap_init_29 rfl rfl h.1.1 h.1.2 h.2 (fun q10 f11 h => ?_)
  refine s_dup l_Ap_init_32 rfl ?_
  refine s_bp 48 l_Ap_init_33 rfl ?_
  refine s_csp (As := [.int 48]) (r := [.ref q10, .ref a0]) (mc := 1) (ms := 80) l_Ap_init_35 rfl ⟨rfl, rfl⟩ rfl (Nat.le_of_ble_eq_true rfl) rfl h.1.1 h.1.2 h.2 (fun f13 h => ?_)
  refine s_pf l_Ap_init_38 (Or.inr ⟨_, rfl⟩) h (fun f14 h => ?_)
  refine s_aln l_Ap_init_41 rfl ?_
  refine s_ic 0 l_Ap_init_42 rfl ?_
  refine s_pf l_Ap_init_43 ⟨_, rfl⟩ h (fun f15 h => ?_)
  exact s_ret l_Ap_init_46 h.1 h.2
theorem l_Dk_init_0 : xlk (xm_cd m_Dk_init) 0 = some (.aload_n 0, 1, (0, 0, 0, [])) := rfl
theorem l_Dk_init_1 : xlk (xm_cd m_Dk_init) 1 = some (.invokespecial 3, 3, (228, 0, 0, [(2, 0)])) := rfl
theorem l_Dk_init_4 : xlk (xm_cd m_Dk_init) 4 = some (.aload_n 0, 1, (0, 0, 0, [])) := rfl
theorem l_Dk_init_5 : xlk (xm_cd m_Dk_init) 5 = some (.bipush 30, 2, (0, 0, 0, [])) := rfl
theorem l_Dk_init_7 : xlk (xm_cd m_Dk_init) 7 = some (.anewarray 9, 3, (229, 3, 0, [])) := rfl
theorem l_Dk_init_10 : xlk (xm_cd m_Dk_init) 10 = some (.putfield 11, 3, (245, 10, 0, [(0, 1)])) := rfl
theorem l_Dk_init_13 : xlk (xm_cd m_Dk_init) 13 = some (.iconst 0, 1, (0, 0, 0, [])) := rfl
theorem l_Dk_init_14 : xlk (xm_cd m_Dk_init) 14 = some (.istore_n 1, 1, (0, 0, 0, [])) := rfl
theorem l_Dk_init_15 : xlk (xm_cd m_Dk_init) 15 = some (.iload_n 1, 1, (0, 0, 0, [])) := rfl
theorem l_Dk_init_16 : xlk (xm_cd m_Dk_init) 16 = some (.bipush 30, 2, (0, 0, 0, [])) := rfl
theorem l_Dk_init_18 : xlk (xm_cd m_Dk_init) 18 = some (.if_icmp .ge 24, 3, (0, 42, 0, [])) := rfl
theorem l_Dk_init_21 : xlk (xm_cd m_Dk_init) 21 = some (.aload_n 0, 1, (0, 0, 0, [])) := rfl
theorem l_Dk_init_22 : xlk (xm_cd m_Dk_init) 22 = some (.getfield 11, 3, (245, 10, 0, [])) := rfl
theorem l_Dk_init_25 : xlk (xm_cd m_Dk_init) 25 = some (.iload_n 1, 1, (0, 0, 0, [])) := rfl
theorem l_Dk_init_26 : xlk (xm_cd m_Dk_init) 26 = some (.new 9, 3, (229, 1, 2, [(0, 1), (0, 0)])) := rfl
theorem l_Dk_init_29 : xlk (xm_cd m_Dk_init) 29 = some (.dup, 1, (0, 0, 0, [])) := rfl
theorem l_Dk_init_30 : xlk (xm_cd m_Dk_init) 30 = some (.bipush 48, 2, (0, 0, 0, [])) := rfl
theorem l_Dk_init_32 : xlk (xm_cd m_Dk_init) 32 = some (.invokespecial 17, 3, (230, 1, 1, [])) := rfl
theorem l_Dk_init_35 : xlk (xm_cd m_Dk_init) 35 = some (.aastore, 1, (0, 3, 1, [])) := rfl
theorem l_Dk_init_36 : xlk (xm_cd m_Dk_init) 36 = some (.iinc 1 1, 3, (0, 0, 0, [])) := rfl
theorem l_Dk_init_39 : xlk (xm_cd m_Dk_init) 39 = some (.goto (-24), 3, (0, 15, 0, [])) := rfl
theorem l_Dk_init_42 : xlk (xm_cd m_Dk_init) 42 = some (.aload_n 0, 1, (0, 0, 0, [])) := rfl
theorem l_Dk_init_43 : xlk (xm_cd m_Dk_init) 43 = some (.bipush 30, 2, (0, 0, 0, [])) := rfl
theorem l_Dk_init_45 : xlk (xm_cd m_Dk_init) 45 = some (.newarray .boolean, 2, (204, 1, 0, [])) := rfl
theorem l_Dk_init_47 : xlk (xm_cd m_Dk_init) 47 = some (.putfield 20, 3, (246, 10, 1, [(0, 1)])) := rfl
theorem l_Dk_init_50 : xlk (xm_cd m_Dk_init) 50 = some (.aload_n 0, 1, (0, 0, 0, [])) := rfl
theorem l_Dk_init_51 : xlk (xm_cd m_Dk_init) 51 = some (.iconst 2, 1, (0, 0, 0, [])) := rfl
theorem l_Dk_init_52 : xlk (xm_cd m_Dk_init) 52 = some (.anewarray 24, 3, (231, 7, 0, [])) := rfl
theorem l_Dk_init_55 : xlk (xm_cd m_Dk_init) 55 = some (.putfield 26, 3, (247, 10, 2, [(0, 1)])) := rfl
theorem l_Dk_init_58 : xlk (xm_cd m_Dk_init) 58 = some (.aload_n 0, 1, (0, 0, 0, [])) := rfl
theorem l_Dk_init_59 : xlk (xm_cd m_Dk_init) 59 = some (.getfield 26, 3, (247, 10, 2, [])) := rfl
theorem l_Dk_init_62 : xlk (xm_cd m_Dk_init) 62 = some (.iconst 0, 1, (0, 0, 0, [])) := rfl
theorem l_Dk_init_63 : xlk (xm_cd m_Dk_init) 63 = some (.new 24, 3, (231, 9, 3, [(0, 1), (0, 1), (0, 0)])) := rfl
theorem l_Dk_init_66 : xlk (xm_cd m_Dk_init) 66 = some (.dup, 1, (0, 0, 0, [])) := rfl
theorem l_Dk_init_67 : xlk (xm_cd m_Dk_init) 67 = some (.invokespecial 30, 3, (233, 10, 0, [])) := rfl
theorem l_Dk_init_70 : xlk (xm_cd m_Dk_init) 70 = some (.aastore, 1, (0, 7, 9, [])) := rfl
theorem l_Dk_init_71 : xlk (xm_cd m_Dk_init) 71 = some (.aload_n 0, 1, (0, 0, 0, [])) := rfl
theorem l_Dk_init_72 : xlk (xm_cd m_Dk_init) 72 = some (.getfield 26, 3, (247, 10, 2, [])) := rfl
theorem l_Dk_init_75 : xlk (xm_cd m_Dk_init) 75 = some (.iconst 1, 1, (0, 0, 0, [])) := rfl
theorem l_Dk_init_76 : xlk (xm_cd m_Dk_init) 76 = some (.new 24, 3, (231, 9, 3, [(0, 1), (0, 1), (0, 0)])) := rfl
theorem l_Dk_init_79 : xlk (xm_cd m_Dk_init) 79 = some (.dup, 1, (0, 0, 0, [])) := rfl
theorem l_Dk_init_80 : xlk (xm_cd m_Dk_init) 80 = some (.invokespecial 30, 3, (233, 10, 0, [])) := rfl
theorem l_Dk_init_83 : xlk (xm_cd m_Dk_init) 83 = some (.aastore, 1, (0, 7, 9, [])) := rfl
theorem l_Dk_init_84 : xlk (xm_cd m_Dk_init) 84 = some (.aload_n 0, 1, (0, 0, 0, [])) := rfl
theorem l_Dk_init_85 : xlk (xm_cd m_Dk_init) 85 = some (.bipush 10, 2, (0, 0, 0, [])) := rfl
theorem l_Dk_init_87 : xlk (xm_cd m_Dk_init) 87 = some (.newarray .int, 2, (110, 0, 0, [])) := rfl
theorem l_Dk_init_89 : xlk (xm_cd m_Dk_init) 89 = some (.putfield 31, 3, (248, 10, 3, [(0, 1)])) := rfl
theorem l_Dk_init_92 : xlk (xm_cd m_Dk_init) 92 = some (.aload_n 0, 1, (0, 0, 0, [])) := rfl
theorem l_Dk_init_93 : xlk (xm_cd m_Dk_init) 93 = some (.iconst 0, 1, (0, 0, 0, [])) := rfl
theorem l_Dk_init_94 : xlk (xm_cd m_Dk_init) 94 = some (.putfield 35, 3, (249, 10, 4, [(0, 0)])) := rfl
theorem l_Dk_init_97 : xlk (xm_cd m_Dk_init) 97 = some (.aload_n 0, 1, (0, 0, 0, [])) := rfl
theorem l_Dk_init_98 : xlk (xm_cd m_Dk_init) 98 = some (.iconst (-1), 1, (0, 0, 0, [])) := rfl
theorem l_Dk_init_99 : xlk (xm_cd m_Dk_init) 99 = some (.putfield 39, 3, (250, 10, 5, [(0, 0)])) := rfl
theorem l_Dk_init_102 : xlk (xm_cd m_Dk_init) 102 = some (.aload_n 0, 1, (0, 0, 0, [])) := rfl
theorem l_Dk_init_103 : xlk (xm_cd m_Dk_init) 103 = some (.iconst 0, 1, (0, 0, 0, [])) := rfl
theorem l_Dk_init_104 : xlk (xm_cd m_Dk_init) 104 = some (.putfield 42, 3, (251, 10, 6, [(0, 0)])) := rfl
theorem l_Dk_init_107 : xlk (xm_cd m_Dk_init) 107 = some (.aload_n 0, 1, (0, 0, 0, [])) := rfl
theorem l_Dk_init_108 : xlk (xm_cd m_Dk_init) 108 = some (.iconst 0, 1, (0, 0, 0, [])) := rfl
theorem l_Dk_init_109 : xlk (xm_cd m_Dk_init) 109 = some (.putfield 45, 3, (252, 10, 7, [(0, 2)])) := rfl
theorem l_Dk_init_112 : xlk (xm_cd m_Dk_init) 112 = some (.return_, 1, (0, 0, 0, [])) := rfl
def B_Dk_init_0 (d : Nat) (E : Option Value → xH → Prop) (f : xH) (a0 : Nat) : Prop :=
  (1 ≤ 110 ∧ 30 ≤ 4218) ∧ xnw f (xR 3 30 (fun _ => none)) (fun q1 f2 => xpf f2 a0 10 0 (.ref q1) (fun f3 => xWp (xT0, xSp xT0 d, none, m_Dk_init, E) 15 [some (.ref a0), some (.int 0)] [] f3 1 30))
theorem b_Dk_init_0 {d : Nat} {E : Option Value → xH → Prop} {f : xH} {a0 : Nat} (h : B_Dk_init_0 d E f a0) : xWp (xT0, xSp xT0 d, none, m_Dk_init, E) 0 [some (.ref a0), none] [] f 0 0 := by
  unfold B_Dk_init_0 at h
  refine s_aln l_Dk_init_0 rfl ?_
  refine s_spo l_Dk_init_1 (Nat.le_of_ble_eq_true rfl) ?_
  refine s_aln l_Dk_init_4 rfl ?_
  refine s_bp 30 l_Dk_init_5 rfl ?_
  refine s_ana 30 l_Dk_init_7 (by decide) (by decide) (by decide) h.1.1 h.1.2 h.2 (fun q1 f2 h => ?_)
  refine s_pf l_Dk_init_10 (Or.inr ⟨_, rfl⟩) h (fun f3 h => ?_)
  refine s_ic 0 l_Dk_init_13 rfl ?_
  refine s_isn l_Dk_init_14 (Nat.le_of_ble_eq_true rfl) ?_
  exact h
def B_Dk_init_15 (d : Nat) (E : Option Value → xH → Prop) (f : xH) (cu su : Nat) (a0 : Nat) (x1 : Int32) : Prop :=
  xbr ((30 : Int32) ≤ x1) ((cu + 1 ≤ 110 ∧ su + 30 ≤ 4218) ∧ xnw f (xI 1 30 (fun _ => 0)) (fun q1 f2 => xpf f2 a0 10 1 (.ref q1) (fun f3 => (cu + 2 ≤ 110 ∧ su + 32 ≤ 4218) ∧ xnw f3 (xR 7 2 (fun _ => none)) (fun q4 f5 => xpf f5 a0 10 2 (.ref q4) (fun f6 => xgr f6 a0 10 2 (fun r7 => (cu + 3 ≤ 110 ∧ su + 35 ≤ 4218) ∧ xnw f6 (xO 9 [.null, .null, .int 0]) (fun q8 f9 => (cu + 25 ≤ 110 ∧ su + 875 ≤ 4218) ∧ xSp xT0 d j_Li_init [.ref q8] f9 (fun w10 f11 => xvv w10 (xrs f11 r7 7 9 0 q8 (fun f12 => xgr f12 a0 10 2 (fun r13 => (cu + 26 ≤ 110 ∧ su + 878 ≤ 4218) ∧ xnw f12 (xO 9 [.null, .null, .int 0]) (fun q14 f15 => (cu + 48 ≤ 110 ∧ su + 1718 ≤ 4218) ∧ xSp xT0 d j_Li_init [.ref q14] f15 (fun w16 f17 => xvv w16 (xrs f17 r13 7 9 1 q14 (fun f18 => (cu + 49 ≤ 110 ∧ su + 1728 ≤ 4218) ∧ xnw f18 (xI 0 10 (fun _ => 0)) (fun q19 f20 => xpf f20 a0 10 3 (.ref q19) (fun f21 => xpf f21 a0 10 4 (.int 0) (fun f22 => xpf f22 a0 10 5 (.int (-1)) (fun f23 => xpf f23 a0 10 6 (.int 0) (fun f24 => xpf f24 a0 10 7 (.int 0) (fun f25 => (cu + 49 ≤ 110 ∧ su + 1728 ≤ 4218) ∧ E none f25))))))))))))))))))))) (xgr f a0 10 0 (fun r26 => (cu + 1 ≤ 110 ∧ su + 2 ≤ 4218) ∧ xnw f (xO 1 [.null, .int 0]) (fun q27 f28 => (cu + 2 ≤ 110 ∧ su + 82 ≤ 4218) ∧ xSp xT0 d j_By_init [.ref q27, .int 48] f28 (fun w29 f30 => xvv w29 (xrs f30 r26 3 1 x1 q27 (fun f31 => xWp (xT0, xSp xT0 d, none, m_Dk_init, E) 15 [some (.ref a0), some (.int (x1 + 1))] [] f31 (cu + 2) (su + 82)))))))
theorem b_Dk_init_15 {d : Nat} {E : Option Value → xH → Prop} {f : xH} {cu su : Nat} {a0 : Nat} {x1 : Int32} (h : B_Dk_init_15 d E f cu su a0 x1) : xWp (xT0, xSp xT0 d, none, m_Dk_init, E) 15 [some (.ref a0), some (.int x1)] [] f cu su := by
  unfold B_Dk_init_15 at h
  refine s_iln l_Dk_init_15 rfl ?_
  refine s_bp 30 l_Dk_init_16 rfl ?_
  refine s_ifc l_Dk_init_18 h (fun h => ?_) (fun h => ?_)
  · refine s_aln l_Dk_init_42 rfl ?_
    refine s_bp 30 l_Dk_init_43 rfl ?_
    refine s_na 30 l_Dk_init_45 (by decide) (by decide) (by decide) h.1.1 h.1.2 h.2 (fun q1 f2 h => ?_)
    refine s_pf l_Dk_init_47 (Or.inr ⟨_, rfl⟩) h (fun f3 h => ?_)
    refine s_aln l_Dk_init_50 rfl ?_
    refine s_ic 2 l_Dk_init_51 rfl ?_
    refine s_ana 2 l_Dk_init_52 (by decide) (by decide) (by decide) h.1.1 h.1.2 h.2 (fun q4 f5 h => ?_)
    refine s_pf l_Dk_init_55 (Or.inr ⟨_, rfl⟩) h (fun f6 h => ?_)
    refine s_aln l_Dk_init_58 rfl ?_
    refine s_gr l_Dk_init_59 h (fun r7 h => ?_)
    refine s_ic 0 l_Dk_init_62 rfl ?_
    refine s_new 3 l_Dk_init_63 rfl rfl h.1.1 h.1.2 h.2 (fun q8 f9 h => ?_)
    refine s_dup l_Dk_init_66 rfl ?_
    refine s_csp (As := []) (r := [.ref q8, .int 0, .ref r7]) (mc := 22) (ms := 840) l_Dk_init_67 rfl ⟨rfl, rfl⟩ rfl (Nat.le_of_ble_eq_true rfl) rfl h.1.1 h.1.2 h.2 (fun f11 h => ?_)
    refine s_aast l_Dk_init_70 h (fun f12 h => ?_)
    refine s_aln l_Dk_init_71 rfl ?_
    refine s_gr l_Dk_init_72 h (fun r13 h => ?_)
    refine s_ic 1 l_Dk_init_75 rfl ?_
    refine s_new 3 l_Dk_init_76 rfl rfl h.1.1 h.1.2 h.2 (fun q14 f15 h => ?_)
    refine s_dup l_Dk_init_79 rfl ?_
    refine s_csp (As := []) (r := [.ref q14, .int 1, .ref r13]) (mc := 22) (ms := 840) l_Dk_init_80 rfl ⟨rfl, rfl⟩ rfl (Nat.le_of_ble_eq_true rfl) rfl h.1.1 h.1.2 h.2 (fun f17 h => ?_)
    refine s_aast l_Dk_init_83 h (fun f18 h => ?_)
    refine s_aln l_Dk_init_84 rfl ?_
    refine s_bp 10 l_Dk_init_85 rfl ?_
    refine s_na 10 l_Dk_init_87 (by decide) (by decide) (by decide) h.1.1 h.1.2 h.2 (fun q19 f20 h => ?_)
    refine s_pf l_Dk_init_89 (Or.inr ⟨_, rfl⟩) h (fun f21 h => ?_)
    refine s_aln l_Dk_init_92 rfl ?_
    refine s_ic 0 l_Dk_init_93 rfl ?_
    refine s_pf l_Dk_init_94 ⟨_, rfl⟩ h (fun f22 h => ?_)
    refine s_aln l_Dk_init_97 rfl ?_
    refine s_ic (-1) l_Dk_init_98 rfl ?_
    refine s_pf l_Dk_init_99 ⟨_, rfl⟩ h (fun f23 h => ?_)
    refine s_aln l_Dk_init_102 rfl ?_
    refine s_ic 0 l_Dk_init_103 rfl ?_
    refine s_pf l_Dk_init_104 ⟨_, rfl⟩ h (fun f24 h => ?_)
    refine s_aln l_Dk_init_107 rfl ?_
    refine s_ic 0 l_Dk_init_108 rfl ?_
    refine s_pf l_Dk_init_109 (Or.inl rfl) h (fun f25 h => ?_)
    exact s_ret l_Dk_init_112 h.1 h.2
  · refine s_aln l_Dk_init_21 rfl ?_
    refine s_gr l_Dk_init_22 h (fun r26 h => ?_)
    refine s_iln l_Dk_init_25 rfl ?_
    refine s_new 2 l_Dk_init_26 rfl rfl h.1.1 h.1.2 h.2 (fun q27 f28 h => ?_)
    refine s_dup l_Dk_init_29 rfl ?_
    refine s_bp 48 l_Dk_init_30 rfl ?_
    refine s_csp (As := [.int 48]) (r := [.ref q27, .int x1, .ref r26]) (mc := 1) (ms := 80) l_Dk_init_32 rfl ⟨rfl, rfl⟩ rfl (Nat.le_of_ble_eq_true rfl) rfl h.1.1 h.1.2 h.2 (fun f30 h => ?_)
    refine s_aast l_Dk_init_35 h (fun f31 h => ?_)
    refine s_inc 1 l_Dk_init_36 rfl rfl ?_
    refine s_goto l_Dk_init_39 ?_
    exact h
theorem l_Li_init_0 : xlk (xm_cd m_Li_init) 0 = some (.aload_n 0, 1, (0, 0, 0, [])) := rfl
theorem l_Li_init_1 : xlk (xm_cd m_Li_init) 1 = some (.invokespecial 3, 3, (236, 0, 0, [(2, 0)])) := rfl
theorem l_Li_init_4 : xlk (xm_cd m_Li_init) 4 = some (.aload_n 0, 1, (0, 0, 0, [])) := rfl
theorem l_Li_init_5 : xlk (xm_cd m_Li_init) 5 = some (.bipush 10, 2, (0, 0, 0, [])) := rfl
theorem l_Li_init_7 : xlk (xm_cd m_Li_init) 7 = some (.anewarray 9, 3, (237, 3, 0, [])) := rfl
theorem l_Li_init_10 : xlk (xm_cd m_Li_init) 10 = some (.putfield 11, 3, (239, 9, 0, [(0, 1)])) := rfl
theorem l_Li_init_13 : xlk (xm_cd m_Li_init) 13 = some (.iconst 0, 1, (0, 0, 0, [])) := rfl
theorem l_Li_init_14 : xlk (xm_cd m_Li_init) 14 = some (.istore_n 1, 1, (0, 0, 0, [])) := rfl
theorem l_Li_init_15 : xlk (xm_cd m_Li_init) 15 = some (.iload_n 1, 1, (0, 0, 0, [])) := rfl
theorem l_Li_init_16 : xlk (xm_cd m_Li_init) 16 = some (.bipush 10, 2, (0, 0, 0, [])) := rfl
theorem l_Li_init_18 : xlk (xm_cd m_Li_init) 18 = some (.if_icmp .ge 24, 3, (0, 42, 0, [])) := rfl
theorem l_Li_init_21 : xlk (xm_cd m_Li_init) 21 = some (.aload_n 0, 1, (0, 0, 0, [])) := rfl
theorem l_Li_init_22 : xlk (xm_cd m_Li_init) 22 = some (.getfield 11, 3, (239, 9, 0, [])) := rfl
theorem l_Li_init_25 : xlk (xm_cd m_Li_init) 25 = some (.iload_n 1, 1, (0, 0, 0, [])) := rfl
theorem l_Li_init_26 : xlk (xm_cd m_Li_init) 26 = some (.new 9, 3, (237, 1, 2, [(0, 1), (0, 0)])) := rfl
theorem l_Li_init_29 : xlk (xm_cd m_Li_init) 29 = some (.dup, 1, (0, 0, 0, [])) := rfl
theorem l_Li_init_30 : xlk (xm_cd m_Li_init) 30 = some (.bipush 17, 2, (0, 0, 0, [])) := rfl
theorem l_Li_init_32 : xlk (xm_cd m_Li_init) 32 = some (.invokespecial 17, 3, (238, 1, 1, [])) := rfl
theorem l_Li_init_35 : xlk (xm_cd m_Li_init) 35 = some (.aastore, 1, (0, 3, 1, [])) := rfl
theorem l_Li_init_36 : xlk (xm_cd m_Li_init) 36 = some (.iinc 1 1, 3, (0, 0, 0, [])) := rfl
theorem l_Li_init_39 : xlk (xm_cd m_Li_init) 39 = some (.goto (-24), 3, (0, 15, 0, [])) := rfl
theorem l_Li_init_42 : xlk (xm_cd m_Li_init) 42 = some (.aload_n 0, 1, (0, 0, 0, [])) := rfl
theorem l_Li_init_43 : xlk (xm_cd m_Li_init) 43 = some (.bipush 10, 2, (0, 0, 0, [])) := rfl
theorem l_Li_init_45 : xlk (xm_cd m_Li_init) 45 = some (.newarray .int, 2, (110, 0, 0, [])) := rfl
theorem l_Li_init_47 : xlk (xm_cd m_Li_init) 47 = some (.putfield 20, 3, (240, 9, 1, [(0, 1)])) := rfl
theorem l_Li_init_50 : xlk (xm_cd m_Li_init) 50 = some (.aload_n 0, 1, (0, 0, 0, [])) := rfl
theorem l_Li_init_51 : xlk (xm_cd m_Li_init) 51 = some (.iconst 0, 1, (0, 0, 0, [])) := rfl
theorem l_Li_init_52 : xlk (xm_cd m_Li_init) 52 = some (.putfield 24, 3, (241, 9, 2, [(0, 0)])) := rfl
theorem l_Li_init_55 : xlk (xm_cd m_Li_init) 55 = some (.return_, 1, (0, 0, 0, [])) := rfl
def B_Li_init_0 (d : Nat) (E : Option Value → xH → Prop) (f : xH) (a0 : Nat) : Prop :=
  (1 ≤ 22 ∧ 10 ≤ 840) ∧ xnw f (xR 3 10 (fun _ => none)) (fun q1 f2 => xpf f2 a0 9 0 (.ref q1) (fun f3 => xWp (xT0, xSp xT0 d, none, m_Li_init, E) 15 [some (.ref a0), some (.int 0)] [] f3 1 10))
theorem b_Li_init_0 {d : Nat} {E : Option Value → xH → Prop} {f : xH} {a0 : Nat} (h : B_Li_init_0 d E f a0) : xWp (xT0, xSp xT0 d, none, m_Li_init, E) 0 [some (.ref a0), none] [] f 0 0 := by
  unfold B_Li_init_0 at h
  refine s_aln l_Li_init_0 rfl ?_
  refine s_spo l_Li_init_1 (Nat.le_of_ble_eq_true rfl) ?_
  refine s_aln l_Li_init_4 rfl ?_
  refine s_bp 10 l_Li_init_5 rfl ?_
  refine s_ana 10 l_Li_init_7 (by decide) (by decide) (by decide) h.1.1 h.1.2 h.2 (fun q1 f2 h => ?_)
  refine s_pf l_Li_init_10 (Or.inr ⟨_, rfl⟩) h (fun f3 h => ?_)
  refine s_ic 0 l_Li_init_13 rfl ?_
  refine s_isn l_Li_init_14 (Nat.le_of_ble_eq_true rfl) ?_
  exact h
def B_Li_init_15 (d : Nat) (E : Option Value → xH → Prop) (f : xH) (cu su : Nat) (a0 : Nat) (x1 : Int32) : Prop :=
  xbr ((10 : Int32) ≤ x1) ((cu + 1 ≤ 22 ∧ su + 10 ≤ 840) ∧ xnw f (xI 0 10 (fun _ => 0)) (fun q1 f2 => xpf f2 a0 9 1 (.ref q1) (fun f3 => xpf f3 a0 9 2 (.int 0) (fun f4 => (cu + 1 ≤ 22 ∧ su + 10 ≤ 840) ∧ E none f4)))) (xgr f a0 9 0 (fun r5 => (cu + 1 ≤ 22 ∧ su + 2 ≤ 840) ∧ xnw f (xO 1 [.null, .int 0]) (fun q6 f7 => (cu + 2 ≤ 22 ∧ su + 82 ≤ 840) ∧ xSp xT0 d j_By_init [.ref q6, .int 17] f7 (fun w8 f9 => xvv w8 (xrs f9 r5 3 1 x1 q6 (fun f10 => xWp (xT0, xSp xT0 d, none, m_Li_init, E) 15 [some (.ref a0), some (.int (x1 + 1))] [] f10 (cu + 2) (su + 82)))))))
theorem b_Li_init_15 {d : Nat} {E : Option Value → xH → Prop} {f : xH} {cu su : Nat} {a0 : Nat} {x1 : Int32} (h : B_Li_init_15 d E f cu su a0 x1) : xWp (xT0, xSp xT0 d, none, m_Li_init, E) 15 [some (.ref a0), some (.int x1)] [] f cu su := by
  unfold B_Li_init_15 at h
  refine s_iln l_Li_init_15 rfl ?_
  refine s_bp 10 l_Li_init_16 rfl ?_
  refine s_ifc l_Li_init_18 h (fun h => ?_) (fun h => ?_)
  · refine s_aln l_Li_init_42 rfl ?_
    refine s_bp 10 l_Li_init_43 rfl ?_
    refine s_na 10 l_Li_init_45 (by decide) (by decide) (by decide) h.1.1 h.1.2 h.2 (fun q1 f2 h => ?_)
    refine s_pf l_Li_init_47 (Or.inr ⟨_, rfl⟩) h (fun f3 h => ?_)
    refine s_aln l_Li_init_50 rfl ?_
    refine s_ic 0 l_Li_init_51 rfl ?_
    refine s_pf l_Li_init_52 ⟨_, rfl⟩ h (fun f4 h => ?_)
    exact s_ret l_Li_init_55 h.1 h.2
  · refine s_aln l_Li_init_21 rfl ?_
    refine s_gr l_Li_init_22 h (fun r5 h => ?_)
    refine s_iln l_Li_init_25 rfl ?_
    refine s_new 2 l_Li_init_26 rfl rfl h.1.1 h.1.2 h.2 (fun q6 f7 h => ?_)
    refine s_dup l_Li_init_29 rfl ?_
    refine s_bp 17 l_Li_init_30 rfl ?_
    refine s_csp (As := [.int 17]) (r := [.ref q6, .int x1, .ref r5]) (mc := 1) (ms := 80) l_Li_init_32 rfl ⟨rfl, rfl⟩ rfl (Nat.le_of_ble_eq_true rfl) rfl h.1.1 h.1.2 h.2 (fun f9 h => ?_)
    refine s_aast l_Li_init_35 h (fun f10 h => ?_)
    refine s_inc 1 l_Li_init_36 rfl rfl ?_
    refine s_goto l_Li_init_39 ?_
    exact h
theorem l_Mo_init_0 : xlk (xm_cd m_Mo_init) 0 = some (.aload_n 0, 1, (0, 0, 0, [])) := rfl
theorem l_Mo_init_1 : xlk (xm_cd m_Mo_init) 1 = some (.invokespecial 7, 3, (848, 0, 0, [(2, 0)])) := rfl
theorem l_Mo_init_4 : xlk (xm_cd m_Mo_init) 4 = some (.aload_n 0, 1, (0, 0, 0, [])) := rfl
theorem l_Mo_init_5 : xlk (xm_cd m_Mo_init) 5 = some (.bipush 100, 2, (0, 0, 0, [])) := rfl
theorem l_Mo_init_7 : xlk (xm_cd m_Mo_init) 7 = some (.newarray .byte, 2, (945, 2, 0, [])) := rfl
theorem l_Mo_init_9 : xlk (xm_cd m_Mo_init) 9 = some (.putfield 13, 3, (850, 11, 1, [(0, 1)])) := rfl
theorem l_Mo_init_12 : xlk (xm_cd m_Mo_init) 12 = some (.aload_n 0, 1, (0, 0, 0, [])) := rfl
theorem l_Mo_init_13 : xlk (xm_cd m_Mo_init) 13 = some (.bipush 18, 2, (0, 0, 0, [])) := rfl
theorem l_Mo_init_15 : xlk (xm_cd m_Mo_init) 15 = some (.newarray .byte, 2, (945, 2, 0, [])) := rfl
theorem l_Mo_init_17 : xlk (xm_cd m_Mo_init) 17 = some (.putfield 17, 3, (852, 11, 3, [(0, 1)])) := rfl
theorem l_Mo_init_20 : xlk (xm_cd m_Mo_init) 20 = some (.aload_n 0, 1, (0, 0, 0, [])) := rfl
theorem l_Mo_init_21 : xlk (xm_cd m_Mo_init) 21 = some (.sipush 2340, 3, (0, 0, 0, [])) := rfl
theorem l_Mo_init_24 : xlk (xm_cd m_Mo_init) 24 = some (.newarray .byte, 2, (945, 2, 0, [])) := rfl
theorem l_Mo_init_26 : xlk (xm_cd m_Mo_init) 26 = some (.putfield 20, 3, (854, 11, 5, [(0, 1)])) := rfl
theorem l_Mo_init_29 : xlk (xm_cd m_Mo_init) 29 = some (.aload_n 0, 1, (0, 0, 0, [])) := rfl
theorem l_Mo_init_30 : xlk (xm_cd m_Mo_init) 30 = some (.sipush 130, 3, (0, 0, 0, [])) := rfl
theorem l_Mo_init_33 : xlk (xm_cd m_Mo_init) 33 = some (.newarray .int, 2, (110, 0, 0, [])) := rfl
theorem l_Mo_init_35 : xlk (xm_cd m_Mo_init) 35 = some (.putfield 23, 3, (855, 11, 6, [(0, 1)])) := rfl
theorem l_Mo_init_38 : xlk (xm_cd m_Mo_init) 38 = some (.aload_n 0, 1, (0, 0, 0, [])) := rfl
theorem l_Mo_init_39 : xlk (xm_cd m_Mo_init) 39 = some (.sipush 6240, 3, (0, 0, 0, [])) := rfl
theorem l_Mo_init_42 : xlk (xm_cd m_Mo_init) 42 = some (.newarray .byte, 2, (945, 2, 0, [])) := rfl
theorem l_Mo_init_44 : xlk (xm_cd m_Mo_init) 44 = some (.putfield 27, 3, (856, 11, 7, [(0, 1)])) := rfl
theorem l_Mo_init_47 : xlk (xm_cd m_Mo_init) 47 = some (.aload_n 0, 1, (0, 0, 0, [])) := rfl
theorem l_Mo_init_48 : xlk (xm_cd m_Mo_init) 48 = some (.sipush 130, 3, (0, 0, 0, [])) := rfl
theorem l_Mo_init_51 : xlk (xm_cd m_Mo_init) 51 = some (.newarray .int, 2, (110, 0, 0, [])) := rfl
theorem l_Mo_init_53 : xlk (xm_cd m_Mo_init) 53 = some (.putfield 30, 3, (857, 11, 8, [(0, 1)])) := rfl
theorem l_Mo_init_56 : xlk (xm_cd m_Mo_init) 56 = some (.aload_n 0, 1, (0, 0, 0, [])) := rfl
theorem l_Mo_init_57 : xlk (xm_cd m_Mo_init) 57 = some (.bipush 13, 2, (0, 0, 0, [])) := rfl
theorem l_Mo_init_59 : xlk (xm_cd m_Mo_init) 59 = some (.newarray .int, 2, (110, 0, 0, [])) := rfl
theorem l_Mo_init_61 : xlk (xm_cd m_Mo_init) 61 = some (.putfield 33, 3, (858, 11, 9, [(0, 1)])) := rfl
theorem l_Mo_init_64 : xlk (xm_cd m_Mo_init) 64 = some (.aload_n 0, 1, (0, 0, 0, [])) := rfl
theorem l_Mo_init_65 : xlk (xm_cd m_Mo_init) 65 = some (.sipush 220, 3, (0, 0, 0, [])) := rfl
theorem l_Mo_init_68 : xlk (xm_cd m_Mo_init) 68 = some (.newarray .int, 2, (110, 0, 0, [])) := rfl
theorem l_Mo_init_70 : xlk (xm_cd m_Mo_init) 70 = some (.putfield 36, 3, (860, 11, 11, [(0, 1)])) := rfl
theorem l_Mo_init_73 : xlk (xm_cd m_Mo_init) 73 = some (.aload_n 0, 1, (0, 0, 0, [])) := rfl
theorem l_Mo_init_74 : xlk (xm_cd m_Mo_init) 74 = some (.sipush 3960, 3, (0, 0, 0, [])) := rfl
theorem l_Mo_init_77 : xlk (xm_cd m_Mo_init) 77 = some (.newarray .byte, 2, (945, 2, 0, [])) := rfl
theorem l_Mo_init_79 : xlk (xm_cd m_Mo_init) 79 = some (.putfield 39, 3, (861, 11, 12, [(0, 1)])) := rfl
theorem l_Mo_init_82 : xlk (xm_cd m_Mo_init) 82 = some (.aload_n 0, 1, (0, 0, 0, [])) := rfl
theorem l_Mo_init_83 : xlk (xm_cd m_Mo_init) 83 = some (.sipush 220, 3, (0, 0, 0, [])) := rfl
theorem l_Mo_init_86 : xlk (xm_cd m_Mo_init) 86 = some (.newarray .int, 2, (110, 0, 0, [])) := rfl
theorem l_Mo_init_88 : xlk (xm_cd m_Mo_init) 88 = some (.putfield 42, 3, (862, 11, 13, [(0, 1)])) := rfl
theorem l_Mo_init_91 : xlk (xm_cd m_Mo_init) 91 = some (.aload_n 0, 1, (0, 0, 0, [])) := rfl
theorem l_Mo_init_92 : xlk (xm_cd m_Mo_init) 92 = some (.sipush 3960, 3, (0, 0, 0, [])) := rfl
theorem l_Mo_init_95 : xlk (xm_cd m_Mo_init) 95 = some (.newarray .byte, 2, (945, 2, 0, [])) := rfl
theorem l_Mo_init_97 : xlk (xm_cd m_Mo_init) 97 = some (.putfield 45, 3, (863, 11, 14, [(0, 1)])) := rfl
theorem l_Mo_init_100 : xlk (xm_cd m_Mo_init) 100 = some (.aload_n 0, 1, (0, 0, 0, [])) := rfl
theorem l_Mo_init_101 : xlk (xm_cd m_Mo_init) 101 = some (.sipush 220, 3, (0, 0, 0, [])) := rfl
theorem l_Mo_init_104 : xlk (xm_cd m_Mo_init) 104 = some (.newarray .int, 2, (110, 0, 0, [])) := rfl
theorem l_Mo_init_106 : xlk (xm_cd m_Mo_init) 106 = some (.putfield 48, 3, (864, 11, 15, [(0, 1)])) := rfl
theorem l_Mo_init_109 : xlk (xm_cd m_Mo_init) 109 = some (.aload_n 0, 1, (0, 0, 0, [])) := rfl
theorem l_Mo_init_110 : xlk (xm_cd m_Mo_init) 110 = some (.sipush 220, 3, (0, 0, 0, [])) := rfl
theorem l_Mo_init_113 : xlk (xm_cd m_Mo_init) 113 = some (.newarray .int, 2, (110, 0, 0, [])) := rfl
theorem l_Mo_init_115 : xlk (xm_cd m_Mo_init) 115 = some (.putfield 51, 3, (865, 11, 16, [(0, 1)])) := rfl
theorem l_Mo_init_118 : xlk (xm_cd m_Mo_init) 118 = some (.aload_n 0, 1, (0, 0, 0, [])) := rfl
theorem l_Mo_init_119 : xlk (xm_cd m_Mo_init) 119 = some (.sipush 220, 3, (0, 0, 0, [])) := rfl
theorem l_Mo_init_122 : xlk (xm_cd m_Mo_init) 122 = some (.newarray .int, 2, (110, 0, 0, [])) := rfl
theorem l_Mo_init_124 : xlk (xm_cd m_Mo_init) 124 = some (.putfield 54, 3, (866, 11, 17, [(0, 1)])) := rfl
theorem l_Mo_init_127 : xlk (xm_cd m_Mo_init) 127 = some (.aload_n 0, 1, (0, 0, 0, [])) := rfl
theorem l_Mo_init_128 : xlk (xm_cd m_Mo_init) 128 = some (.sipush 220, 3, (0, 0, 0, [])) := rfl
theorem l_Mo_init_131 : xlk (xm_cd m_Mo_init) 131 = some (.newarray .int, 2, (110, 0, 0, [])) := rfl
theorem l_Mo_init_133 : xlk (xm_cd m_Mo_init) 133 = some (.putfield 57, 3, (867, 11, 18, [(0, 1)])) := rfl
theorem l_Mo_init_136 : xlk (xm_cd m_Mo_init) 136 = some (.aload_n 0, 1, (0, 0, 0, [])) := rfl
theorem l_Mo_init_137 : xlk (xm_cd m_Mo_init) 137 = some (.sipush 220, 3, (0, 0, 0, [])) := rfl
theorem l_Mo_init_140 : xlk (xm_cd m_Mo_init) 140 = some (.newarray .int, 2, (110, 0, 0, [])) := rfl
theorem l_Mo_init_142 : xlk (xm_cd m_Mo_init) 142 = some (.putfield 60, 3, (868, 11, 19, [(0, 1)])) := rfl
theorem l_Mo_init_145 : xlk (xm_cd m_Mo_init) 145 = some (.aload_n 0, 1, (0, 0, 0, [])) := rfl
theorem l_Mo_init_146 : xlk (xm_cd m_Mo_init) 146 = some (.sipush 10560, 3, (0, 0, 0, [])) := rfl
theorem l_Mo_init_149 : xlk (xm_cd m_Mo_init) 149 = some (.newarray .int, 2, (110, 0, 0, [])) := rfl
theorem l_Mo_init_151 : xlk (xm_cd m_Mo_init) 151 = some (.putfield 63, 3, (869, 11, 20, [(0, 1)])) := rfl
theorem l_Mo_init_154 : xlk (xm_cd m_Mo_init) 154 = some (.aload_n 0, 1, (0, 0, 0, [])) := rfl
theorem l_Mo_init_155 : xlk (xm_cd m_Mo_init) 155 = some (.sipush 10560, 3, (0, 0, 0, [])) := rfl
theorem l_Mo_init_158 : xlk (xm_cd m_Mo_init) 158 = some (.newarray .int, 2, (110, 0, 0, [])) := rfl
theorem l_Mo_init_160 : xlk (xm_cd m_Mo_init) 160 = some (.putfield 66, 3, (870, 11, 21, [(0, 1)])) := rfl
theorem l_Mo_init_163 : xlk (xm_cd m_Mo_init) 163 = some (.aload_n 0, 1, (0, 0, 0, [])) := rfl
theorem l_Mo_init_164 : xlk (xm_cd m_Mo_init) 164 = some (.bipush 9, 2, (0, 0, 0, [])) := rfl
theorem l_Mo_init_166 : xlk (xm_cd m_Mo_init) 166 = some (.newarray .int, 2, (110, 0, 0, [])) := rfl
theorem l_Mo_init_168 : xlk (xm_cd m_Mo_init) 168 = some (.putfield 69, 3, (871, 11, 22, [(0, 1)])) := rfl
theorem l_Mo_init_171 : xlk (xm_cd m_Mo_init) 171 = some (.aload_n 0, 1, (0, 0, 0, [])) := rfl
theorem l_Mo_init_172 : xlk (xm_cd m_Mo_init) 172 = some (.bipush 50, 2, (0, 0, 0, [])) := rfl
theorem l_Mo_init_174 : xlk (xm_cd m_Mo_init) 174 = some (.newarray .int, 2, (110, 0, 0, [])) := rfl
set_option maxRecDepth 100000 in
theorem l_Mo_init_176 : xlk (xm_cd m_Mo_init) 176 = some (.putfield 72, 3, (873, 11, 24, [(0, 1)])) := rfl
set_option maxRecDepth 100000 in
theorem l_Mo_init_179 : xlk (xm_cd m_Mo_init) 179 = some (.aload_n 0, 1, (0, 0, 0, [])) := rfl
set_option maxRecDepth 100000 in
theorem l_Mo_init_180 : xlk (xm_cd m_Mo_init) 180 = some (.bipush 50, 2, (0, 0, 0, [])) := rfl
set_option maxRecDepth 100000 in
theorem l_Mo_init_182 : xlk (xm_cd m_Mo_init) 182 = some (.newarray .int, 2, (110, 0, 0, [])) := rfl
set_option maxRecDepth 100000 in
theorem l_Mo_init_184 : xlk (xm_cd m_Mo_init) 184 = some (.putfield 75, 3, (874, 11, 25, [(0, 1)])) := rfl
set_option maxRecDepth 100000 in
theorem l_Mo_init_187 : xlk (xm_cd m_Mo_init) 187 = some (.aload_n 0, 1, (0, 0, 0, [])) := rfl
set_option maxRecDepth 100000 in
theorem l_Mo_init_188 : xlk (xm_cd m_Mo_init) 188 = some (.sipush 2500, 3, (0, 0, 0, [])) := rfl
set_option maxRecDepth 100000 in
theorem l_Mo_init_191 : xlk (xm_cd m_Mo_init) 191 = some (.newarray .int, 2, (110, 0, 0, [])) := rfl
set_option maxRecDepth 100000 in
theorem l_Mo_init_193 : xlk (xm_cd m_Mo_init) 193 = some (.putfield 78, 3, (875, 11, 26, [(0, 1)])) := rfl
set_option maxRecDepth 100000 in
theorem l_Mo_init_196 : xlk (xm_cd m_Mo_init) 196 = some (.aload_n 0, 1, (0, 0, 0, [])) := rfl
set_option maxRecDepth 100000 in
theorem l_Mo_init_197 : xlk (xm_cd m_Mo_init) 197 = some (.bipush 10, 2, (0, 0, 0, [])) := rfl
set_option maxRecDepth 100000 in
theorem l_Mo_init_199 : xlk (xm_cd m_Mo_init) 199 = some (.newarray .int, 2, (110, 0, 0, [])) := rfl
set_option maxRecDepth 100000 in
theorem l_Mo_init_201 : xlk (xm_cd m_Mo_init) 201 = some (.putfield 81, 3, (876, 11, 27, [(0, 1)])) := rfl
set_option maxRecDepth 100000 in
theorem l_Mo_init_204 : xlk (xm_cd m_Mo_init) 204 = some (.aload_n 0, 1, (0, 0, 0, [])) := rfl
set_option maxRecDepth 100000 in
theorem l_Mo_init_205 : xlk (xm_cd m_Mo_init) 205 = some (.bipush 10, 2, (0, 0, 0, [])) := rfl
set_option maxRecDepth 100000 in
theorem l_Mo_init_207 : xlk (xm_cd m_Mo_init) 207 = some (.newarray .int, 2, (110, 0, 0, [])) := rfl
set_option maxRecDepth 100000 in
theorem l_Mo_init_209 : xlk (xm_cd m_Mo_init) 209 = some (.putfield 84, 3, (877, 11, 28, [(0, 1)])) := rfl
set_option maxRecDepth 100000 in
theorem l_Mo_init_212 : xlk (xm_cd m_Mo_init) 212 = some (.aload_n 0, 1, (0, 0, 0, [])) := rfl
set_option maxRecDepth 100000 in
theorem l_Mo_init_213 : xlk (xm_cd m_Mo_init) 213 = some (.bipush 24, 2, (0, 0, 0, [])) := rfl
set_option maxRecDepth 100000 in
theorem l_Mo_init_215 : xlk (xm_cd m_Mo_init) 215 = some (.newarray .boolean, 2, (204, 1, 0, [])) := rfl
set_option maxRecDepth 100000 in
theorem l_Mo_init_217 : xlk (xm_cd m_Mo_init) 217 = some (.putfield 87, 3, (880, 11, 31, [(0, 1)])) := rfl
set_option maxRecDepth 100000 in
theorem l_Mo_init_220 : xlk (xm_cd m_Mo_init) 220 = some (.aload_n 0, 1, (0, 0, 0, [])) := rfl
set_option maxRecDepth 100000 in
theorem l_Mo_init_221 : xlk (xm_cd m_Mo_init) 221 = some (.bipush 24, 2, (0, 0, 0, [])) := rfl
set_option maxRecDepth 100000 in
theorem l_Mo_init_223 : xlk (xm_cd m_Mo_init) 223 = some (.newarray .int, 2, (110, 0, 0, [])) := rfl
set_option maxRecDepth 100000 in
theorem l_Mo_init_225 : xlk (xm_cd m_Mo_init) 225 = some (.putfield 91, 3, (881, 11, 32, [(0, 1)])) := rfl
set_option maxRecDepth 100000 in
theorem l_Mo_init_228 : xlk (xm_cd m_Mo_init) 228 = some (.aload_n 0, 1, (0, 0, 0, [])) := rfl
set_option maxRecDepth 100000 in
theorem l_Mo_init_229 : xlk (xm_cd m_Mo_init) 229 = some (.bipush 24, 2, (0, 0, 0, [])) := rfl
set_option maxRecDepth 100000 in
theorem l_Mo_init_231 : xlk (xm_cd m_Mo_init) 231 = some (.newarray .int, 2, (110, 0, 0, [])) := rfl
set_option maxRecDepth 100000 in
theorem l_Mo_init_233 : xlk (xm_cd m_Mo_init) 233 = some (.putfield 94, 3, (882, 11, 33, [(0, 1)])) := rfl
set_option maxRecDepth 100000 in
theorem l_Mo_init_236 : xlk (xm_cd m_Mo_init) 236 = some (.aload_n 0, 1, (0, 0, 0, [])) := rfl
set_option maxRecDepth 100000 in
theorem l_Mo_init_237 : xlk (xm_cd m_Mo_init) 237 = some (.sipush 1200, 3, (0, 0, 0, [])) := rfl
set_option maxRecDepth 100000 in
theorem l_Mo_init_240 : xlk (xm_cd m_Mo_init) 240 = some (.newarray .byte, 2, (945, 2, 0, [])) := rfl
set_option maxRecDepth 100000 in
theorem l_Mo_init_242 : xlk (xm_cd m_Mo_init) 242 = some (.putfield 97, 3, (884, 11, 35, [(0, 1)])) := rfl
set_option maxRecDepth 100000 in
theorem l_Mo_init_245 : xlk (xm_cd m_Mo_init) 245 = some (.aload_n 0, 1, (0, 0, 0, [])) := rfl
set_option maxRecDepth 100000 in
theorem l_Mo_init_246 : xlk (xm_cd m_Mo_init) 246 = some (.sipush 240, 3, (0, 0, 0, [])) := rfl
set_option maxRecDepth 100000 in
theorem l_Mo_init_249 : xlk (xm_cd m_Mo_init) 249 = some (.newarray .boolean, 2, (204, 1, 0, [])) := rfl
set_option maxRecDepth 100000 in
theorem l_Mo_init_251 : xlk (xm_cd m_Mo_init) 251 = some (.putfield 100, 3, (885, 11, 36, [(0, 1)])) := rfl
set_option maxRecDepth 100000 in
theorem l_Mo_init_254 : xlk (xm_cd m_Mo_init) 254 = some (.aload_n 0, 1, (0, 0, 0, [])) := rfl
set_option maxRecDepth 100000 in
theorem l_Mo_init_255 : xlk (xm_cd m_Mo_init) 255 = some (.sipush 1440, 3, (0, 0, 0, [])) := rfl
set_option maxRecDepth 100000 in
theorem l_Mo_init_258 : xlk (xm_cd m_Mo_init) 258 = some (.newarray .byte, 2, (945, 2, 0, [])) := rfl
set_option maxRecDepth 100000 in
theorem l_Mo_init_260 : xlk (xm_cd m_Mo_init) 260 = some (.putfield 103, 3, (886, 11, 37, [(0, 1)])) := rfl
set_option maxRecDepth 100000 in
theorem l_Mo_init_263 : xlk (xm_cd m_Mo_init) 263 = some (.aload_n 0, 1, (0, 0, 0, [])) := rfl
set_option maxRecDepth 100000 in
theorem l_Mo_init_264 : xlk (xm_cd m_Mo_init) 264 = some (.bipush 30, 2, (0, 0, 0, [])) := rfl
set_option maxRecDepth 100000 in
theorem l_Mo_init_266 : xlk (xm_cd m_Mo_init) 266 = some (.newarray .int, 2, (110, 0, 0, [])) := rfl
set_option maxRecDepth 100000 in
theorem l_Mo_init_268 : xlk (xm_cd m_Mo_init) 268 = some (.putfield 106, 3, (887, 11, 38, [(0, 1)])) := rfl
set_option maxRecDepth 100000 in
theorem l_Mo_init_271 : xlk (xm_cd m_Mo_init) 271 = some (.aload_n 0, 1, (0, 0, 0, [])) := rfl
set_option maxRecDepth 100000 in
theorem l_Mo_init_272 : xlk (xm_cd m_Mo_init) 272 = some (.sipush 360, 3, (0, 0, 0, [])) := rfl
set_option maxRecDepth 100000 in
theorem l_Mo_init_275 : xlk (xm_cd m_Mo_init) 275 = some (.newarray .byte, 2, (945, 2, 0, [])) := rfl
set_option maxRecDepth 100000 in
theorem l_Mo_init_277 : xlk (xm_cd m_Mo_init) 277 = some (.putfield 109, 3, (888, 11, 39, [(0, 1)])) := rfl
set_option maxRecDepth 100000 in
theorem l_Mo_init_280 : xlk (xm_cd m_Mo_init) 280 = some (.aload_n 0, 1, (0, 0, 0, [])) := rfl
set_option maxRecDepth 100000 in
theorem l_Mo_init_281 : xlk (xm_cd m_Mo_init) 281 = some (.bipush 20, 2, (0, 0, 0, [])) := rfl
set_option maxRecDepth 100000 in
theorem l_Mo_init_283 : xlk (xm_cd m_Mo_init) 283 = some (.newarray .int, 2, (110, 0, 0, [])) := rfl
set_option maxRecDepth 100000 in
theorem l_Mo_init_285 : xlk (xm_cd m_Mo_init) 285 = some (.putfield 112, 3, (889, 11, 40, [(0, 1)])) := rfl
set_option maxRecDepth 100000 in
theorem l_Mo_init_288 : xlk (xm_cd m_Mo_init) 288 = some (.aload_n 0, 1, (0, 0, 0, [])) := rfl
set_option maxRecDepth 100000 in
theorem l_Mo_init_289 : xlk (xm_cd m_Mo_init) 289 = some (.bipush 20, 2, (0, 0, 0, [])) := rfl
set_option maxRecDepth 100000 in
theorem l_Mo_init_291 : xlk (xm_cd m_Mo_init) 291 = some (.newarray .int, 2, (110, 0, 0, [])) := rfl
set_option maxRecDepth 100000 in
theorem l_Mo_init_293 : xlk (xm_cd m_Mo_init) 293 = some (.putfield 115, 3, (890, 11, 41, [(0, 1)])) := rfl
set_option maxRecDepth 100000 in
theorem l_Mo_init_296 : xlk (xm_cd m_Mo_init) 296 = some (.aload_n 0, 1, (0, 0, 0, [])) := rfl
set_option maxRecDepth 100000 in
theorem l_Mo_init_297 : xlk (xm_cd m_Mo_init) 297 = some (.iconst 2, 1, (0, 0, 0, [])) := rfl
set_option maxRecDepth 100000 in
theorem l_Mo_init_298 : xlk (xm_cd m_Mo_init) 298 = some (.newarray .int, 2, (110, 0, 0, [])) := rfl
set_option maxRecDepth 100000 in
theorem l_Mo_init_300 : xlk (xm_cd m_Mo_init) 300 = some (.putfield 118, 3, (891, 11, 42, [(0, 1)])) := rfl
set_option maxRecDepth 100000 in
theorem l_Mo_init_303 : xlk (xm_cd m_Mo_init) 303 = some (.aload_n 0, 1, (0, 0, 0, [])) := rfl
set_option maxRecDepth 100000 in
theorem l_Mo_init_304 : xlk (xm_cd m_Mo_init) 304 = some (.iconst (-1), 1, (0, 0, 0, [])) := rfl
set_option maxRecDepth 100000 in
theorem l_Mo_init_305 : xlk (xm_cd m_Mo_init) 305 = some (.putfield 121, 3, (893, 11, 44, [(0, 0)])) := rfl
set_option maxRecDepth 100000 in
theorem l_Mo_init_308 : xlk (xm_cd m_Mo_init) 308 = some (.aload_n 0, 1, (0, 0, 0, [])) := rfl
set_option maxRecDepth 100000 in
theorem l_Mo_init_309 : xlk (xm_cd m_Mo_init) 309 = some (.bipush 10, 2, (0, 0, 0, [])) := rfl
set_option maxRecDepth 100000 in
theorem l_Mo_init_311 : xlk (xm_cd m_Mo_init) 311 = some (.newarray .int, 2, (110, 0, 0, [])) := rfl
set_option maxRecDepth 100000 in
theorem l_Mo_init_313 : xlk (xm_cd m_Mo_init) 313 = some (.putfield 124, 3, (896, 11, 47, [(0, 1)])) := rfl
set_option maxRecDepth 100000 in
theorem l_Mo_init_316 : xlk (xm_cd m_Mo_init) 316 = some (.aload_n 0, 1, (0, 0, 0, [])) := rfl
set_option maxRecDepth 100000 in
theorem l_Mo_init_317 : xlk (xm_cd m_Mo_init) 317 = some (.iconst 0, 1, (0, 0, 0, [])) := rfl
set_option maxRecDepth 100000 in
theorem l_Mo_init_318 : xlk (xm_cd m_Mo_init) 318 = some (.putfield 1, 3, (849, 11, 0, [(0, 0)])) := rfl
set_option maxRecDepth 100000 in
theorem l_Mo_init_321 : xlk (xm_cd m_Mo_init) 321 = some (.iconst 0, 1, (0, 0, 0, [])) := rfl
set_option maxRecDepth 100000 in
theorem l_Mo_init_322 : xlk (xm_cd m_Mo_init) 322 = some (.istore_n 1, 1, (0, 0, 0, [])) := rfl
set_option maxRecDepth 100000 in
theorem l_Mo_init_323 : xlk (xm_cd m_Mo_init) 323 = some (.iload_n 1, 1, (0, 0, 0, [])) := rfl
set_option maxRecDepth 100000 in
theorem l_Mo_init_324 : xlk (xm_cd m_Mo_init) 324 = some (.bipush 30, 2, (0, 0, 0, [])) := rfl
set_option maxRecDepth 100000 in
theorem l_Mo_init_326 : xlk (xm_cd m_Mo_init) 326 = some (.if_icmp .ge 17, 3, (0, 343, 0, [])) := rfl
set_option maxRecDepth 100000 in
theorem l_Mo_init_329 : xlk (xm_cd m_Mo_init) 329 = some (.aload_n 0, 1, (0, 0, 0, [])) := rfl
set_option maxRecDepth 100000 in
theorem l_Mo_init_330 : xlk (xm_cd m_Mo_init) 330 = some (.getfield 106, 3, (887, 11, 38, [])) := rfl
set_option maxRecDepth 100000 in
theorem l_Mo_init_333 : xlk (xm_cd m_Mo_init) 333 = some (.iload_n 1, 1, (0, 0, 0, [])) := rfl
set_option maxRecDepth 100000 in
theorem l_Mo_init_334 : xlk (xm_cd m_Mo_init) 334 = some (.bipush (-2), 2, (0, 0, 0, [])) := rfl
set_option maxRecDepth 100000 in
theorem l_Mo_init_336 : xlk (xm_cd m_Mo_init) 336 = some (.iastore, 1, (0, 0, 0, [])) := rfl
set_option maxRecDepth 100000 in
theorem l_Mo_init_337 : xlk (xm_cd m_Mo_init) 337 = some (.iinc 1 1, 3, (0, 0, 0, [])) := rfl
set_option maxRecDepth 100000 in
theorem l_Mo_init_340 : xlk (xm_cd m_Mo_init) 340 = some (.goto (-17), 3, (0, 323, 0, [])) := rfl
set_option maxRecDepth 100000 in
theorem l_Mo_init_343 : xlk (xm_cd m_Mo_init) 343 = some (.return_, 1, (0, 0, 0, [])) := rfl
def B_Mo_init_0 (d : Nat) (E : Option Value → xH → Prop) (f : xH) (a0 : Nat) : Prop :=
  (1 ≤ 60 ∧ 100 ≤ 60000) ∧ xnw f (xI 2 100 (fun _ => 0)) (fun q1 f2 => xpf f2 a0 11 1 (.ref q1) (fun f3 => (2 ≤ 60 ∧ 118 ≤ 60000) ∧ xnw f3 (xI 2 18 (fun _ => 0)) (fun q4 f5 => xpf f5 a0 11 3 (.ref q4) (fun f6 => (3 ≤ 60 ∧ 2458 ≤ 60000) ∧ xnw f6 (xI 2 2340 (fun _ => 0)) (fun q7 f8 => xpf f8 a0 11 5 (.ref q7) (fun f9 => (4 ≤ 60 ∧ 2588 ≤ 60000) ∧ xnw f9 (xI 0 130 (fun _ => 0)) (fun q10 f11 => xpf f11 a0 11 6 (.ref q10) (fun f12 => (5 ≤ 60 ∧ 8828 ≤ 60000) ∧ xnw f12 (xI 2 6240 (fun _ => 0)) (fun q13 f14 => xpf f14 a0 11 7 (.ref q13) (fun f15 => (6 ≤ 60 ∧ 8958 ≤ 60000) ∧ xnw f15 (xI 0 130 (fun _ => 0)) (fun q16 f17 => xpf f17 a0 11 8 (.ref q16) (fun f18 => (7 ≤ 60 ∧ 8971 ≤ 60000) ∧ xnw f18 (xI 0 13 (fun _ => 0)) (fun q19 f20 => xpf f20 a0 11 9 (.ref q19) (fun f21 => (8 ≤ 60 ∧ 9191 ≤ 60000) ∧ xnw f21 (xI 0 220 (fun _ => 0)) (fun q22 f23 => xpf f23 a0 11 11 (.ref q22) (fun f24 => (9 ≤ 60 ∧ 13151 ≤ 60000) ∧ xnw f24 (xI 2 3960 (fun _ => 0)) (fun q25 f26 => xpf f26 a0 11 12 (.ref q25) (fun f27 => (10 ≤ 60 ∧ 13371 ≤ 60000) ∧ xnw f27 (xI 0 220 (fun _ => 0)) (fun q28 f29 => xpf f29 a0 11 13 (.ref q28) (fun f30 => (11 ≤ 60 ∧ 17331 ≤ 60000) ∧ xnw f30 (xI 2 3960 (fun _ => 0)) (fun q31 f32 => xpf f32 a0 11 14 (.ref q31) (fun f33 => (12 ≤ 60 ∧ 17551 ≤ 60000) ∧ xnw f33 (xI 0 220 (fun _ => 0)) (fun q34 f35 => xpf f35 a0 11 15 (.ref q34) (fun f36 => (13 ≤ 60 ∧ 17771 ≤ 60000) ∧ xnw f36 (xI 0 220 (fun _ => 0)) (fun q37 f38 => xpf f38 a0 11 16 (.ref q37) (fun f39 => (14 ≤ 60 ∧ 17991 ≤ 60000) ∧ xnw f39 (xI 0 220 (fun _ => 0)) (fun q40 f41 => xpf f41 a0 11 17 (.ref q40) (fun f42 => (15 ≤ 60 ∧ 18211 ≤ 60000) ∧ xnw f42 (xI 0 220 (fun _ => 0)) (fun q43 f44 => xpf f44 a0 11 18 (.ref q43) (fun f45 => (16 ≤ 60 ∧ 18431 ≤ 60000) ∧ xnw f45 (xI 0 220 (fun _ => 0)) (fun q46 f47 => xpf f47 a0 11 19 (.ref q46) (fun f48 => (17 ≤ 60 ∧ 28991 ≤ 60000) ∧ xnw f48 (xI 0 10560 (fun _ => 0)) (fun q49 f50 => xpf f50 a0 11 20 (.ref q49) (fun f51 => (18 ≤ 60 ∧ 39551 ≤ 60000) ∧ xnw f51 (xI 0 10560 (fun _ => 0)) (fun q52 f53 => xpf f53 a0 11 21 (.ref q52) (fun f54 => (19 ≤ 60 ∧ 39560 ≤ 60000) ∧ xnw f54 (xI 0 9 (fun _ => 0)) (fun q55 f56 => xpf f56 a0 11 22 (.ref q55) (fun f57 => (20 ≤ 60 ∧ 39610 ≤ 60000) ∧ xnw f57 (xI 0 50 (fun _ => 0)) (fun q58 f59 => xpf f59 a0 11 24 (.ref q58) (fun f60 => (21 ≤ 60 ∧ 39660 ≤ 60000) ∧ xnw f60 (xI 0 50 (fun _ => 0)) (fun q61 f62 => xpf f62 a0 11 25 (.ref q61) (fun f63 => (22 ≤ 60 ∧ 42160 ≤ 60000) ∧ xnw f63 (xI 0 2500 (fun _ => 0)) (fun q64 f65 => xpf f65 a0 11 26 (.ref q64) (fun f66 => (23 ≤ 60 ∧ 42170 ≤ 60000) ∧ xnw f66 (xI 0 10 (fun _ => 0)) (fun q67 f68 => xpf f68 a0 11 27 (.ref q67) (fun f69 => (24 ≤ 60 ∧ 42180 ≤ 60000) ∧ xnw f69 (xI 0 10 (fun _ => 0)) (fun q70 f71 => xpf f71 a0 11 28 (.ref q70) (fun f72 => (25 ≤ 60 ∧ 42204 ≤ 60000) ∧ xnw f72 (xI 1 24 (fun _ => 0)) (fun q73 f74 => xpf f74 a0 11 31 (.ref q73) (fun f75 => (26 ≤ 60 ∧ 42228 ≤ 60000) ∧ xnw f75 (xI 0 24 (fun _ => 0)) (fun q76 f77 => xpf f77 a0 11 32 (.ref q76) (fun f78 => (27 ≤ 60 ∧ 42252 ≤ 60000) ∧ xnw f78 (xI 0 24 (fun _ => 0)) (fun q79 f80 => xpf f80 a0 11 33 (.ref q79) (fun f81 => (28 ≤ 60 ∧ 43452 ≤ 60000) ∧ xnw f81 (xI 2 1200 (fun _ => 0)) (fun q82 f83 => xpf f83 a0 11 35 (.ref q82) (fun f84 => (29 ≤ 60 ∧ 43692 ≤ 60000) ∧ xnw f84 (xI 1 240 (fun _ => 0)) (fun q85 f86 => xpf f86 a0 11 36 (.ref q85) (fun f87 => (30 ≤ 60 ∧ 45132 ≤ 60000) ∧ xnw f87 (xI 2 1440 (fun _ => 0)) (fun q88 f89 => xpf f89 a0 11 37 (.ref q88) (fun f90 => (31 ≤ 60 ∧ 45162 ≤ 60000) ∧ xnw f90 (xI 0 30 (fun _ => 0)) (fun q91 f92 => xpf f92 a0 11 38 (.ref q91) (fun f93 => (32 ≤ 60 ∧ 45522 ≤ 60000) ∧ xnw f93 (xI 2 360 (fun _ => 0)) (fun q94 f95 => xpf f95 a0 11 39 (.ref q94) (fun f96 => (33 ≤ 60 ∧ 45542 ≤ 60000) ∧ xnw f96 (xI 0 20 (fun _ => 0)) (fun q97 f98 => xpf f98 a0 11 40 (.ref q97) (fun f99 => (34 ≤ 60 ∧ 45562 ≤ 60000) ∧ xnw f99 (xI 0 20 (fun _ => 0)) (fun q100 f101 => xpf f101 a0 11 41 (.ref q100) (fun f102 => (35 ≤ 60 ∧ 45564 ≤ 60000) ∧ xnw f102 (xI 0 2 (fun _ => 0)) (fun q103 f104 => xpf f104 a0 11 42 (.ref q103) (fun f105 => xpf f105 a0 11 44 (.int (-1)) (fun f106 => (36 ≤ 60 ∧ 45574 ≤ 60000) ∧ xnw f106 (xI 0 10 (fun _ => 0)) (fun q107 f108 => xpf f108 a0 11 47 (.ref q107) (fun f109 => xpf f109 a0 11 0 (.int 0) (fun f110 => xWp (xT0, xSp xT0 d, none, m_Mo_init, E) 323 [some (.ref a0), some (.int 0)] [] f110 36 45574))))))))))))))))))))))))))))))))))))))))))))))))))))))))))))))))))))))))))
theorem b_Mo_init_0 {d : Nat} {E : Option Value → xH → Prop} {f : xH} {a0 : Nat} (h : B_Mo_init_0 d E f a0) : xWp (xT0, xSp xT0 d, none, m_Mo_init, E) 0 [some (.ref a0), none] [] f 0 0 := by
  unfold B_Mo_init_0 at h
  refine s_aln l_Mo_init_0 rfl ?_
  refine s_spo l_Mo_init_1 (Nat.le_of_ble_eq_true rfl) ?_
  refine s_aln l_Mo_init_4 rfl ?_
  refine s_bp 100 l_Mo_init_5 rfl ?_
  refine s_na 100 l_Mo_init_7 (by decide) (by decide) (by decide) h.1.1 h.1.2 h.2 (fun q1 f2 h => ?_)
  refine s_pf l_Mo_init_9 (Or.inr ⟨_, rfl⟩) h (fun f3 h => ?_)
  refine s_aln l_Mo_init_12 rfl ?_
  refine s_bp 18 l_Mo_init_13 rfl ?_
  refine s_na 18 l_Mo_init_15 (by decide) (by decide) (by decide) h.1.1 h.1.2 h.2 (fun q4 f5 h => ?_)
  refine s_pf l_Mo_init_17 (Or.inr ⟨_, rfl⟩) h (fun f6 h => ?_)
  refine s_aln l_Mo_init_20 rfl ?_
  refine s_sp 2340 l_Mo_init_21 rfl ?_
  refine s_na 2340 l_Mo_init_24 (by decide) (by decide) (by decide) h.1.1 h.1.2 h.2 (fun q7 f8 h => ?_)
  refine s_pf l_Mo_init_26 (Or.inr ⟨_, rfl⟩) h (fun f9 h => ?_)
  refine s_aln l_Mo_init_29 rfl ?_
  refine s_sp 130 l_Mo_init_30 rfl ?_
  refine s_na 130 l_Mo_init_33 (by decide) (by decide) (by decide) h.1.1 h.1.2 h.2 (fun q10 f11 h => ?_)
  refine s_pf l_Mo_init_35 (Or.inr ⟨_, rfl⟩) h (fun f12 h => ?_)
  refine s_aln l_Mo_init_38 rfl ?_
  refine s_sp 6240 l_Mo_init_39 rfl ?_
  refine s_na 6240 l_Mo_init_42 (by decide) (by decide) (by decide) h.1.1 h.1.2 h.2 (fun q13 f14 h => ?_)
  refine s_pf l_Mo_init_44 (Or.inr ⟨_, rfl⟩) h (fun f15 h => ?_)
  refine s_aln l_Mo_init_47 rfl ?_
  refine s_sp 130 l_Mo_init_48 rfl ?_
  refine s_na 130 l_Mo_init_51 (by decide) (by decide) (by decide) h.1.1 h.1.2 h.2 (fun q16 f17 h => ?_)
  refine s_pf l_Mo_init_53 (Or.inr ⟨_, rfl⟩) h (fun f18 h => ?_)
  refine s_aln l_Mo_init_56 rfl ?_
  refine s_bp 13 l_Mo_init_57 rfl ?_
  refine s_na 13 l_Mo_init_59 (by decide) (by decide) (by decide) h.1.1 h.1.2 h.2 (fun q19 f20 h => ?_)
  refine s_pf l_Mo_init_61 (Or.inr ⟨_, rfl⟩) h (fun f21 h => ?_)
  refine s_aln l_Mo_init_64 rfl ?_
  refine s_sp 220 l_Mo_init_65 rfl ?_
  refine s_na 220 l_Mo_init_68 (by decide) (by decide) (by decide) h.1.1 h.1.2 h.2 (fun q22 f23 h => ?_)
  refine s_pf l_Mo_init_70 (Or.inr ⟨_, rfl⟩) h (fun f24 h => ?_)
  refine s_aln l_Mo_init_73 rfl ?_
  refine s_sp 3960 l_Mo_init_74 rfl ?_
  refine s_na 3960 l_Mo_init_77 (by decide) (by decide) (by decide) h.1.1 h.1.2 h.2 (fun q25 f26 h => ?_)
  refine s_pf l_Mo_init_79 (Or.inr ⟨_, rfl⟩) h (fun f27 h => ?_)
  refine s_aln l_Mo_init_82 rfl ?_
  refine s_sp 220 l_Mo_init_83 rfl ?_
  refine s_na 220 l_Mo_init_86 (by decide) (by decide) (by decide) h.1.1 h.1.2 h.2 (fun q28 f29 h => ?_)
  refine s_pf l_Mo_init_88 (Or.inr ⟨_, rfl⟩) h (fun f30 h => ?_)
  refine s_aln l_Mo_init_91 rfl ?_
  refine s_sp 3960 l_Mo_init_92 rfl ?_
  refine s_na 3960 l_Mo_init_95 (by decide) (by decide) (by decide) h.1.1 h.1.2 h.2 (fun q31 f32 h => ?_)
  refine s_pf l_Mo_init_97 (Or.inr ⟨_, rfl⟩) h (fun f33 h => ?_)
  refine s_aln l_Mo_init_100 rfl ?_
  refine s_sp 220 l_Mo_init_101 rfl ?_
  refine s_na 220 l_Mo_init_104 (by decide) (by decide) (by decide) h.1.1 h.1.2 h.2 (fun q34 f35 h => ?_)
  refine s_pf l_Mo_init_106 (Or.inr ⟨_, rfl⟩) h (fun f36 h => ?_)
  refine s_aln l_Mo_init_109 rfl ?_
  refine s_sp 220 l_Mo_init_110 rfl ?_
  refine s_na 220 l_Mo_init_113 (by decide) (by decide) (by decide) h.1.1 h.1.2 h.2 (fun q37 f38 h => ?_)
  refine s_pf l_Mo_init_115 (Or.inr ⟨_, rfl⟩) h (fun f39 h => ?_)
  refine s_aln l_Mo_init_118 rfl ?_
  refine s_sp 220 l_Mo_init_119 rfl ?_
  refine s_na 220 l_Mo_init_122 (by decide) (by decide) (by decide) h.1.1 h.1.2 h.2 (fun q40 f41 h => ?_)
  refine s_pf l_Mo_init_124 (Or.inr ⟨_, rfl⟩) h (fun f42 h => ?_)
  refine s_aln l_Mo_init_127 rfl ?_
  refine s_sp 220 l_Mo_init_128 rfl ?_
  refine s_na 220 l_Mo_init_131 (by decide) (by decide) (by decide) h.1.1 h.1.2 h.2 (fun q43 f44 h => ?_)
  refine s_pf l_Mo_init_133 (Or.inr ⟨_, rfl⟩) h (fun f45 h => ?_)
  refine s_aln l_Mo_init_136 rfl ?_
  refine s_sp 220 l_Mo_init_137 rfl ?_
  refine s_na 220 l_Mo_init_140 (by decide) (by decide) (by decide) h.1.1 h.1.2 h.2 (fun q46 f47 h => ?_)
  refine s_pf l_Mo_init_142 (Or.inr ⟨_, rfl⟩) h (fun f48 h => ?_)
  refine s_aln l_Mo_init_145 rfl ?_
  refine s_sp 10560 l_Mo_init_146 rfl ?_
  refine s_na 10560 l_Mo_init_149 (by decide) (by decide) (by decide) h.1.1 h.1.2 h.2 (fun q49 f50 h => ?_)
  refine s_pf l_Mo_init_151 (Or.inr ⟨_, rfl⟩) h (fun f51 h => ?_)
  refine s_aln l_Mo_init_154 rfl ?_
  refine s_sp 10560 l_Mo_init_155 rfl ?_
  refine s_na 10560 l_Mo_init_158 (by decide) (by decide) (by decide) h.1.1 h.1.2 h.2 (fun q52 f53 h => ?_)
  refine s_pf l_Mo_init_160 (Or.inr ⟨_, rfl⟩) h (fun f54 h => ?_)
  refine s_aln l_Mo_init_163 rfl ?_
  refine s_bp 9 l_Mo_init_164 rfl ?_
  refine s_na 9 l_Mo_init_166 (by decide) (by decide) (by decide) h.1.1 h.1.2 h.2 (fun q55 f56 h => ?_)
  refine s_pf l_Mo_init_168 (Or.inr ⟨_, rfl⟩) h (fun f57 h => ?_)
  refine s_aln l_Mo_init_171 rfl ?_
  refine s_bp 50 l_Mo_init_172 rfl ?_
  refine s_na 50 l_Mo_init_174 (by decide) (by decide) (by decide) h.1.1 h.1.2 h.2 (fun q58 f59 h => ?_)
  refine s_pf l_Mo_init_176 (Or.inr ⟨_, rfl⟩) h (fun f60 h => ?_)
  refine s_aln l_Mo_init_179 rfl ?_
  refine s_bp 50 l_Mo_init_180 rfl ?_
  refine s_na 50 l_Mo_init_182 (by decide) (by decide) (by decide) h.1.1 h.1.2 h.2 (fun q61 f62 h => ?_)
  refine s_pf l_Mo_init_184 (Or.inr ⟨_, rfl⟩) h (fun f63 h => ?_)
  refine s_aln l_Mo_init_187 rfl ?_
  refine s_sp 2500 l_Mo_init_188 rfl ?_
  refine s_na 2500 l_Mo_init_191 (by decide) (by decide) (by decide) h.1.1 h.1.2 h.2 (fun q64 f65 h => ?_)
  refine s_pf l_Mo_init_193 (Or.inr ⟨_, rfl⟩) h (fun f66 h => ?_)
  refine s_aln l_Mo_init_196 rfl ?_
  refine s_bp 10 l_Mo_init_197 rfl ?_
  refine s_na 10 l_Mo_init_199 (by decide) (by decide) (by decide) h.1.1 h.1.2 h.2 (fun q67 f68 h => ?_)
  refine s_pf l_Mo_init_201 (Or.inr ⟨_, rfl⟩) h (fun f69 h => ?_)
  refine s_aln l_Mo_init_204 rfl ?_
  refine s_bp 10 l_Mo_init_205 rfl ?_
  refine s_na 10 l_Mo_init_207 (by decide) (by decide) (by decide) h.1.1 h.1.2 h.2 (fun q70 f71 h => ?_)
  refine s_pf l_Mo_init_209 (Or.inr ⟨_, rfl⟩) h (fun f72 h => ?_)
  refine s_aln l_Mo_init_212 rfl ?_
  refine s_bp 24 l_Mo_init_213 rfl ?_
  refine s_na 24 l_Mo_init_215 (by decide) (by decide) (by decide) h.1.1 h.1.2 h.2 (fun q73 f74 h => ?_)
  refine s_pf l_Mo_init_217 (Or.inr ⟨_, rfl⟩) h (fun f75 h => ?_)
  refine s_aln l_Mo_init_220 rfl ?_
  refine s_bp 24 l_Mo_init_221 rfl ?_
  refine s_na 24 l_Mo_init_223 (by decide) (by decide) (by decide) h.1.1 h.1.2 h.2 (fun q76 f77 h => ?_)
  refine s_pf l_Mo_init_225 (Or.inr ⟨_, rfl⟩) h (fun f78 h => ?_)
  refine s_aln l_Mo_init_228 rfl ?_
  refine s_bp 24 l_Mo_init_229 rfl ?_
  refine s_na 24 l_Mo_init_231 (by decide) (by decide) (by decide) h.1.1 h.1.2 h.2 (fun q79 f80 h => ?_)
  refine s_pf l_Mo_init_233 (Or.inr ⟨_, rfl⟩) h (fun f81 h => ?_)
  refine s_aln l_Mo_init_236 rfl ?_
  refine s_sp 1200 l_Mo_init_237 rfl ?_
  refine s_na 1200 l_Mo_init_240 (by decide) (by decide) (by decide) h.1.1 h.1.2 h.2 (fun q82 f83 h => ?_)
  refine s_pf l_Mo_init_242 (Or.inr ⟨_, rfl⟩) h (fun f84 h => ?_)
  refine s_aln l_Mo_init_245 rfl ?_
  refine s_sp 240 l_Mo_init_246 rfl ?_
  refine s_na 240 l_Mo_init_249 (by decide) (by decide) (by decide) h.1.1 h.1.2 h.2 (fun q85 f86 h => ?_)
  refine s_pf l_Mo_init_251 (Or.inr ⟨_, rfl⟩) h (fun f87 h => ?_)
  refine s_aln l_Mo_init_254 rfl ?_
  refine s_sp 1440 l_Mo_init_255 rfl ?_
  refine s_na 1440 l_Mo_init_258 (by decide) (by decide) (by decide) h.1.1 h.1.2 h.2 (fun q88 f89 h => ?_)
  refine s_pf l_Mo_init_260 (Or.inr ⟨_, rfl⟩) h (fun f90 h => ?_)
  refine s_aln l_Mo_init_263 rfl ?_
  refine s_bp 30 l_Mo_init_264 rfl ?_
  refine s_na 30 l_Mo_init_266 (by decide) (by decide) (by decide) h.1.1 h.1.2 h.2 (fun q91 f92 h => ?_)
  refine s_pf l_Mo_init_268 (Or.inr ⟨_, rfl⟩) h (fun f93 h => ?_)
  refine s_aln l_Mo_init_271 rfl ?_
  refine s_sp 360 l_Mo_init_272 rfl ?_
  refine s_na 360 l_Mo_init_275 (by decide) (by decide) (by decide) h.1.1 h.1.2 h.2 (fun q94 f95 h => ?_)
  refine s_pf l_Mo_init_277 (Or.inr ⟨_, rfl⟩) h (fun f96 h => ?_)
  refine s_aln l_Mo_init_280 rfl ?_
  refine s_bp 20 l_Mo_init_281 rfl ?_
  refine s_na 20 l_Mo_init_283 (by decide) (by decide) (by decide) h.1.1 h.1.2 h.2 (fun q97 f98 h => ?_)
  refine s_pf l_Mo_init_285 (Or.inr ⟨_, rfl⟩) h (fun f99 h => ?_)
  refine s_aln l_Mo_init_288 rfl ?_
  refine s_bp 20 l_Mo_init_289 rfl ?_
  refine s_na 20 l_Mo_init_291 (by decide) (by decide) (by decide) h.1.1 h.1.2 h.2 (fun q100 f101 h => ?_)
  refine s_pf l_Mo_init_293 (Or.inr ⟨_, rfl⟩) h (fun f102 h => ?_)
  refine s_aln l_Mo_init_296 rfl ?_
  refine s_ic 2 l_Mo_init_297 rfl ?_
  refine s_na 2 l_Mo_init_298 (by decide) (by decide) (by decide) h.1.1 h.1.2 h.2 (fun q103 f104 h => ?_)
  refine s_pf l_Mo_init_300 (Or.inr ⟨_, rfl⟩) h (fun f105 h => ?_)
  refine s_aln l_Mo_init_303 rfl ?_
  refine s_ic (-1) l_Mo_init_304 rfl ?_
  refine s_pf l_Mo_init_305 ⟨_, rfl⟩ h (fun f106 h => ?_)
  refine s_aln l_Mo_init_308 rfl ?_
  refine s_bp 10 l_Mo_init_309 rfl ?_
  refine s_na 10 l_Mo_init_311 (by decide) (by decide) (by decide) h.1.1 h.1.2 h.2 (fun q107 f108 h => ?_)
  refine s_pf l_Mo_init_313 (Or.inr ⟨_, rfl⟩) h (fun f109 h => ?_)
  refine s_aln l_Mo_init_316 rfl ?_
  refine s_ic 0 l_Mo_init_317 rfl ?_
  refine s_pf l_Mo_init_318 ⟨_, rfl⟩ h (fun f110 h => ?_)
  refine s_ic 0 l_Mo_init_321 rfl ?_
  refine s_isn l_Mo_init_322 (Nat.le_of_ble_eq_true rfl) ?_
  exact h
def B_Mo_init_323 (d : Nat) (E : Option Value → xH → Prop) (f : xH) (cu su : Nat) (a0 : Nat) (x1 : Int32) : Prop :=
  xbr ((30 : Int32) ≤ x1) ((cu ≤ 60 ∧ su ≤ 60000) ∧ E none f) (xgr f a0 11 38 (fun r1 => xas f r1 0 x1 (-2) (fun f2 => xWp (xT0, xSp xT0 d, none, m_Mo_init, E) 323 [some (.ref a0), some (.int (x1 + 1))] [] f2 cu su)))
theorem b_Mo_init_323 {d : Nat} {E : Option Value → xH → Prop} {f : xH} {cu su : Nat} {a0 : Nat} {x1 : Int32} (h : B_Mo_init_323 d E f cu su a0 x1) : xWp (xT0, xSp xT0 d, none, m_Mo_init, E) 323 [some (.ref a0), some (.int x1)] [] f cu su := by
  unfold B_Mo_init_323 at h
  refine s_iln l_Mo_init_323 rfl ?_
  refine s_bp 30 l_Mo_init_324 rfl ?_
  refine s_ifc l_Mo_init_326 h (fun h => ?_) (fun h => ?_)
  · exact s_ret l_Mo_init_343 h.1 h.2
  · refine s_aln l_Mo_init_329 rfl ?_
    refine s_gr l_Mo_init_330 h (fun r1 h => ?_)
    refine s_iln l_Mo_init_333 rfl ?_
    refine s_bp (-2) l_Mo_init_334 rfl ?_
    refine s_iast l_Mo_init_336 h (fun f2 h => ?_)
    refine s_inc 1 l_Mo_init_337 rfl rfl ?_
    refine s_goto l_Mo_init_340 ?_
    exact h
