/-! blocks of Mo, 6 -/
theorem l_Mo_conflict_0 : xlk (xm_cd m_Mo_conflict) 0 = some (.aload_n 0, 1, (0, 0, 0, [])) := rfl
theorem l_Mo_conflict_1 : xlk (xm_cd m_Mo_conflict) 1 = some (.iconst 0, 1, (0, 0, 0, [])) := rfl
theorem l_Mo_conflict_2 : xlk (xm_cd m_Mo_conflict) 2 = some (.putfield 1, 3, (849, 11, 0, [(0, 0)])) := rfl
theorem l_Mo_conflict_5 : xlk (xm_cd m_Mo_conflict) 5 = some (.iload_n 1, 1, (0, 0, 0, [])) := rfl
theorem l_Mo_conflict_6 : xlk (xm_cd m_Mo_conflict) 6 = some (.iconst (-1), 1, (0, 0, 0, [])) := rfl
theorem l_Mo_conflict_7 : xlk (xm_cd m_Mo_conflict) 7 = some (.if_icmp .ne 12, 3, (0, 19, 0, [])) := rfl
theorem l_Mo_conflict_10 : xlk (xm_cd m_Mo_conflict) 10 = some (.iload_n 2, 1, (0, 0, 0, [])) := rfl
theorem l_Mo_conflict_11 : xlk (xm_cd m_Mo_conflict) 11 = some (.ifCond .ne 8, 3, (0, 19, 0, [])) := rfl
theorem l_Mo_conflict_14 : xlk (xm_cd m_Mo_conflict) 14 = some (.aload_n 0, 1, (0, 0, 0, [])) := rfl
theorem l_Mo_conflict_15 : xlk (xm_cd m_Mo_conflict) 15 = some (.getfield 282, 3, (883, 11, 34, [])) := rfl
theorem l_Mo_conflict_18 : xlk (xm_cd m_Mo_conflict) 18 = some (.ireturn, 1, (0, 0, 0, [])) := rfl
theorem l_Mo_conflict_19 : xlk (xm_cd m_Mo_conflict) 19 = some (.iload_n 1, 1, (0, 0, 0, [])) := rfl
theorem l_Mo_conflict_20 : xlk (xm_cd m_Mo_conflict) 20 = some (.i2l, 1, (0, 0, 0, [])) := rfl
theorem l_Mo_conflict_21 : xlk (xm_cd m_Mo_conflict) 21 = some (.lconst 0, 1, (0, 0, 0, [])) := rfl
theorem l_Mo_conflict_22 : xlk (xm_cd m_Mo_conflict) 22 = some (.aload_n 0, 1, (0, 0, 0, [])) := rfl
theorem l_Mo_conflict_23 : xlk (xm_cd m_Mo_conflict) 23 = some (.getfield 282, 3, (883, 11, 34, [])) := rfl
theorem l_Mo_conflict_26 : xlk (xm_cd m_Mo_conflict) 26 = some (.iconst 1, 1, (0, 0, 0, [])) := rfl
theorem l_Mo_conflict_27 : xlk (xm_cd m_Mo_conflict) 27 = some (.isub, 1, (0, 0, 0, [])) := rfl
theorem l_Mo_conflict_28 : xlk (xm_cd m_Mo_conflict) 28 = some (.i2l, 1, (0, 0, 0, [])) := rfl
theorem l_Mo_conflict_29 : xlk (xm_cd m_Mo_conflict) 29 = some (.invokestatic 132, 3, (955, 0, 0, [(2, 2)])) := rfl
theorem l_Mo_conflict_32 : xlk (xm_cd m_Mo_conflict) 32 = some (.ifCond .eq 35, 3, (0, 67, 0, [])) := rfl
theorem l_Mo_conflict_35 : xlk (xm_cd m_Mo_conflict) 35 = some (.iload_n 2, 1, (0, 0, 0, [])) := rfl
theorem l_Mo_conflict_36 : xlk (xm_cd m_Mo_conflict) 36 = some (.i2l, 1, (0, 0, 0, [])) := rfl
theorem l_Mo_conflict_37 : xlk (xm_cd m_Mo_conflict) 37 = some (.lconst 0, 1, (0, 0, 0, [])) := rfl
theorem l_Mo_conflict_38 : xlk (xm_cd m_Mo_conflict) 38 = some (.lconst 1, 1, (0, 0, 0, [])) := rfl
theorem l_Mo_conflict_39 : xlk (xm_cd m_Mo_conflict) 39 = some (.invokestatic 132, 3, (955, 0, 0, [(2, 2)])) := rfl
theorem l_Mo_conflict_42 : xlk (xm_cd m_Mo_conflict) 42 = some (.ifCond .eq 25, 3, (0, 67, 0, [])) := rfl
theorem l_Mo_conflict_45 : xlk (xm_cd m_Mo_conflict) 45 = some (.iload_n 2, 1, (0, 0, 0, [])) := rfl
theorem l_Mo_conflict_46 : xlk (xm_cd m_Mo_conflict) 46 = some (.ifCond .ne 12, 3, (0, 58, 0, [])) := rfl
theorem l_Mo_conflict_49 : xlk (xm_cd m_Mo_conflict) 49 = some (.aload_n 0, 1, (0, 0, 0, [])) := rfl
theorem l_Mo_conflict_50 : xlk (xm_cd m_Mo_conflict) 50 = some (.getfield 91, 3, (881, 11, 32, [])) := rfl
theorem l_Mo_conflict_53 : xlk (xm_cd m_Mo_conflict) 53 = some (.iload_n 1, 1, (0, 0, 0, [])) := rfl
theorem l_Mo_conflict_54 : xlk (xm_cd m_Mo_conflict) 54 = some (.iaload, 1, (0, 0, 0, [])) := rfl
theorem l_Mo_conflict_55 : xlk (xm_cd m_Mo_conflict) 55 = some (.goto 13, 3, (0, 68, 0, [])) := rfl
theorem l_Mo_conflict_58 : xlk (xm_cd m_Mo_conflict) 58 = some (.aload_n 0, 1, (0, 0, 0, [])) := rfl
theorem l_Mo_conflict_59 : xlk (xm_cd m_Mo_conflict) 59 = some (.getfield 94, 3, (882, 11, 33, [])) := rfl
theorem l_Mo_conflict_62 : xlk (xm_cd m_Mo_conflict) 62 = some (.iload_n 1, 1, (0, 0, 0, [])) := rfl
theorem l_Mo_conflict_63 : xlk (xm_cd m_Mo_conflict) 63 = some (.iaload, 1, (0, 0, 0, [])) := rfl
theorem l_Mo_conflict_64 : xlk (xm_cd m_Mo_conflict) 64 = some (.goto 4, 3, (0, 68, 0, [])) := rfl
theorem l_Mo_conflict_67 : xlk (xm_cd m_Mo_conflict) 67 = some (.iconst (-1), 1, (0, 0, 0, [])) := rfl
theorem l_Mo_conflict_68 : xlk (xm_cd m_Mo_conflict) 68 = some (.ireturn, 1, (0, 0, 0, [])) := rfl
def B_Mo_conflict_0 (d : Nat) (E : Option Value → xH → Prop) (f : xH) (a0 : Nat) (x1 : Int32) (x2 : Int32) : Prop :=
  xpf f a0 11 0 (.int 0) (fun f1 => xbr (¬ x1 = (-1)) (xWp (xT0, xSp xT0 d, none, m_Mo_conflict, E) 19 [some (.ref a0), some (.int x1), some (.int x2)] [] f1 0 0) (xbr (¬ x2 = 0) (xWp (xT0, xSp xT0 d, none, m_Mo_conflict, E) 19 [some (.ref a0), some (.int x1), some (.int x2)] [] f1 0 0) (xgi f1 a0 11 34 (fun v2 => E (some (.int v2)) f1))))
theorem b_Mo_conflict_0 {d : Nat} {E : Option Value → xH → Prop} {f : xH} {a0 : Nat} {x1 : Int32} {x2 : Int32} (h : B_Mo_conflict_0 d E f a0 x1 x2) : xWp (xT0, xSp xT0 d, none, m_Mo_conflict, E) 0 [some (.ref a0), some (.int x1), some (.int x2)] [] f 0 0 := by
  unfold B_Mo_conflict_0 at h
  refine s_aln l_Mo_conflict_0 rfl ?_
  refine s_ic 0 l_Mo_conflict_1 rfl ?_
  refine s_pf l_Mo_conflict_2 ⟨_, rfl⟩ h (fun f1 h => ?_)
  refine s_iln l_Mo_conflict_5 rfl ?_
  refine s_ic (-1) l_Mo_conflict_6 rfl ?_
  refine s_ifc l_Mo_conflict_7 h (fun h => ?_) (fun h => ?_)
  · exact h
  · refine s_iln l_Mo_conflict_10 rfl ?_
    refine s_if l_Mo_conflict_11 h (fun h => ?_) (fun h => ?_)
    · exact h
    · refine s_aln l_Mo_conflict_14 rfl ?_
      refine s_gi l_Mo_conflict_15 h (fun v2 h => ?_)
      exact s_iret l_Mo_conflict_18 rfl ⟨Nat.zero_le _, Nat.zero_le _⟩ h
def B_Mo_conflict_19 (d : Nat) (E : Option Value → xH → Prop) (f : xH) (a0 : Nat) (x1 : Int32) (x2 : Int32) : Prop :=
  xgi f a0 11 34 (fun v1 => xbr ((if (0 : Int64) ≤ x1.toInt64 ∧ x1.toInt64 ≤ (v1 - 1).toInt64 then (1 : Int32) else 0) = 0) (E (some (.int (-1))) f) (xbr ((if (0 : Int64) ≤ x2.toInt64 ∧ x2.toInt64 ≤ 1 then (1 : Int32) else 0) = 0) (E (some (.int (-1))) f) (xbr (¬ x2 = 0) (xgr f a0 11 33 (fun r2 => xal f r2 0 x1 (fun v3 => E (some (.int v3)) f))) (xgr f a0 11 32 (fun r4 => xal f r4 0 x1 (fun v5 => E (some (.int v5)) f))))))
theorem b_Mo_conflict_19 {d : Nat} {E : Option Value → xH → Prop} {f : xH} {a0 : Nat} {x1 : Int32} {x2 : Int32} (h : B_Mo_conflict_19 d E f a0 x1 x2) : xWp (xT0, xSp xT0 d, none, m_Mo_conflict, E) 19 [some (.ref a0), some (.int x1), some (.int x2)] [] f 0 0 := by
  unfold B_Mo_conflict_19 at h
  refine s_iln l_Mo_conflict_19 rfl ?_
  refine s_i2l l_Mo_conflict_20 ?_
  refine s_lc 0 l_Mo_conflict_21 rfl ?_
  refine s_aln l_Mo_conflict_22 rfl ?_
  refine s_gi l_Mo_conflict_23 h (fun v1 h => ?_)
  refine s_ic 1 l_Mo_conflict_26 rfl ?_
  refine s_isub l_Mo_conflict_27 ?_
  refine s_i2l l_Mo_conflict_28 ?_
  refine s_in l_Mo_conflict_29 (Nat.le_of_ble_eq_true rfl) ⟨Nat.zero_le _, Nat.zero_le _⟩ ?_
  refine s_if l_Mo_conflict_32 h (fun h => ?_) (fun h => ?_)
  · refine s_ic (-1) l_Mo_conflict_67 rfl ?_
    exact s_iret l_Mo_conflict_68 rfl ⟨Nat.zero_le _, Nat.zero_le _⟩ h
  · refine s_iln l_Mo_conflict_35 rfl ?_
    refine s_i2l l_Mo_conflict_36 ?_
    refine s_lc 0 l_Mo_conflict_37 rfl ?_
    refine s_lc 1 l_Mo_conflict_38 rfl ?_
    refine s_in l_Mo_conflict_39 (Nat.le_of_ble_eq_true rfl) ⟨Nat.zero_le _, Nat.zero_le _⟩ ?_
    refine s_if l_Mo_conflict_42 h (fun h => ?_) (fun h => ?_)
    · refine s_ic (-1) l_Mo_conflict_67 rfl ?_
      exact s_iret l_Mo_conflict_68 rfl ⟨Nat.zero_le _, Nat.zero_le _⟩ h
    · refine s_iln l_Mo_conflict_45 rfl ?_
      refine s_if l_Mo_conflict_46 h (fun h => ?_) (fun h => ?_)
      · refine s_aln l_Mo_conflict_58 rfl ?_
        refine s_gr l_Mo_conflict_59 h (fun r2 h => ?_)
        refine s_iln l_Mo_conflict_62 rfl ?_
        refine s_ial l_Mo_conflict_63 rfl h (fun v3 h => ?_)
        refine s_goto l_Mo_conflict_64 ?_
        exact s_iret l_Mo_conflict_68 rfl ⟨Nat.zero_le _, Nat.zero_le _⟩ h
      · refine s_aln l_Mo_conflict_49 rfl ?_
        refine s_gr l_Mo_conflict_50 h (fun r4 h => ?_)
        refine s_iln l_Mo_conflict_53 rfl ?_
        refine s_ial l_Mo_conflict_54 rfl h (fun v5 h => ?_)
        refine s_goto l_Mo_conflict_55 ?_
        exact s_iret l_Mo_conflict_68 rfl ⟨Nat.zero_le _, Nat.zero_le _⟩ h
theorem l_Mo_inverse_0 : xlk (xm_cd m_Mo_inverse) 0 = some (.aload_n 0, 1, (0, 0, 0, [])) := rfl
theorem l_Mo_inverse_1 : xlk (xm_cd m_Mo_inverse) 1 = some (.iconst 0, 1, (0, 0, 0, [])) := rfl
theorem l_Mo_inverse_2 : xlk (xm_cd m_Mo_inverse) 2 = some (.putfield 1, 3, (849, 11, 0, [(0, 0)])) := rfl
theorem l_Mo_inverse_5 : xlk (xm_cd m_Mo_inverse) 5 = some (.aload_n 0, 1, (0, 0, 0, [])) := rfl
theorem l_Mo_inverse_6 : xlk (xm_cd m_Mo_inverse) 6 = some (.iload_n 1, 1, (0, 0, 0, [])) := rfl
theorem l_Mo_inverse_7 : xlk (xm_cd m_Mo_inverse) 7 = some (.invokevirtual 257, 3, (1081, 185, 1, [])) := rfl
theorem l_Mo_inverse_10 : xlk (xm_cd m_Mo_inverse) 10 = some (.ifCond .eq 5, 3, (0, 15, 0, [])) := rfl
theorem l_Mo_inverse_13 : xlk (xm_cd m_Mo_inverse) 13 = some (.iconst (-1), 1, (0, 0, 0, [])) := rfl
theorem l_Mo_inverse_14 : xlk (xm_cd m_Mo_inverse) 14 = some (.ireturn, 1, (0, 0, 0, [])) := rfl
theorem l_Mo_inverse_15 : xlk (xm_cd m_Mo_inverse) 15 = some (.aload_n 0, 1, (0, 0, 0, [])) := rfl
theorem l_Mo_inverse_16 : xlk (xm_cd m_Mo_inverse) 16 = some (.getfield 198, 3, (872, 11, 23, [])) := rfl
theorem l_Mo_inverse_19 : xlk (xm_cd m_Mo_inverse) 19 = some (.bipush 8, 2, (0, 0, 0, [])) := rfl
theorem l_Mo_inverse_21 : xlk (xm_cd m_Mo_inverse) 21 = some (.if_icmp .ne 6, 3, (0, 27, 0, [])) := rfl
theorem l_Mo_inverse_24 : xlk (xm_cd m_Mo_inverse) 24 = some (.bipush (-3), 2, (0, 0, 0, [])) := rfl
theorem l_Mo_inverse_26 : xlk (xm_cd m_Mo_inverse) 26 = some (.ireturn, 1, (0, 0, 0, [])) := rfl
theorem l_Mo_inverse_27 : xlk (xm_cd m_Mo_inverse) 27 = some (.aload_n 0, 1, (0, 0, 0, [])) := rfl
theorem l_Mo_inverse_28 : xlk (xm_cd m_Mo_inverse) 28 = some (.getfield 198, 3, (872, 11, 23, [])) := rfl
theorem l_Mo_inverse_31 : xlk (xm_cd m_Mo_inverse) 31 = some (.istore_n 2, 1, (0, 0, 0, [])) := rfl
theorem l_Mo_inverse_32 : xlk (xm_cd m_Mo_inverse) 32 = some (.aload_n 0, 1, (0, 0, 0, [])) := rfl
theorem l_Mo_inverse_33 : xlk (xm_cd m_Mo_inverse) 33 = some (.getfield 69, 3, (871, 11, 22, [])) := rfl
theorem l_Mo_inverse_36 : xlk (xm_cd m_Mo_inverse) 36 = some (.iload_n 2, 1, (0, 0, 0, [])) := rfl
theorem l_Mo_inverse_37 : xlk (xm_cd m_Mo_inverse) 37 = some (.iconst 0, 1, (0, 0, 0, [])) := rfl
theorem l_Mo_inverse_38 : xlk (xm_cd m_Mo_inverse) 38 = some (.iastore, 1, (0, 0, 0, [])) := rfl
theorem l_Mo_inverse_39 : xlk (xm_cd m_Mo_inverse) 39 = some (.iconst 0, 1, (0, 0, 0, [])) := rfl
theorem l_Mo_inverse_40 : xlk (xm_cd m_Mo_inverse) 40 = some (.istore_n 3, 1, (0, 0, 0, [])) := rfl
theorem l_Mo_inverse_41 : xlk (xm_cd m_Mo_inverse) 41 = some (.iload_n 3, 1, (0, 0, 0, [])) := rfl
theorem l_Mo_inverse_42 : xlk (xm_cd m_Mo_inverse) 42 = some (.aload_n 0, 1, (0, 0, 0, [])) := rfl
theorem l_Mo_inverse_43 : xlk (xm_cd m_Mo_inverse) 43 = some (.getfield 69, 3, (871, 11, 22, [])) := rfl
theorem l_Mo_inverse_46 : xlk (xm_cd m_Mo_inverse) 46 = some (.iload_n 1, 1, (0, 0, 0, [])) := rfl
theorem l_Mo_inverse_47 : xlk (xm_cd m_Mo_inverse) 47 = some (.iaload, 1, (0, 0, 0, [])) := rfl
theorem l_Mo_inverse_48 : xlk (xm_cd m_Mo_inverse) 48 = some (.if_icmp .ge 70, 3, (0, 118, 0, [])) := rfl
theorem l_Mo_inverse_51 : xlk (xm_cd m_Mo_inverse) 51 = some (.aload_n 0, 1, (0, 0, 0, [])) := rfl
theorem l_Mo_inverse_52 : xlk (xm_cd m_Mo_inverse) 52 = some (.bipush 24, 2, (0, 0, 0, [])) := rfl
theorem l_Mo_inverse_54 : xlk (xm_cd m_Mo_inverse) 54 = some (.iload_n 1, 1, (0, 0, 0, [])) := rfl
theorem l_Mo_inverse_55 : xlk (xm_cd m_Mo_inverse) 55 = some (.imul, 1, (0, 0, 0, [])) := rfl
theorem l_Mo_inverse_56 : xlk (xm_cd m_Mo_inverse) 56 = some (.iload_n 3, 1, (0, 0, 0, [])) := rfl
theorem l_Mo_inverse_57 : xlk (xm_cd m_Mo_inverse) 57 = some (.iadd, 1, (0, 0, 0, [])) := rfl
theorem l_Mo_inverse_58 : xlk (xm_cd m_Mo_inverse) 58 = some (.sipush 217, 3, (0, 0, 0, [])) := rfl
theorem l_Mo_inverse_61 : xlk (xm_cd m_Mo_inverse) 61 = some (.invokevirtual 204, 3, (1062, 179, 2, [])) := rfl
theorem l_Mo_inverse_64 : xlk (xm_cd m_Mo_inverse) 64 = some (.aload_n 0, 1, (0, 0, 0, [])) := rfl
theorem l_Mo_inverse_65 : xlk (xm_cd m_Mo_inverse) 65 = some (.invokevirtual 292, 3, (1127, 198, 0, [])) := rfl
theorem l_Mo_inverse_68 : xlk (xm_cd m_Mo_inverse) 68 = some (.aload_n 0, 1, (0, 0, 0, [])) := rfl
theorem l_Mo_inverse_69 : xlk (xm_cd m_Mo_inverse) 69 = some (.getfield 36, 3, (860, 11, 11, [])) := rfl
theorem l_Mo_inverse_72 : xlk (xm_cd m_Mo_inverse) 72 = some (.sipush 217, 3, (0, 0, 0, [])) := rfl
theorem l_Mo_inverse_75 : xlk (xm_cd m_Mo_inverse) 75 = some (.iaload, 1, (0, 0, 0, [])) := rfl
theorem l_Mo_inverse_76 : xlk (xm_cd m_Mo_inverse) 76 = some (.istore 4, 2, (0, 0, 0, [])) := rfl
theorem l_Mo_inverse_78 : xlk (xm_cd m_Mo_inverse) 78 = some (.aload_n 0, 1, (0, 0, 0, [])) := rfl
theorem l_Mo_inverse_79 : xlk (xm_cd m_Mo_inverse) 79 = some (.getfield 36, 3, (860, 11, 11, [])) := rfl
theorem l_Mo_inverse_82 : xlk (xm_cd m_Mo_inverse) 82 = some (.sipush 217, 3, (0, 0, 0, [])) := rfl
theorem l_Mo_inverse_85 : xlk (xm_cd m_Mo_inverse) 85 = some (.iload 4, 2, (0, 0, 0, [])) := rfl
theorem l_Mo_inverse_87 : xlk (xm_cd m_Mo_inverse) 87 = some (.ifCond .ne 7, 3, (0, 94, 0, [])) := rfl
theorem l_Mo_inverse_90 : xlk (xm_cd m_Mo_inverse) 90 = some (.iconst 1, 1, (0, 0, 0, [])) := rfl
theorem l_Mo_inverse_91 : xlk (xm_cd m_Mo_inverse) 91 = some (.goto 15, 3, (0, 106, 0, [])) := rfl
theorem l_Mo_inverse_94 : xlk (xm_cd m_Mo_inverse) 94 = some (.iload 4, 2, (0, 0, 0, [])) := rfl
theorem l_Mo_inverse_96 : xlk (xm_cd m_Mo_inverse) 96 = some (.iconst 1, 1, (0, 0, 0, [])) := rfl
theorem l_Mo_inverse_97 : xlk (xm_cd m_Mo_inverse) 97 = some (.if_icmp .ne 7, 3, (0, 104, 0, [])) := rfl
theorem l_Mo_inverse_100 : xlk (xm_cd m_Mo_inverse) 100 = some (.iconst 0, 1, (0, 0, 0, [])) := rfl
theorem l_Mo_inverse_101 : xlk (xm_cd m_Mo_inverse) 101 = some (.goto 5, 3, (0, 106, 0, [])) := rfl
theorem l_Mo_inverse_104 : xlk (xm_cd m_Mo_inverse) 104 = some (.iload 4, 2, (0, 0, 0, [])) := rfl
theorem l_Mo_inverse_106 : xlk (xm_cd m_Mo_inverse) 106 = some (.iastore, 1, (0, 0, 0, [])) := rfl
theorem l_Mo_inverse_107 : xlk (xm_cd m_Mo_inverse) 107 = some (.aload_n 0, 1, (0, 0, 0, [])) := rfl
theorem l_Mo_inverse_108 : xlk (xm_cd m_Mo_inverse) 108 = some (.iload_n 2, 1, (0, 0, 0, [])) := rfl
theorem l_Mo_inverse_109 : xlk (xm_cd m_Mo_inverse) 109 = some (.invokevirtual 229, 3, (1056, 177, 1, [])) := rfl
theorem l_Mo_inverse_112 : xlk (xm_cd m_Mo_inverse) 112 = some (.iinc 3 1, 3, (0, 0, 0, [])) := rfl
theorem l_Mo_inverse_115 : xlk (xm_cd m_Mo_inverse) 115 = some (.goto (-74), 3, (0, 41, 0, [])) := rfl
theorem l_Mo_inverse_118 : xlk (xm_cd m_Mo_inverse) 118 = some (.aload_n 0, 1, (0, 0, 0, [])) := rfl
theorem l_Mo_inverse_119 : xlk (xm_cd m_Mo_inverse) 119 = some (.dup, 1, (0, 0, 0, [])) := rfl
theorem l_Mo_inverse_120 : xlk (xm_cd m_Mo_inverse) 120 = some (.getfield 198, 3, (872, 11, 23, [])) := rfl
theorem l_Mo_inverse_123 : xlk (xm_cd m_Mo_inverse) 123 = some (.iconst 1, 1, (0, 0, 0, [])) := rfl
theorem l_Mo_inverse_124 : xlk (xm_cd m_Mo_inverse) 124 = some (.iadd, 1, (0, 0, 0, [])) := rfl
theorem l_Mo_inverse_125 : xlk (xm_cd m_Mo_inverse) 125 = some (.putfield 198, 3, (872, 11, 23, [(0, 0)])) := rfl
theorem l_Mo_inverse_128 : xlk (xm_cd m_Mo_inverse) 128 = some (.iload_n 2, 1, (0, 0, 0, [])) := rfl
theorem l_Mo_inverse_129 : xlk (xm_cd m_Mo_inverse) 129 = some (.ireturn, 1, (0, 0, 0, [])) := rfl
def B_Mo_inverse_0 (d : Nat) (E : Option Value → xH → Prop) (f : xH) (a0 : Nat) (x1 : Int32) : Prop :=
  xpf f a0 11 0 (.int 0) (fun f1 => (∃ fs, f1 a0 = some (xO 11 fs)) ∧ xSp xT0 d j_Mo_noPatch [.ref a0, .int x1] f1 (fun w2 f3 => xvi w2 (fun v4 => xbr (v4 = 0) (xgi f3 a0 11 23 (fun v5 => xbr (¬ v5 = 8) (xgi f3 a0 11 23 (fun v6 => xgr f3 a0 11 22 (fun r7 => xas f3 r7 0 v6 0 (fun f8 => xWp (xT0, xSp xT0 d, none, m_Mo_inverse, E) 41 [some (.ref a0), some (.int x1), some (.int v6), some (.int 0), none] [] f8 0 0)))) (E (some (.int (-3))) f3))) (E (some (.int (-1))) f3))))
theorem b_Mo_inverse_0 {d : Nat} {E : Option Value → xH → Prop} {f : xH} {a0 : Nat} {x1 : Int32} (h : B_Mo_inverse_0 d E f a0 x1) : xWp (xT0, xSp xT0 d, none, m_Mo_inverse, E) 0 [some (.ref a0), some (.int x1), none, none, none] [] f 0 0 := by
  unfold B_Mo_inverse_0 at h
  refine s_aln l_Mo_inverse_0 rfl ?_
  refine s_ic 0 l_Mo_inverse_1 rfl ?_
  refine s_pf l_Mo_inverse_2 ⟨_, rfl⟩ h (fun f1 h => ?_)
  refine s_aln l_Mo_inverse_5 rfl ?_
  refine s_iln l_Mo_inverse_6 rfl ?_
  refine s_cvi (As := [.int x1]) (r := []) l_Mo_inverse_7 rfl ⟨rfl, rfl⟩ rfl (Nat.le_of_ble_eq_true rfl) rfl ⟨Nat.zero_le _, Nat.zero_le _⟩ h (fun v4 f3 h => ?_)
  refine s_if l_Mo_inverse_10 h (fun h => ?_) (fun h => ?_)
  · refine s_aln l_Mo_inverse_15 rfl ?_
    refine s_gi l_Mo_inverse_16 h (fun v5 h => ?_)
    refine s_bp 8 l_Mo_inverse_19 rfl ?_
    refine s_ifc l_Mo_inverse_21 h (fun h => ?_) (fun h => ?_)
    · refine s_aln l_Mo_inverse_27 rfl ?_
      refine s_gi l_Mo_inverse_28 h (fun v6 h => ?_)
      refine s_isn l_Mo_inverse_31 (Nat.le_of_ble_eq_true rfl) ?_
      refine s_aln l_Mo_inverse_32 rfl ?_
      refine s_gr l_Mo_inverse_33 h (fun r7 h => ?_)
      refine s_iln l_Mo_inverse_36 rfl ?_
      refine s_ic 0 l_Mo_inverse_37 rfl ?_
      refine s_iast l_Mo_inverse_38 h (fun f8 h => ?_)
      refine s_ic 0 l_Mo_inverse_39 rfl ?_
      refine s_isn l_Mo_inverse_40 (Nat.le_of_ble_eq_true rfl) ?_
      exact h
    · refine s_bp (-3) l_Mo_inverse_24 rfl ?_
      exact s_iret l_Mo_inverse_26 rfl ⟨Nat.zero_le _, Nat.zero_le _⟩ h
  · refine s_ic (-1) l_Mo_inverse_13 rfl ?_
    exact s_iret l_Mo_inverse_14 rfl ⟨Nat.zero_le _, Nat.zero_le _⟩ h
def B_Mo_inverse_41 (d : Nat) (E : Option Value → xH → Prop) (f : xH) (a0 : Nat) (x1 : Int32) (x2 : Int32) (x3 : Int32) (u4 : Option Value) : Prop :=
  xgr f a0 11 22 (fun r1 => xal f r1 0 x1 (fun v2 => xbr (v2 ≤ x3) (xgi f a0 11 23 (fun v3 => xpf f a0 11 23 (.int (v3 + 1)) (fun f4 => E (some (.int x2)) f4))) ((∃ fs, f a0 = some (xO 11 fs)) ∧ xSp xT0 d j_Mo_moveStep [.ref a0, .int ((24 * x1) + x3), .int 217] f (fun w5 f6 => xvv w5 ((∃ fs, f6 a0 = some (xO 11 fs)) ∧ xSp xT0 d j_Mo_swapSides [.ref a0] f6 (fun w7 f8 => xvv w7 (xgr f8 a0 11 11 (fun r9 => xal f8 r9 0 217 (fun v10 => xgr f8 a0 11 11 (fun r11 => xbr (¬ v10 = 0) (xbr (¬ v10 = 1) (xas f8 r11 0 217 v10 (fun f12 => (∃ fs, f12 a0 = some (xO 11 fs)) ∧ xSp xT0 d j_Mo_addSpare [.ref a0, .int x2] f12 (fun w13 f14 => xvv w13 (xWp (xT0, xSp xT0 d, none, m_Mo_inverse, E) 41 [some (.ref a0), some (.int x1), some (.int x2), some (.int (x3 + 1)), some (.int v10)] [] f14 0 0)))) (xas f8 r11 0 217 0 (fun f15 => (∃ fs, f15 a0 = some (xO 11 fs)) ∧ xSp xT0 d j_Mo_addSpare [.ref a0, .int x2] f15 (fun w16 f17 => xvv w16 (xWp (xT0, xSp xT0 d, none, m_Mo_inverse, E) 41 [some (.ref a0), some (.int x1), some (.int x2), some (.int (x3 + 1)), some (.int v10)] [] f17 0 0))))) (xas f8 r11 0 217 1 (fun f18 => (∃ fs, f18 a0 = some (xO 11 fs)) ∧ xSp xT0 d j_Mo_addSpare [.ref a0, .int x2] f18 (fun w19 f20 => xvv w19 (xWp (xT0, xSp xT0 d, none, m_Mo_inverse, E) 41 [some (.ref a0), some (.int x1), some (.int x2), some (.int (x3 + 1)), some (.int v10)] [] f20 0 0))))))))))))))
theorem b_Mo_inverse_41 {d : Nat} {E : Option Value → xH → Prop} {f : xH} {a0 : Nat} {x1 : Int32} {x2 : Int32} {x3 : Int32} {u4 : Option Value} (h : B_Mo_inverse_41 d E f a0 x1 x2 x3 u4) : xWp (xT0, xSp xT0 d, none, m_Mo_inverse, E) 41 [some (.ref a0), some (.int x1), some (.int x2), some (.int x3), u4] [] f 0 0 := by
  unfold B_Mo_inverse_41 at h
  refine s_iln l_Mo_inverse_41 rfl ?_
  refine s_aln l_Mo_inverse_42 rfl ?_
  refine s_gr l_Mo_inverse_43 h (fun r1 h => ?_)
  refine s_iln l_Mo_inverse_46 rfl ?_
  refine s_ial l_Mo_inverse_47 rfl h (fun v2 h => ?_)
  refine s_ifc l_Mo_inverse_48 h (fun h => ?_) (fun h => ?_)
  · refine s_aln l_Mo_inverse_118 rfl ?_
    refine s_dup l_Mo_inverse_119 rfl ?_
    refine s_gi l_Mo_inverse_120 h (fun v3 h => ?_)
    refine s_ic 1 l_Mo_inverse_123 rfl ?_
    refine s_iadd l_Mo_inverse_124 ?_
    refine s_pf l_Mo_inverse_125 ⟨_, rfl⟩ h (fun f4 h => ?_)
    refine s_iln l_Mo_inverse_128 rfl ?_
    exact s_iret l_Mo_inverse_129 rfl ⟨Nat.zero_le _, Nat.zero_le _⟩ h
  · refine s_aln l_Mo_inverse_51 rfl ?_
    refine s_bp 24 l_Mo_inverse_52 rfl ?_
    refine s_iln l_Mo_inverse_54 rfl ?_
    refine s_imul l_Mo_inverse_55 ?_
    refine s_iln l_Mo_inverse_56 rfl ?_
    refine s_iadd l_Mo_inverse_57 ?_
    refine s_sp 217 l_Mo_inverse_58 rfl ?_
    refine s_cvv (As := [.int ((24 * x1) + x3), .int 217]) (r := []) l_Mo_inverse_61 rfl ⟨rfl, rfl⟩ rfl (Nat.le_of_ble_eq_true rfl) rfl ⟨Nat.zero_le _, Nat.zero_le _⟩ h (fun f6 h => ?_)
    refine s_aln l_Mo_inverse_64 rfl ?_
    refine s_cvv (As := []) (r := []) l_Mo_inverse_65 rfl ⟨rfl, rfl⟩ rfl (Nat.le_of_ble_eq_true rfl) rfl ⟨Nat.zero_le _, Nat.zero_le _⟩ h (fun f8 h => ?_)
    refine s_aln l_Mo_inverse_68 rfl ?_
    refine s_gr l_Mo_inverse_69 h (fun r9 h => ?_)
    refine s_sp 217 l_Mo_inverse_72 rfl ?_
    refine s_ial l_Mo_inverse_75 rfl h (fun v10 h => ?_)
    refine s_is l_Mo_inverse_76 (Nat.le_of_ble_eq_true rfl) ?_
    refine s_aln l_Mo_inverse_78 rfl ?_
    refine s_gr l_Mo_inverse_79 h (fun r11 h => ?_)
    refine s_sp 217 l_Mo_inverse_82 rfl ?_
    refine s_il l_Mo_inverse_85 rfl ?_
    refine s_if l_Mo_inverse_87 h (fun h => ?_) (fun h => ?_)
    · refine s_il l_Mo_inverse_94 rfl ?_
      refine s_ic 1 l_Mo_inverse_96 rfl ?_
      refine s_ifc l_Mo_inverse_97 h (fun h => ?_) (fun h => ?_)
      · refine s_il l_Mo_inverse_104 rfl ?_
        refine s_iast l_Mo_inverse_106 h (fun f12 h => ?_)
        refine s_aln l_Mo_inverse_107 rfl ?_
        refine s_iln l_Mo_inverse_108 rfl ?_
        refine s_cvv (As := [.int x2]) (r := []) l_Mo_inverse_109 rfl ⟨rfl, rfl⟩ rfl (Nat.le_of_ble_eq_true rfl) rfl ⟨Nat.zero_le _, Nat.zero_le _⟩ h (fun f14 h => ?_)
        refine s_inc 1 l_Mo_inverse_112 rfl rfl ?_
        refine s_goto l_Mo_inverse_115 ?_
        exact h
      · refine s_ic 0 l_Mo_inverse_100 rfl ?_
        refine s_goto l_Mo_inverse_101 ?_
        refine s_iast l_Mo_inverse_106 h (fun f15 h => ?_)
        refine s_aln l_Mo_inverse_107 rfl ?_
        refine s_iln l_Mo_inverse_108 rfl ?_
        refine s_cvv (As := [.int x2]) (r := []) l_Mo_inverse_109 rfl ⟨rfl, rfl⟩ rfl (Nat.le_of_ble_eq_true rfl) rfl ⟨Nat.zero_le _, Nat.zero_le _⟩ h (fun f17 h => ?_)
        refine s_inc 1 l_Mo_inverse_112 rfl rfl ?_
        refine s_goto l_Mo_inverse_115 ?_
        exact h
    · refine s_ic 1 l_Mo_inverse_90 rfl ?_
      refine s_goto l_Mo_inverse_91 ?_
      refine s_iast l_Mo_inverse_106 h (fun f18 h => ?_)
      refine s_aln l_Mo_inverse_107 rfl ?_
      refine s_iln l_Mo_inverse_108 rfl ?_
      refine s_cvv (As := [.int x2]) (r := []) l_Mo_inverse_109 rfl ⟨rfl, rfl⟩ rfl (Nat.le_of_ble_eq_true rfl) rfl ⟨Nat.zero_le _, Nat.zero_le _⟩ h (fun f20 h => ?_)
      refine s_inc 1 l_Mo_inverse_112 rfl rfl ?_
      refine s_goto l_Mo_inverse_115 ?_
      exact h
theorem l_Mo_swapSides_0 : xlk (xm_cd m_Mo_swapSides) 0 = some (.iconst 0, 1, (0, 0, 0, [])) := rfl
theorem l_Mo_swapSides_1 : xlk (xm_cd m_Mo_swapSides) 1 = some (.istore_n 1, 1, (0, 0, 0, [])) := rfl
theorem l_Mo_swapSides_2 : xlk (xm_cd m_Mo_swapSides) 2 = some (.iload_n 1, 1, (0, 0, 0, [])) := rfl
theorem l_Mo_swapSides_3 : xlk (xm_cd m_Mo_swapSides) 3 = some (.bipush 48, 2, (0, 0, 0, [])) := rfl
theorem l_Mo_swapSides_5 : xlk (xm_cd m_Mo_swapSides) 5 = some (.if_icmp .ge 51, 3, (0, 56, 0, [])) := rfl
theorem l_Mo_swapSides_8 : xlk (xm_cd m_Mo_swapSides) 8 = some (.aload_n 0, 1, (0, 0, 0, [])) := rfl
theorem l_Mo_swapSides_9 : xlk (xm_cd m_Mo_swapSides) 9 = some (.getfield 63, 3, (869, 11, 20, [])) := rfl
theorem l_Mo_swapSides_12 : xlk (xm_cd m_Mo_swapSides) 12 = some (.sipush 10416, 3, (0, 0, 0, [])) := rfl
theorem l_Mo_swapSides_15 : xlk (xm_cd m_Mo_swapSides) 15 = some (.iload_n 1, 1, (0, 0, 0, [])) := rfl
theorem l_Mo_swapSides_16 : xlk (xm_cd m_Mo_swapSides) 16 = some (.iadd, 1, (0, 0, 0, [])) := rfl
theorem l_Mo_swapSides_17 : xlk (xm_cd m_Mo_swapSides) 17 = some (.iaload, 1, (0, 0, 0, [])) := rfl
theorem l_Mo_swapSides_18 : xlk (xm_cd m_Mo_swapSides) 18 = some (.istore_n 2, 1, (0, 0, 0, [])) := rfl
theorem l_Mo_swapSides_19 : xlk (xm_cd m_Mo_swapSides) 19 = some (.aload_n 0, 1, (0, 0, 0, [])) := rfl
theorem l_Mo_swapSides_20 : xlk (xm_cd m_Mo_swapSides) 20 = some (.getfield 63, 3, (869, 11, 20, [])) := rfl
theorem l_Mo_swapSides_23 : xlk (xm_cd m_Mo_swapSides) 23 = some (.sipush 10416, 3, (0, 0, 0, [])) := rfl
theorem l_Mo_swapSides_26 : xlk (xm_cd m_Mo_swapSides) 26 = some (.iload_n 1, 1, (0, 0, 0, [])) := rfl
theorem l_Mo_swapSides_27 : xlk (xm_cd m_Mo_swapSides) 27 = some (.iadd, 1, (0, 0, 0, [])) := rfl
theorem l_Mo_swapSides_28 : xlk (xm_cd m_Mo_swapSides) 28 = some (.aload_n 0, 1, (0, 0, 0, [])) := rfl
theorem l_Mo_swapSides_29 : xlk (xm_cd m_Mo_swapSides) 29 = some (.getfield 66, 3, (870, 11, 21, [])) := rfl
theorem l_Mo_swapSides_32 : xlk (xm_cd m_Mo_swapSides) 32 = some (.sipush 10416, 3, (0, 0, 0, [])) := rfl
theorem l_Mo_swapSides_35 : xlk (xm_cd m_Mo_swapSides) 35 = some (.iload_n 1, 1, (0, 0, 0, [])) := rfl
theorem l_Mo_swapSides_36 : xlk (xm_cd m_Mo_swapSides) 36 = some (.iadd, 1, (0, 0, 0, [])) := rfl
theorem l_Mo_swapSides_37 : xlk (xm_cd m_Mo_swapSides) 37 = some (.iaload, 1, (0, 0, 0, [])) := rfl
theorem l_Mo_swapSides_38 : xlk (xm_cd m_Mo_swapSides) 38 = some (.iastore, 1, (0, 0, 0, [])) := rfl
theorem l_Mo_swapSides_39 : xlk (xm_cd m_Mo_swapSides) 39 = some (.aload_n 0, 1, (0, 0, 0, [])) := rfl
theorem l_Mo_swapSides_40 : xlk (xm_cd m_Mo_swapSides) 40 = some (.getfield 66, 3, (870, 11, 21, [])) := rfl
theorem l_Mo_swapSides_43 : xlk (xm_cd m_Mo_swapSides) 43 = some (.sipush 10416, 3, (0, 0, 0, [])) := rfl
theorem l_Mo_swapSides_46 : xlk (xm_cd m_Mo_swapSides) 46 = some (.iload_n 1, 1, (0, 0, 0, [])) := rfl
theorem l_Mo_swapSides_47 : xlk (xm_cd m_Mo_swapSides) 47 = some (.iadd, 1, (0, 0, 0, [])) := rfl
theorem l_Mo_swapSides_48 : xlk (xm_cd m_Mo_swapSides) 48 = some (.iload_n 2, 1, (0, 0, 0, [])) := rfl
theorem l_Mo_swapSides_49 : xlk (xm_cd m_Mo_swapSides) 49 = some (.iastore, 1, (0, 0, 0, [])) := rfl
theorem l_Mo_swapSides_50 : xlk (xm_cd m_Mo_swapSides) 50 = some (.iinc 1 1, 3, (0, 0, 0, [])) := rfl
theorem l_Mo_swapSides_53 : xlk (xm_cd m_Mo_swapSides) 53 = some (.goto (-51), 3, (0, 2, 0, [])) := rfl
theorem l_Mo_swapSides_56 : xlk (xm_cd m_Mo_swapSides) 56 = some (.iconst 0, 1, (0, 0, 0, [])) := rfl
theorem l_Mo_swapSides_57 : xlk (xm_cd m_Mo_swapSides) 57 = some (.istore_n 1, 1, (0, 0, 0, [])) := rfl
theorem l_Mo_swapSides_58 : xlk (xm_cd m_Mo_swapSides) 58 = some (.iload_n 1, 1, (0, 0, 0, [])) := rfl
theorem l_Mo_swapSides_59 : xlk (xm_cd m_Mo_swapSides) 59 = some (.bipush 18, 2, (0, 0, 0, [])) := rfl
theorem l_Mo_swapSides_61 : xlk (xm_cd m_Mo_swapSides) 61 = some (.if_icmp .ge 51, 3, (0, 112, 0, [])) := rfl
theorem l_Mo_swapSides_64 : xlk (xm_cd m_Mo_swapSides) 64 = some (.aload_n 0, 1, (0, 0, 0, [])) := rfl
theorem l_Mo_swapSides_65 : xlk (xm_cd m_Mo_swapSides) 65 = some (.getfield 39, 3, (861, 11, 12, [])) := rfl
theorem l_Mo_swapSides_68 : xlk (xm_cd m_Mo_swapSides) 68 = some (.sipush 3906, 3, (0, 0, 0, [])) := rfl
theorem l_Mo_swapSides_71 : xlk (xm_cd m_Mo_swapSides) 71 = some (.iload_n 1, 1, (0, 0, 0, [])) := rfl
theorem l_Mo_swapSides_72 : xlk (xm_cd m_Mo_swapSides) 72 = some (.iadd, 1, (0, 0, 0, [])) := rfl
theorem l_Mo_swapSides_73 : xlk (xm_cd m_Mo_swapSides) 73 = some (.baload, 1, (0, 0, 0, [])) := rfl
theorem l_Mo_swapSides_74 : xlk (xm_cd m_Mo_swapSides) 74 = some (.istore_n 2, 1, (0, 0, 0, [])) := rfl
theorem l_Mo_swapSides_75 : xlk (xm_cd m_Mo_swapSides) 75 = some (.aload_n 0, 1, (0, 0, 0, [])) := rfl
theorem l_Mo_swapSides_76 : xlk (xm_cd m_Mo_swapSides) 76 = some (.getfield 39, 3, (861, 11, 12, [])) := rfl
theorem l_Mo_swapSides_79 : xlk (xm_cd m_Mo_swapSides) 79 = some (.sipush 3906, 3, (0, 0, 0, [])) := rfl
theorem l_Mo_swapSides_82 : xlk (xm_cd m_Mo_swapSides) 82 = some (.iload_n 1, 1, (0, 0, 0, [])) := rfl
theorem l_Mo_swapSides_83 : xlk (xm_cd m_Mo_swapSides) 83 = some (.iadd, 1, (0, 0, 0, [])) := rfl
theorem l_Mo_swapSides_84 : xlk (xm_cd m_Mo_swapSides) 84 = some (.aload_n 0, 1, (0, 0, 0, [])) := rfl
theorem l_Mo_swapSides_85 : xlk (xm_cd m_Mo_swapSides) 85 = some (.getfield 45, 3, (863, 11, 14, [])) := rfl
theorem l_Mo_swapSides_88 : xlk (xm_cd m_Mo_swapSides) 88 = some (.sipush 3906, 3, (0, 0, 0, [])) := rfl
theorem l_Mo_swapSides_91 : xlk (xm_cd m_Mo_swapSides) 91 = some (.iload_n 1, 1, (0, 0, 0, [])) := rfl
theorem l_Mo_swapSides_92 : xlk (xm_cd m_Mo_swapSides) 92 = some (.iadd, 1, (0, 0, 0, [])) := rfl
theorem l_Mo_swapSides_93 : xlk (xm_cd m_Mo_swapSides) 93 = some (.baload, 1, (0, 0, 0, [])) := rfl
theorem l_Mo_swapSides_94 : xlk (xm_cd m_Mo_swapSides) 94 = some (.bastore, 1, (0, 0, 0, [])) := rfl
theorem l_Mo_swapSides_95 : xlk (xm_cd m_Mo_swapSides) 95 = some (.aload_n 0, 1, (0, 0, 0, [])) := rfl
theorem l_Mo_swapSides_96 : xlk (xm_cd m_Mo_swapSides) 96 = some (.getfield 45, 3, (863, 11, 14, [])) := rfl
theorem l_Mo_swapSides_99 : xlk (xm_cd m_Mo_swapSides) 99 = some (.sipush 3906, 3, (0, 0, 0, [])) := rfl
theorem l_Mo_swapSides_102 : xlk (xm_cd m_Mo_swapSides) 102 = some (.iload_n 1, 1, (0, 0, 0, [])) := rfl
theorem l_Mo_swapSides_103 : xlk (xm_cd m_Mo_swapSides) 103 = some (.iadd, 1, (0, 0, 0, [])) := rfl
theorem l_Mo_swapSides_104 : xlk (xm_cd m_Mo_swapSides) 104 = some (.iload_n 2, 1, (0, 0, 0, [])) := rfl
theorem l_Mo_swapSides_105 : xlk (xm_cd m_Mo_swapSides) 105 = some (.bastore, 1, (0, 0, 0, [])) := rfl
theorem l_Mo_swapSides_106 : xlk (xm_cd m_Mo_swapSides) 106 = some (.iinc 1 1, 3, (0, 0, 0, [])) := rfl
theorem l_Mo_swapSides_109 : xlk (xm_cd m_Mo_swapSides) 109 = some (.goto (-51), 3, (0, 58, 0, [])) := rfl
theorem l_Mo_swapSides_112 : xlk (xm_cd m_Mo_swapSides) 112 = some (.aload_n 0, 1, (0, 0, 0, [])) := rfl
theorem l_Mo_swapSides_113 : xlk (xm_cd m_Mo_swapSides) 113 = some (.getfield 42, 3, (862, 11, 13, [])) := rfl
theorem l_Mo_swapSides_116 : xlk (xm_cd m_Mo_swapSides) 116 = some (.sipush 217, 3, (0, 0, 0, [])) := rfl
theorem l_Mo_swapSides_119 : xlk (xm_cd m_Mo_swapSides) 119 = some (.iaload, 1, (0, 0, 0, [])) := rfl
theorem l_Mo_swapSides_120 : xlk (xm_cd m_Mo_swapSides) 120 = some (.istore_n 1, 1, (0, 0, 0, [])) := rfl
theorem l_Mo_swapSides_121 : xlk (xm_cd m_Mo_swapSides) 121 = some (.aload_n 0, 1, (0, 0, 0, [])) := rfl
theorem l_Mo_swapSides_122 : xlk (xm_cd m_Mo_swapSides) 122 = some (.getfield 42, 3, (862, 11, 13, [])) := rfl
theorem l_Mo_swapSides_125 : xlk (xm_cd m_Mo_swapSides) 125 = some (.sipush 217, 3, (0, 0, 0, [])) := rfl
theorem l_Mo_swapSides_128 : xlk (xm_cd m_Mo_swapSides) 128 = some (.aload_n 0, 1, (0, 0, 0, [])) := rfl
theorem l_Mo_swapSides_129 : xlk (xm_cd m_Mo_swapSides) 129 = some (.getfield 48, 3, (864, 11, 15, [])) := rfl
theorem l_Mo_swapSides_132 : xlk (xm_cd m_Mo_swapSides) 132 = some (.sipush 217, 3, (0, 0, 0, [])) := rfl
theorem l_Mo_swapSides_135 : xlk (xm_cd m_Mo_swapSides) 135 = some (.iaload, 1, (0, 0, 0, [])) := rfl
theorem l_Mo_swapSides_136 : xlk (xm_cd m_Mo_swapSides) 136 = some (.iastore, 1, (0, 0, 0, [])) := rfl
theorem l_Mo_swapSides_137 : xlk (xm_cd m_Mo_swapSides) 137 = some (.aload_n 0, 1, (0, 0, 0, [])) := rfl
theorem l_Mo_swapSides_138 : xlk (xm_cd m_Mo_swapSides) 138 = some (.getfield 48, 3, (864, 11, 15, [])) := rfl
set_option maxRecDepth 20000 in
theorem l_Mo_swapSides_141 : xlk (xm_cd m_Mo_swapSides) 141 = some (.sipush 217, 3, (0, 0, 0, [])) := rfl
set_option maxRecDepth 20000 in
theorem l_Mo_swapSides_144 : xlk (xm_cd m_Mo_swapSides) 144 = some (.iload_n 1, 1, (0, 0, 0, [])) := rfl
set_option maxRecDepth 20000 in
theorem l_Mo_swapSides_145 : xlk (xm_cd m_Mo_swapSides) 145 = some (.iastore, 1, (0, 0, 0, [])) := rfl
set_option maxRecDepth 20000 in
theorem l_Mo_swapSides_146 : xlk (xm_cd m_Mo_swapSides) 146 = some (.aload_n 0, 1, (0, 0, 0, [])) := rfl
set_option maxRecDepth 20000 in
theorem l_Mo_swapSides_147 : xlk (xm_cd m_Mo_swapSides) 147 = some (.getfield 51, 3, (865, 11, 16, [])) := rfl
set_option maxRecDepth 20000 in
theorem l_Mo_swapSides_150 : xlk (xm_cd m_Mo_swapSides) 150 = some (.sipush 217, 3, (0, 0, 0, [])) := rfl
set_option maxRecDepth 20000 in
theorem l_Mo_swapSides_153 : xlk (xm_cd m_Mo_swapSides) 153 = some (.iaload, 1, (0, 0, 0, [])) := rfl
set_option maxRecDepth 20000 in
theorem l_Mo_swapSides_154 : xlk (xm_cd m_Mo_swapSides) 154 = some (.istore_n 1, 1, (0, 0, 0, [])) := rfl
set_option maxRecDepth 20000 in
theorem l_Mo_swapSides_155 : xlk (xm_cd m_Mo_swapSides) 155 = some (.aload_n 0, 1, (0, 0, 0, [])) := rfl
set_option maxRecDepth 20000 in
theorem l_Mo_swapSides_156 : xlk (xm_cd m_Mo_swapSides) 156 = some (.getfield 51, 3, (865, 11, 16, [])) := rfl
set_option maxRecDepth 20000 in
theorem l_Mo_swapSides_159 : xlk (xm_cd m_Mo_swapSides) 159 = some (.sipush 217, 3, (0, 0, 0, [])) := rfl
set_option maxRecDepth 20000 in
theorem l_Mo_swapSides_162 : xlk (xm_cd m_Mo_swapSides) 162 = some (.aload_n 0, 1, (0, 0, 0, [])) := rfl
set_option maxRecDepth 20000 in
theorem l_Mo_swapSides_163 : xlk (xm_cd m_Mo_swapSides) 163 = some (.getfield 57, 3, (867, 11, 18, [])) := rfl
set_option maxRecDepth 20000 in
theorem l_Mo_swapSides_166 : xlk (xm_cd m_Mo_swapSides) 166 = some (.sipush 217, 3, (0, 0, 0, [])) := rfl
set_option maxRecDepth 20000 in
theorem l_Mo_swapSides_169 : xlk (xm_cd m_Mo_swapSides) 169 = some (.iaload, 1, (0, 0, 0, [])) := rfl
set_option maxRecDepth 20000 in
theorem l_Mo_swapSides_170 : xlk (xm_cd m_Mo_swapSides) 170 = some (.iastore, 1, (0, 0, 0, [])) := rfl
set_option maxRecDepth 20000 in
theorem l_Mo_swapSides_171 : xlk (xm_cd m_Mo_swapSides) 171 = some (.aload_n 0, 1, (0, 0, 0, [])) := rfl
set_option maxRecDepth 20000 in
theorem l_Mo_swapSides_172 : xlk (xm_cd m_Mo_swapSides) 172 = some (.getfield 57, 3, (867, 11, 18, [])) := rfl
set_option maxRecDepth 20000 in
theorem l_Mo_swapSides_175 : xlk (xm_cd m_Mo_swapSides) 175 = some (.sipush 217, 3, (0, 0, 0, [])) := rfl
set_option maxRecDepth 20000 in
theorem l_Mo_swapSides_178 : xlk (xm_cd m_Mo_swapSides) 178 = some (.iload_n 1, 1, (0, 0, 0, [])) := rfl
set_option maxRecDepth 20000 in
theorem l_Mo_swapSides_179 : xlk (xm_cd m_Mo_swapSides) 179 = some (.iastore, 1, (0, 0, 0, [])) := rfl
set_option maxRecDepth 20000 in
theorem l_Mo_swapSides_180 : xlk (xm_cd m_Mo_swapSides) 180 = some (.aload_n 0, 1, (0, 0, 0, [])) := rfl
set_option maxRecDepth 20000 in
theorem l_Mo_swapSides_181 : xlk (xm_cd m_Mo_swapSides) 181 = some (.getfield 54, 3, (866, 11, 17, [])) := rfl
set_option maxRecDepth 20000 in
theorem l_Mo_swapSides_184 : xlk (xm_cd m_Mo_swapSides) 184 = some (.sipush 217, 3, (0, 0, 0, [])) := rfl
set_option maxRecDepth 20000 in
theorem l_Mo_swapSides_187 : xlk (xm_cd m_Mo_swapSides) 187 = some (.iaload, 1, (0, 0, 0, [])) := rfl
set_option maxRecDepth 20000 in
theorem l_Mo_swapSides_188 : xlk (xm_cd m_Mo_swapSides) 188 = some (.istore_n 1, 1, (0, 0, 0, [])) := rfl
set_option maxRecDepth 20000 in
theorem l_Mo_swapSides_189 : xlk (xm_cd m_Mo_swapSides) 189 = some (.aload_n 0, 1, (0, 0, 0, [])) := rfl
set_option maxRecDepth 20000 in
theorem l_Mo_swapSides_190 : xlk (xm_cd m_Mo_swapSides) 190 = some (.getfield 54, 3, (866, 11, 17, [])) := rfl
set_option maxRecDepth 20000 in
theorem l_Mo_swapSides_193 : xlk (xm_cd m_Mo_swapSides) 193 = some (.sipush 217, 3, (0, 0, 0, [])) := rfl
set_option maxRecDepth 20000 in
theorem l_Mo_swapSides_196 : xlk (xm_cd m_Mo_swapSides) 196 = some (.aload_n 0, 1, (0, 0, 0, [])) := rfl
set_option maxRecDepth 20000 in
theorem l_Mo_swapSides_197 : xlk (xm_cd m_Mo_swapSides) 197 = some (.getfield 60, 3, (868, 11, 19, [])) := rfl
set_option maxRecDepth 20000 in
theorem l_Mo_swapSides_200 : xlk (xm_cd m_Mo_swapSides) 200 = some (.sipush 217, 3, (0, 0, 0, [])) := rfl
set_option maxRecDepth 20000 in
theorem l_Mo_swapSides_203 : xlk (xm_cd m_Mo_swapSides) 203 = some (.iaload, 1, (0, 0, 0, [])) := rfl
set_option maxRecDepth 20000 in
theorem l_Mo_swapSides_204 : xlk (xm_cd m_Mo_swapSides) 204 = some (.iastore, 1, (0, 0, 0, [])) := rfl
set_option maxRecDepth 20000 in
theorem l_Mo_swapSides_205 : xlk (xm_cd m_Mo_swapSides) 205 = some (.aload_n 0, 1, (0, 0, 0, [])) := rfl
set_option maxRecDepth 20000 in
theorem l_Mo_swapSides_206 : xlk (xm_cd m_Mo_swapSides) 206 = some (.getfield 60, 3, (868, 11, 19, [])) := rfl
set_option maxRecDepth 20000 in
theorem l_Mo_swapSides_209 : xlk (xm_cd m_Mo_swapSides) 209 = some (.sipush 217, 3, (0, 0, 0, [])) := rfl
set_option maxRecDepth 20000 in
theorem l_Mo_swapSides_212 : xlk (xm_cd m_Mo_swapSides) 212 = some (.iload_n 1, 1, (0, 0, 0, [])) := rfl
set_option maxRecDepth 20000 in
theorem l_Mo_swapSides_213 : xlk (xm_cd m_Mo_swapSides) 213 = some (.iastore, 1, (0, 0, 0, [])) := rfl
set_option maxRecDepth 20000 in
theorem l_Mo_swapSides_214 : xlk (xm_cd m_Mo_swapSides) 214 = some (.return_, 1, (0, 0, 0, [])) := rfl
def B_Mo_swapSides_0 (d : Nat) (E : Option Value → xH → Prop) (f : xH) (a0 : Nat) : Prop :=
  xWp (xT0, xSp xT0 d, none, m_Mo_swapSides, E) 2 [some (.ref a0), some (.int 0), none] [] f 0 0
theorem b_Mo_swapSides_0 {d : Nat} {E : Option Value → xH → Prop} {f : xH} {a0 : Nat} (h : B_Mo_swapSides_0 d E f a0) : xWp (xT0, xSp xT0 d, none, m_Mo_swapSides, E) 0 [some (.ref a0), none, none] [] f 0 0 := by
  unfold B_Mo_swapSides_0 at h
  refine s_ic 0 l_Mo_swapSides_0 rfl ?_
  refine s_isn l_Mo_swapSides_1 (Nat.le_of_ble_eq_true rfl) ?_
  exact h
def B_Mo_swapSides_2 (d : Nat) (E : Option Value → xH → Prop) (f : xH) (a0 : Nat) (x1 : Int32) (u2 : Option Value) : Prop :=
  xbr ((48 : Int32) ≤ x1) (xWp (xT0, xSp xT0 d, none, m_Mo_swapSides, E) 58 [some (.ref a0), some (.int 0), u2] [] f 0 0) (xgr f a0 11 20 (fun r1 => xal f r1 0 (10416 + x1) (fun v2 => xgr f a0 11 20 (fun r3 => xgr f a0 11 21 (fun r4 => xal f r4 0 (10416 + x1) (fun v5 => xas f r3 0 (10416 + x1) v5 (fun f6 => xgr f6 a0 11 21 (fun r7 => xas f6 r7 0 (10416 + x1) v2 (fun f8 => xWp (xT0, xSp xT0 d, none, m_Mo_swapSides, E) 2 [some (.ref a0), some (.int (x1 + 1)), some (.int v2)] [] f8 0 0)))))))))
theorem b_Mo_swapSides_2 {d : Nat} {E : Option Value → xH → Prop} {f : xH} {a0 : Nat} {x1 : Int32} {u2 : Option Value} (h : B_Mo_swapSides_2 d E f a0 x1 u2) : xWp (xT0, xSp xT0 d, none, m_Mo_swapSides, E) 2 [some (.ref a0), some (.int x1), u2] [] f 0 0 := by
  unfold B_Mo_swapSides_2 at h
  refine s_iln l_Mo_swapSides_2 rfl ?_
  refine s_bp 48 l_Mo_swapSides_3 rfl ?_
  refine s_ifc l_Mo_swapSides_5 h (fun h => ?_) (fun h => ?_)
  · refine s_ic 0 l_Mo_swapSides_56 rfl ?_
    refine s_isn l_Mo_swapSides_57 (Nat.le_of_ble_eq_true rfl) ?_
    exact h
  · refine s_aln l_Mo_swapSides_8 rfl ?_
    refine s_gr l_Mo_swapSides_9 h (fun r1 h => ?_)
    refine s_sp 10416 l_Mo_swapSides_12 rfl ?_
    refine s_iln l_Mo_swapSides_15 rfl ?_
    refine s_iadd l_Mo_swapSides_16 ?_
    refine s_ial l_Mo_swapSides_17 rfl h (fun v2 h => ?_)
    refine s_isn l_Mo_swapSides_18 (Nat.le_of_ble_eq_true rfl) ?_
    refine s_aln l_Mo_swapSides_19 rfl ?_
    refine s_gr l_Mo_swapSides_20 h (fun r3 h => ?_)
    refine s_sp 10416 l_Mo_swapSides_23 rfl ?_
    refine s_iln l_Mo_swapSides_26 rfl ?_
    refine s_iadd l_Mo_swapSides_27 ?_
    refine s_aln l_Mo_swapSides_28 rfl ?_
    refine s_gr l_Mo_swapSides_29 h (fun r4 h => ?_)
    refine s_sp 10416 l_Mo_swapSides_32 rfl ?_
    refine s_iln l_Mo_swapSides_35 rfl ?_
    refine s_iadd l_Mo_swapSides_36 ?_
    refine s_ial l_Mo_swapSides_37 rfl h (fun v5 h => ?_)
    refine s_iast l_Mo_swapSides_38 h (fun f6 h => ?_)
    refine s_aln l_Mo_swapSides_39 rfl ?_
    refine s_gr l_Mo_swapSides_40 h (fun r7 h => ?_)
    refine s_sp 10416 l_Mo_swapSides_43 rfl ?_
    refine s_iln l_Mo_swapSides_46 rfl ?_
    refine s_iadd l_Mo_swapSides_47 ?_
    refine s_iln l_Mo_swapSides_48 rfl ?_
    refine s_iast l_Mo_swapSides_49 h (fun f8 h => ?_)
    refine s_inc 1 l_Mo_swapSides_50 rfl rfl ?_
    refine s_goto l_Mo_swapSides_53 ?_
    exact h
def B_Mo_swapSides_58 (d : Nat) (E : Option Value → xH → Prop) (f : xH) (a0 : Nat) (x1 : Int32) (u2 : Option Value) : Prop :=
  xbr ((18 : Int32) ≤ x1) (xgr f a0 11 13 (fun r1 => xal f r1 0 217 (fun v2 => xgr f a0 11 13 (fun r3 => xgr f a0 11 15 (fun r4 => xal f r4 0 217 (fun v5 => xas f r3 0 217 v5 (fun f6 => xgr f6 a0 11 15 (fun r7 => xas f6 r7 0 217 v2 (fun f8 => xgr f8 a0 11 16 (fun r9 => xal f8 r9 0 217 (fun v10 => xgr f8 a0 11 16 (fun r11 => xgr f8 a0 11 18 (fun r12 => xal f8 r12 0 217 (fun v13 => xas f8 r11 0 217 v13 (fun f14 => xgr f14 a0 11 18 (fun r15 => xas f14 r15 0 217 v10 (fun f16 => xgr f16 a0 11 17 (fun r17 => xal f16 r17 0 217 (fun v18 => xgr f16 a0 11 17 (fun r19 => xgr f16 a0 11 19 (fun r20 => xal f16 r20 0 217 (fun v21 => xas f16 r19 0 217 v21 (fun f22 => xgr f22 a0 11 19 (fun r23 => xas f22 r23 0 217 v18 (fun f24 => E none f24))))))))))))))))))))))))) (xgr f a0 11 12 (fun r25 => xal f r25 2 (3906 + x1) (fun v26 => xgr f a0 11 12 (fun r27 => xgr f a0 11 14 (fun r28 => xal f r28 2 (3906 + x1) (fun v29 => xas f r27 2 (3906 + x1) v29.toInt8.toInt32 (fun f30 => xgr f30 a0 11 14 (fun r31 => xas f30 r31 2 (3906 + x1) v26.toInt8.toInt32 (fun f32 => xWp (xT0, xSp xT0 d, none, m_Mo_swapSides, E) 58 [some (.ref a0), some (.int (x1 + 1)), some (.int v26)] [] f32 0 0)))))))))
theorem b_Mo_swapSides_58 {d : Nat} {E : Option Value → xH → Prop} {f : xH} {a0 : Nat} {x1 : Int32} {u2 : Option Value} (h : B_Mo_swapSides_58 d E f a0 x1 u2) : xWp (xT0, xSp xT0 d, none, m_Mo_swapSides, E) 58 [some (.ref a0), some (.int x1), u2] [] f 0 0 := by
  unfold B_Mo_swapSides_58 at h
  refine s_iln l_Mo_swapSides_58 rfl ?_
  refine s_bp 18 l_Mo_swapSides_59 rfl ?_
  refine s_ifc l_Mo_swapSides_61 h (fun h => ?_) (fun h => ?_)
  · refine s_aln l_Mo_swapSides_112 rfl ?_
    refine s_gr l_Mo_swapSides_113 h (fun r1 h => ?_)
    refine s_sp 217 l_Mo_swapSides_116 rfl ?_
    refine s_ial l_Mo_swapSides_119 rfl h (fun v2 h => ?_)
    refine s_isn l_Mo_swapSides_120 (Nat.le_of_ble_eq_true rfl) ?_
    refine s_aln l_Mo_swapSides_121 rfl ?_
    refine s_gr l_Mo_swapSides_122 h (fun r3 h => ?_)
    refine s_sp 217 l_Mo_swapSides_125 rfl ?_
    refine s_aln l_Mo_swapSides_128 rfl ?_
    refine s_gr l_Mo_swapSides_129 h (fun r4 h => ?_)
    refine s_sp 217 l_Mo_swapSides_132 rfl ?_
    refine s_ial l_Mo_swapSides_135 rfl h (fun v5 h => ?_)
    refine s_iast l_Mo_swapSides_136 h (fun f6 h => ?_)
    refine s_aln l_Mo_swapSides_137 rfl ?_
    refine s_gr l_Mo_swapSides_138 h (fun r7 h => ?_)
    refine s_sp 217 l_Mo_swapSides_141 rfl ?_
    refine s_iln l_Mo_swapSides_144 rfl ?_
    refine s_iast l_Mo_swapSides_145 h (fun f8 h => ?_)
    refine s_aln l_Mo_swapSides_146 rfl ?_
    refine s_gr l_Mo_swapSides_147 h (fun r9 h => ?_)
    refine s_sp 217 l_Mo_swapSides_150 rfl ?_
    refine s_ial l_Mo_swapSides_153 rfl h (fun v10 h => ?_)
    refine s_isn l_Mo_swapSides_154 (Nat.le_of_ble_eq_true rfl) ?_
    refine s_aln l_Mo_swapSides_155 rfl ?_
    refine s_gr l_Mo_swapSides_156 h (fun r11 h => ?_)
    refine s_sp 217 l_Mo_swapSides_159 rfl ?_
    refine s_aln l_Mo_swapSides_162 rfl ?_
    refine s_gr l_Mo_swapSides_163 h (fun r12 h => ?_)
    refine s_sp 217 l_Mo_swapSides_166 rfl ?_
    refine s_ial l_Mo_swapSides_169 rfl h (fun v13 h => ?_)
    refine s_iast l_Mo_swapSides_170 h (fun f14 h => ?_)
    refine s_aln l_Mo_swapSides_171 rfl ?_
    refine s_gr l_Mo_swapSides_172 h (fun r15 h => ?_)
    refine s_sp 217 l_Mo_swapSides_175 rfl ?_
    refine s_iln l_Mo_swapSides_178 rfl ?_
    refine s_iast l_Mo_swapSides_179 h (fun f16 h => ?_)
    refine s_aln l_Mo_swapSides_180 rfl ?_
    refine s_gr l_Mo_swapSides_181 h (fun r17 h => ?_)
    refine s_sp 217 l_Mo_swapSides_184 rfl ?_
    refine s_ial l_Mo_swapSides_187 rfl h (fun v18 h => ?_)
    refine s_isn l_Mo_swapSides_188 (Nat.le_of_ble_eq_true rfl) ?_
    refine s_aln l_Mo_swapSides_189 rfl ?_
    refine s_gr l_Mo_swapSides_190 h (fun r19 h => ?_)
    refine s_sp 217 l_Mo_swapSides_193 rfl ?_
    refine s_aln l_Mo_swapSides_196 rfl ?_
    refine s_gr l_Mo_swapSides_197 h (fun r20 h => ?_)
    refine s_sp 217 l_Mo_swapSides_200 rfl ?_
    refine s_ial l_Mo_swapSides_203 rfl h (fun v21 h => ?_)
    refine s_iast l_Mo_swapSides_204 h (fun f22 h => ?_)
    refine s_aln l_Mo_swapSides_205 rfl ?_
    refine s_gr l_Mo_swapSides_206 h (fun r23 h => ?_)
    refine s_sp 217 l_Mo_swapSides_209 rfl ?_
    refine s_iln l_Mo_swapSides_212 rfl ?_
    refine s_iast l_Mo_swapSides_213 h (fun f24 h => ?_)
    exact s_ret l_Mo_swapSides_214 ⟨Nat.zero_le _, Nat.zero_le _⟩ h
  · refine s_aln l_Mo_swapSides_64 rfl ?_
    refine s_gr l_Mo_swapSides_65 h (fun r25 h => ?_)
    refine s_sp 3906 l_Mo_swapSides_68 rfl ?_
    refine s_iln l_Mo_swapSides_71 rfl ?_
    refine s_iadd l_Mo_swapSides_72 ?_
    refine s_bal l_Mo_swapSides_73 (Or.inr rfl) h (fun v26 h => ?_)
    refine s_isn l_Mo_swapSides_74 (Nat.le_of_ble_eq_true rfl) ?_
    refine s_aln l_Mo_swapSides_75 rfl ?_
    refine s_gr l_Mo_swapSides_76 h (fun r27 h => ?_)
    refine s_sp 3906 l_Mo_swapSides_79 rfl ?_
    refine s_iln l_Mo_swapSides_82 rfl ?_
    refine s_iadd l_Mo_swapSides_83 ?_
    refine s_aln l_Mo_swapSides_84 rfl ?_
    refine s_gr l_Mo_swapSides_85 h (fun r28 h => ?_)
    refine s_sp 3906 l_Mo_swapSides_88 rfl ?_
    refine s_iln l_Mo_swapSides_91 rfl ?_
    refine s_iadd l_Mo_swapSides_92 ?_
    refine s_bal l_Mo_swapSides_93 (Or.inr rfl) h (fun v29 h => ?_)
    refine s_bast l_Mo_swapSides_94 h (fun f30 h => ?_)
    refine s_aln l_Mo_swapSides_95 rfl ?_
    refine s_gr l_Mo_swapSides_96 h (fun r31 h => ?_)
    refine s_sp 3906 l_Mo_swapSides_99 rfl ?_
    refine s_iln l_Mo_swapSides_102 rfl ?_
    refine s_iadd l_Mo_swapSides_103 ?_
    refine s_iln l_Mo_swapSides_104 rfl ?_
    refine s_bast l_Mo_swapSides_105 h (fun f32 h => ?_)
    refine s_inc 1 l_Mo_swapSides_106 rfl rfl ?_
    refine s_goto l_Mo_swapSides_109 ?_
    exact h
theorem l_Mo_chain_0 : xlk (xm_cd m_Mo_chain) 0 = some (.aload_n 0, 1, (0, 0, 0, [])) := rfl
theorem l_Mo_chain_1 : xlk (xm_cd m_Mo_chain) 1 = some (.iconst 0, 1, (0, 0, 0, [])) := rfl
theorem l_Mo_chain_2 : xlk (xm_cd m_Mo_chain) 2 = some (.putfield 1, 3, (849, 11, 0, [(0, 0)])) := rfl
theorem l_Mo_chain_5 : xlk (xm_cd m_Mo_chain) 5 = some (.aload_n 0, 1, (0, 0, 0, [])) := rfl
theorem l_Mo_chain_6 : xlk (xm_cd m_Mo_chain) 6 = some (.iload_n 1, 1, (0, 0, 0, [])) := rfl
theorem l_Mo_chain_7 : xlk (xm_cd m_Mo_chain) 7 = some (.invokevirtual 257, 3, (1081, 185, 1, [])) := rfl
theorem l_Mo_chain_10 : xlk (xm_cd m_Mo_chain) 10 = some (.ifCond .ne 11, 3, (0, 21, 0, [])) := rfl
theorem l_Mo_chain_13 : xlk (xm_cd m_Mo_chain) 13 = some (.aload_n 0, 1, (0, 0, 0, [])) := rfl
theorem l_Mo_chain_14 : xlk (xm_cd m_Mo_chain) 14 = some (.iload_n 2, 1, (0, 0, 0, [])) := rfl
theorem l_Mo_chain_15 : xlk (xm_cd m_Mo_chain) 15 = some (.invokevirtual 257, 3, (1081, 185, 1, [])) := rfl
theorem l_Mo_chain_18 : xlk (xm_cd m_Mo_chain) 18 = some (.ifCond .eq 5, 3, (0, 23, 0, [])) := rfl
theorem l_Mo_chain_21 : xlk (xm_cd m_Mo_chain) 21 = some (.iconst (-1), 1, (0, 0, 0, [])) := rfl
theorem l_Mo_chain_22 : xlk (xm_cd m_Mo_chain) 22 = some (.ireturn, 1, (0, 0, 0, [])) := rfl
theorem l_Mo_chain_23 : xlk (xm_cd m_Mo_chain) 23 = some (.aload_n 0, 1, (0, 0, 0, [])) := rfl
theorem l_Mo_chain_24 : xlk (xm_cd m_Mo_chain) 24 = some (.getfield 198, 3, (872, 11, 23, [])) := rfl
theorem l_Mo_chain_27 : xlk (xm_cd m_Mo_chain) 27 = some (.bipush 8, 2, (0, 0, 0, [])) := rfl
theorem l_Mo_chain_29 : xlk (xm_cd m_Mo_chain) 29 = some (.if_icmp .ne 6, 3, (0, 35, 0, [])) := rfl
theorem l_Mo_chain_32 : xlk (xm_cd m_Mo_chain) 32 = some (.bipush (-3), 2, (0, 0, 0, [])) := rfl
theorem l_Mo_chain_34 : xlk (xm_cd m_Mo_chain) 34 = some (.ireturn, 1, (0, 0, 0, [])) := rfl
theorem l_Mo_chain_35 : xlk (xm_cd m_Mo_chain) 35 = some (.iconst 0, 1, (0, 0, 0, [])) := rfl
theorem l_Mo_chain_36 : xlk (xm_cd m_Mo_chain) 36 = some (.istore_n 3, 1, (0, 0, 0, [])) := rfl
theorem l_Mo_chain_37 : xlk (xm_cd m_Mo_chain) 37 = some (.iload_n 3, 1, (0, 0, 0, [])) := rfl
theorem l_Mo_chain_38 : xlk (xm_cd m_Mo_chain) 38 = some (.aload_n 0, 1, (0, 0, 0, [])) := rfl
theorem l_Mo_chain_39 : xlk (xm_cd m_Mo_chain) 39 = some (.getfield 69, 3, (871, 11, 22, [])) := rfl
theorem l_Mo_chain_42 : xlk (xm_cd m_Mo_chain) 42 = some (.iload_n 2, 1, (0, 0, 0, [])) := rfl
theorem l_Mo_chain_43 : xlk (xm_cd m_Mo_chain) 43 = some (.iaload, 1, (0, 0, 0, [])) := rfl
theorem l_Mo_chain_44 : xlk (xm_cd m_Mo_chain) 44 = some (.if_icmp .ge 34, 3, (0, 78, 0, [])) := rfl
theorem l_Mo_chain_47 : xlk (xm_cd m_Mo_chain) 47 = some (.aload_n 0, 1, (0, 0, 0, [])) := rfl
theorem l_Mo_chain_48 : xlk (xm_cd m_Mo_chain) 48 = some (.iload_n 1, 1, (0, 0, 0, [])) := rfl
theorem l_Mo_chain_49 : xlk (xm_cd m_Mo_chain) 49 = some (.iload_n 2, 1, (0, 0, 0, [])) := rfl
theorem l_Mo_chain_50 : xlk (xm_cd m_Mo_chain) 50 = some (.bipush 24, 2, (0, 0, 0, [])) := rfl
theorem l_Mo_chain_52 : xlk (xm_cd m_Mo_chain) 52 = some (.iload_n 2, 1, (0, 0, 0, [])) := rfl
theorem l_Mo_chain_53 : xlk (xm_cd m_Mo_chain) 53 = some (.imul, 1, (0, 0, 0, [])) := rfl
theorem l_Mo_chain_54 : xlk (xm_cd m_Mo_chain) 54 = some (.iload_n 3, 1, (0, 0, 0, [])) := rfl
theorem l_Mo_chain_55 : xlk (xm_cd m_Mo_chain) 55 = some (.iadd, 1, (0, 0, 0, [])) := rfl
theorem l_Mo_chain_56 : xlk (xm_cd m_Mo_chain) 56 = some (.invokevirtual 314, 3, (1134, 200, 3, [])) := rfl
theorem l_Mo_chain_59 : xlk (xm_cd m_Mo_chain) 59 = some (.istore 4, 2, (0, 0, 0, [])) := rfl
theorem l_Mo_chain_61 : xlk (xm_cd m_Mo_chain) 61 = some (.iload 4, 2, (0, 0, 0, [])) := rfl
theorem l_Mo_chain_63 : xlk (xm_cd m_Mo_chain) 63 = some (.ifCond .le 9, 3, (0, 72, 0, [])) := rfl
theorem l_Mo_chain_66 : xlk (xm_cd m_Mo_chain) 66 = some (.bipush (-10), 2, (0, 0, 0, [])) := rfl
theorem l_Mo_chain_68 : xlk (xm_cd m_Mo_chain) 68 = some (.iload 4, 2, (0, 0, 0, [])) := rfl
theorem l_Mo_chain_70 : xlk (xm_cd m_Mo_chain) 70 = some (.isub, 1, (0, 0, 0, [])) := rfl
theorem l_Mo_chain_71 : xlk (xm_cd m_Mo_chain) 71 = some (.ireturn, 1, (0, 0, 0, [])) := rfl
theorem l_Mo_chain_72 : xlk (xm_cd m_Mo_chain) 72 = some (.iinc 3 1, 3, (0, 0, 0, [])) := rfl
theorem l_Mo_chain_75 : xlk (xm_cd m_Mo_chain) 75 = some (.goto (-38), 3, (0, 37, 0, [])) := rfl
theorem l_Mo_chain_78 : xlk (xm_cd m_Mo_chain) 78 = some (.aload_n 0, 1, (0, 0, 0, [])) := rfl
theorem l_Mo_chain_79 : xlk (xm_cd m_Mo_chain) 79 = some (.getfield 69, 3, (871, 11, 22, [])) := rfl
theorem l_Mo_chain_82 : xlk (xm_cd m_Mo_chain) 82 = some (.bipush 8, 2, (0, 0, 0, [])) := rfl
theorem l_Mo_chain_84 : xlk (xm_cd m_Mo_chain) 84 = some (.iconst 0, 1, (0, 0, 0, [])) := rfl
theorem l_Mo_chain_85 : xlk (xm_cd m_Mo_chain) 85 = some (.iastore, 1, (0, 0, 0, [])) := rfl
theorem l_Mo_chain_86 : xlk (xm_cd m_Mo_chain) 86 = some (.iconst 0, 1, (0, 0, 0, [])) := rfl
theorem l_Mo_chain_87 : xlk (xm_cd m_Mo_chain) 87 = some (.istore_n 3, 1, (0, 0, 0, [])) := rfl
theorem l_Mo_chain_88 : xlk (xm_cd m_Mo_chain) 88 = some (.iload_n 3, 1, (0, 0, 0, [])) := rfl
theorem l_Mo_chain_89 : xlk (xm_cd m_Mo_chain) 89 = some (.bipush 24, 2, (0, 0, 0, [])) := rfl
theorem l_Mo_chain_91 : xlk (xm_cd m_Mo_chain) 91 = some (.if_icmp .ge 16, 3, (0, 107, 0, [])) := rfl
theorem l_Mo_chain_94 : xlk (xm_cd m_Mo_chain) 94 = some (.aload_n 0, 1, (0, 0, 0, [])) := rfl
theorem l_Mo_chain_95 : xlk (xm_cd m_Mo_chain) 95 = some (.getfield 100, 3, (885, 11, 36, [])) := rfl
theorem l_Mo_chain_98 : xlk (xm_cd m_Mo_chain) 98 = some (.iload_n 3, 1, (0, 0, 0, [])) := rfl
theorem l_Mo_chain_99 : xlk (xm_cd m_Mo_chain) 99 = some (.iconst 0, 1, (0, 0, 0, [])) := rfl
theorem l_Mo_chain_100 : xlk (xm_cd m_Mo_chain) 100 = some (.bastore, 1, (0, 0, 0, [])) := rfl
theorem l_Mo_chain_101 : xlk (xm_cd m_Mo_chain) 101 = some (.iinc 3 1, 3, (0, 0, 0, [])) := rfl
theorem l_Mo_chain_104 : xlk (xm_cd m_Mo_chain) 104 = some (.goto (-16), 3, (0, 88, 0, [])) := rfl
theorem l_Mo_chain_107 : xlk (xm_cd m_Mo_chain) 107 = some (.iconst 1, 1, (0, 0, 0, [])) := rfl
theorem l_Mo_chain_108 : xlk (xm_cd m_Mo_chain) 108 = some (.istore_n 3, 1, (0, 0, 0, [])) := rfl
theorem l_Mo_chain_109 : xlk (xm_cd m_Mo_chain) 109 = some (.iconst 0, 1, (0, 0, 0, [])) := rfl
theorem l_Mo_chain_110 : xlk (xm_cd m_Mo_chain) 110 = some (.istore 4, 2, (0, 0, 0, [])) := rfl
theorem l_Mo_chain_112 : xlk (xm_cd m_Mo_chain) 112 = some (.iload 4, 2, (0, 0, 0, [])) := rfl
theorem l_Mo_chain_114 : xlk (xm_cd m_Mo_chain) 114 = some (.aload_n 0, 1, (0, 0, 0, [])) := rfl
theorem l_Mo_chain_115 : xlk (xm_cd m_Mo_chain) 115 = some (.getfield 69, 3, (871, 11, 22, [])) := rfl
theorem l_Mo_chain_118 : xlk (xm_cd m_Mo_chain) 118 = some (.iload_n 2, 1, (0, 0, 0, [])) := rfl
theorem l_Mo_chain_119 : xlk (xm_cd m_Mo_chain) 119 = some (.iaload, 1, (0, 0, 0, [])) := rfl
theorem l_Mo_chain_120 : xlk (xm_cd m_Mo_chain) 120 = some (.if_icmp .ge 187, 3, (0, 307, 0, [])) := rfl
theorem l_Mo_chain_123 : xlk (xm_cd m_Mo_chain) 123 = some (.bipush 24, 2, (0, 0, 0, [])) := rfl
theorem l_Mo_chain_125 : xlk (xm_cd m_Mo_chain) 125 = some (.iload_n 2, 1, (0, 0, 0, [])) := rfl
theorem l_Mo_chain_126 : xlk (xm_cd m_Mo_chain) 126 = some (.imul, 1, (0, 0, 0, [])) := rfl
theorem l_Mo_chain_127 : xlk (xm_cd m_Mo_chain) 127 = some (.iload 4, 2, (0, 0, 0, [])) := rfl
theorem l_Mo_chain_129 : xlk (xm_cd m_Mo_chain) 129 = some (.iadd, 1, (0, 0, 0, [])) := rfl
theorem l_Mo_chain_130 : xlk (xm_cd m_Mo_chain) 130 = some (.istore 5, 2, (0, 0, 0, [])) := rfl
theorem l_Mo_chain_132 : xlk (xm_cd m_Mo_chain) 132 = some (.aload_n 0, 1, (0, 0, 0, [])) := rfl
theorem l_Mo_chain_133 : xlk (xm_cd m_Mo_chain) 133 = some (.iload 5, 2, (0, 0, 0, [])) := rfl
theorem l_Mo_chain_135 : xlk (xm_cd m_Mo_chain) 135 = some (.invokevirtual 298, 3, (1137, 201, 1, [])) := rfl
set_option maxRecDepth 20000 in
theorem l_Mo_chain_138 : xlk (xm_cd m_Mo_chain) 138 = some (.ifCond .eq 27, 3, (0, 165, 0, [])) := rfl
set_option maxRecDepth 20000 in
theorem l_Mo_chain_141 : xlk (xm_cd m_Mo_chain) 141 = some (.aload_n 0, 1, (0, 0, 0, [])) := rfl
set_option maxRecDepth 20000 in
theorem l_Mo_chain_142 : xlk (xm_cd m_Mo_chain) 142 = some (.iload_n 1, 1, (0, 0, 0, [])) := rfl
set_option maxRecDepth 20000 in
theorem l_Mo_chain_143 : xlk (xm_cd m_Mo_chain) 143 = some (.aload_n 0, 1, (0, 0, 0, [])) := rfl
set_option maxRecDepth 20000 in
theorem l_Mo_chain_144 : xlk (xm_cd m_Mo_chain) 144 = some (.getfield 45, 3, (863, 11, 14, [])) := rfl
set_option maxRecDepth 20000 in
theorem l_Mo_chain_147 : xlk (xm_cd m_Mo_chain) 147 = some (.bipush 18, 2, (0, 0, 0, [])) := rfl
set_option maxRecDepth 20000 in
theorem l_Mo_chain_149 : xlk (xm_cd m_Mo_chain) 149 = some (.iload 5, 2, (0, 0, 0, [])) := rfl
set_option maxRecDepth 20000 in
theorem l_Mo_chain_151 : xlk (xm_cd m_Mo_chain) 151 = some (.imul, 1, (0, 0, 0, [])) := rfl
set_option maxRecDepth 20000 in
theorem l_Mo_chain_152 : xlk (xm_cd m_Mo_chain) 152 = some (.aload_n 0, 1, (0, 0, 0, [])) := rfl
set_option maxRecDepth 20000 in
theorem l_Mo_chain_153 : xlk (xm_cd m_Mo_chain) 153 = some (.getfield 48, 3, (864, 11, 15, [])) := rfl
set_option maxRecDepth 20000 in
theorem l_Mo_chain_156 : xlk (xm_cd m_Mo_chain) 156 = some (.iload 5, 2, (0, 0, 0, [])) := rfl
set_option maxRecDepth 20000 in
theorem l_Mo_chain_158 : xlk (xm_cd m_Mo_chain) 158 = some (.iaload, 1, (0, 0, 0, [])) := rfl
set_option maxRecDepth 20000 in
theorem l_Mo_chain_159 : xlk (xm_cd m_Mo_chain) 159 = some (.invokevirtual 301, 3, (1140, 202, 4, [])) := rfl
set_option maxRecDepth 20000 in
theorem l_Mo_chain_162 : xlk (xm_cd m_Mo_chain) 162 = some (.goto 5, 3, (0, 167, 0, [])) := rfl
set_option maxRecDepth 20000 in
theorem l_Mo_chain_165 : xlk (xm_cd m_Mo_chain) 165 = some (.bipush (-2), 2, (0, 0, 0, [])) := rfl
set_option maxRecDepth 20000 in
theorem l_Mo_chain_167 : xlk (xm_cd m_Mo_chain) 167 = some (.istore 6, 2, (0, 0, 0, [])) := rfl
set_option maxRecDepth 20000 in
theorem l_Mo_chain_169 : xlk (xm_cd m_Mo_chain) 169 = some (.iload 6, 2, (0, 0, 0, [])) := rfl
set_option maxRecDepth 20000 in
theorem l_Mo_chain_171 : xlk (xm_cd m_Mo_chain) 171 = some (.bipush (-2), 2, (0, 0, 0, [])) := rfl
set_option maxRecDepth 20000 in
theorem l_Mo_chain_173 : xlk (xm_cd m_Mo_chain) 173 = some (.if_icmp .eq 47, 3, (0, 220, 0, [])) := rfl
set_option maxRecDepth 20000 in
theorem l_Mo_chain_176 : xlk (xm_cd m_Mo_chain) 176 = some (.aload_n 0, 1, (0, 0, 0, [])) := rfl
set_option maxRecDepth 20000 in
theorem l_Mo_chain_177 : xlk (xm_cd m_Mo_chain) 177 = some (.getfield 100, 3, (885, 11, 36, [])) := rfl
set_option maxRecDepth 20000 in
theorem l_Mo_chain_180 : xlk (xm_cd m_Mo_chain) 180 = some (.iload 6, 2, (0, 0, 0, [])) := rfl
set_option maxRecDepth 20000 in
theorem l_Mo_chain_182 : xlk (xm_cd m_Mo_chain) 182 = some (.bipush 24, 2, (0, 0, 0, [])) := rfl
set_option maxRecDepth 20000 in
theorem l_Mo_chain_184 : xlk (xm_cd m_Mo_chain) 184 = some (.iload_n 1, 1, (0, 0, 0, [])) := rfl
set_option maxRecDepth 20000 in
theorem l_Mo_chain_185 : xlk (xm_cd m_Mo_chain) 185 = some (.imul, 1, (0, 0, 0, [])) := rfl
set_option maxRecDepth 20000 in
theorem l_Mo_chain_186 : xlk (xm_cd m_Mo_chain) 186 = some (.isub, 1, (0, 0, 0, [])) := rfl
set_option maxRecDepth 20000 in
theorem l_Mo_chain_187 : xlk (xm_cd m_Mo_chain) 187 = some (.iconst 1, 1, (0, 0, 0, [])) := rfl
set_option maxRecDepth 20000 in
theorem l_Mo_chain_188 : xlk (xm_cd m_Mo_chain) 188 = some (.bastore, 1, (0, 0, 0, [])) := rfl
set_option maxRecDepth 20000 in
theorem l_Mo_chain_189 : xlk (xm_cd m_Mo_chain) 189 = some (.iload_n 3, 1, (0, 0, 0, [])) := rfl
set_option maxRecDepth 20000 in
theorem l_Mo_chain_190 : xlk (xm_cd m_Mo_chain) 190 = some (.ifCond .eq 25, 3, (0, 215, 0, [])) := rfl
set_option maxRecDepth 20000 in
theorem l_Mo_chain_193 : xlk (xm_cd m_Mo_chain) 193 = some (.aload_n 0, 1, (0, 0, 0, [])) := rfl
set_option maxRecDepth 20000 in
theorem l_Mo_chain_194 : xlk (xm_cd m_Mo_chain) 194 = some (.iload 6, 2, (0, 0, 0, [])) := rfl
set_option maxRecDepth 20000 in
theorem l_Mo_chain_196 : xlk (xm_cd m_Mo_chain) 196 = some (.iload 5, 2, (0, 0, 0, [])) := rfl
set_option maxRecDepth 20000 in
theorem l_Mo_chain_198 : xlk (xm_cd m_Mo_chain) 198 = some (.invokevirtual 317, 3, (1149, 205, 2, [])) := rfl
set_option maxRecDepth 20000 in
theorem l_Mo_chain_201 : xlk (xm_cd m_Mo_chain) 201 = some (.ifCond .eq 10, 3, (0, 211, 0, [])) := rfl
set_option maxRecDepth 20000 in
theorem l_Mo_chain_204 : xlk (xm_cd m_Mo_chain) 204 = some (.aload_n 0, 1, (0, 0, 0, [])) := rfl
set_option maxRecDepth 20000 in
theorem l_Mo_chain_205 : xlk (xm_cd m_Mo_chain) 205 = some (.invokevirtual 320, 3, (1158, 208, 0, [])) := rfl
set_option maxRecDepth 20000 in
theorem l_Mo_chain_208 : xlk (xm_cd m_Mo_chain) 208 = some (.ifCond .eq 7, 3, (0, 215, 0, [])) := rfl
set_option maxRecDepth 20000 in
theorem l_Mo_chain_211 : xlk (xm_cd m_Mo_chain) 211 = some (.iconst 1, 1, (0, 0, 0, [])) := rfl
set_option maxRecDepth 20000 in
theorem l_Mo_chain_212 : xlk (xm_cd m_Mo_chain) 212 = some (.goto 4, 3, (0, 216, 0, [])) := rfl
set_option maxRecDepth 20000 in
theorem l_Mo_chain_215 : xlk (xm_cd m_Mo_chain) 215 = some (.iconst 0, 1, (0, 0, 0, [])) := rfl
set_option maxRecDepth 20000 in
theorem l_Mo_chain_216 : xlk (xm_cd m_Mo_chain) 216 = some (.istore_n 3, 1, (0, 0, 0, [])) := rfl
set_option maxRecDepth 20000 in
theorem l_Mo_chain_217 : xlk (xm_cd m_Mo_chain) 217 = some (.goto 84, 3, (0, 301, 0, [])) := rfl
set_option maxRecDepth 20000 in
theorem l_Mo_chain_220 : xlk (xm_cd m_Mo_chain) 220 = some (.aload_n 0, 1, (0, 0, 0, [])) := rfl
set_option maxRecDepth 20000 in
theorem l_Mo_chain_221 : xlk (xm_cd m_Mo_chain) 221 = some (.getfield 36, 3, (860, 11, 11, [])) := rfl
set_option maxRecDepth 20000 in
theorem l_Mo_chain_224 : xlk (xm_cd m_Mo_chain) 224 = some (.iload 5, 2, (0, 0, 0, [])) := rfl
set_option maxRecDepth 20000 in
theorem l_Mo_chain_226 : xlk (xm_cd m_Mo_chain) 226 = some (.iaload, 1, (0, 0, 0, [])) := rfl
set_option maxRecDepth 20000 in
theorem l_Mo_chain_227 : xlk (xm_cd m_Mo_chain) 227 = some (.ifCond .ne 13, 3, (0, 240, 0, [])) := rfl
set_option maxRecDepth 20000 in
theorem l_Mo_chain_230 : xlk (xm_cd m_Mo_chain) 230 = some (.aload_n 0, 1, (0, 0, 0, [])) := rfl
set_option maxRecDepth 20000 in
theorem l_Mo_chain_231 : xlk (xm_cd m_Mo_chain) 231 = some (.iload_n 1, 1, (0, 0, 0, [])) := rfl
set_option maxRecDepth 20000 in
theorem l_Mo_chain_232 : xlk (xm_cd m_Mo_chain) 232 = some (.iload 5, 2, (0, 0, 0, [])) := rfl
set_option maxRecDepth 20000 in
theorem l_Mo_chain_234 : xlk (xm_cd m_Mo_chain) 234 = some (.invokevirtual 324, 3, (1161, 209, 2, [])) := rfl
set_option maxRecDepth 20000 in
theorem l_Mo_chain_237 : xlk (xm_cd m_Mo_chain) 237 = some (.goto 5, 3, (0, 242, 0, [])) := rfl
set_option maxRecDepth 20000 in
theorem l_Mo_chain_240 : xlk (xm_cd m_Mo_chain) 240 = some (.bipush (-2), 2, (0, 0, 0, [])) := rfl
set_option maxRecDepth 20000 in
theorem l_Mo_chain_242 : xlk (xm_cd m_Mo_chain) 242 = some (.istore 7, 2, (0, 0, 0, [])) := rfl
set_option maxRecDepth 20000 in
theorem l_Mo_chain_244 : xlk (xm_cd m_Mo_chain) 244 = some (.iload 7, 2, (0, 0, 0, [])) := rfl
set_option maxRecDepth 20000 in
theorem l_Mo_chain_246 : xlk (xm_cd m_Mo_chain) 246 = some (.bipush (-2), 2, (0, 0, 0, [])) := rfl
set_option maxRecDepth 20000 in
theorem l_Mo_chain_248 : xlk (xm_cd m_Mo_chain) 248 = some (.if_icmp .eq 27, 3, (0, 275, 0, [])) := rfl
set_option maxRecDepth 20000 in
theorem l_Mo_chain_251 : xlk (xm_cd m_Mo_chain) 251 = some (.aload_n 0, 1, (0, 0, 0, [])) := rfl
set_option maxRecDepth 20000 in
theorem l_Mo_chain_252 : xlk (xm_cd m_Mo_chain) 252 = some (.getfield 100, 3, (885, 11, 36, [])) := rfl
set_option maxRecDepth 20000 in
theorem l_Mo_chain_255 : xlk (xm_cd m_Mo_chain) 255 = some (.iload 7, 2, (0, 0, 0, [])) := rfl
set_option maxRecDepth 20000 in
theorem l_Mo_chain_257 : xlk (xm_cd m_Mo_chain) 257 = some (.bipush 24, 2, (0, 0, 0, [])) := rfl
set_option maxRecDepth 20000 in
theorem l_Mo_chain_259 : xlk (xm_cd m_Mo_chain) 259 = some (.iload_n 1, 1, (0, 0, 0, [])) := rfl
set_option maxRecDepth 20000 in
theorem l_Mo_chain_260 : xlk (xm_cd m_Mo_chain) 260 = some (.imul, 1, (0, 0, 0, [])) := rfl
set_option maxRecDepth 20000 in
theorem l_Mo_chain_261 : xlk (xm_cd m_Mo_chain) 261 = some (.isub, 1, (0, 0, 0, [])) := rfl
set_option maxRecDepth 20000 in
theorem l_Mo_chain_262 : xlk (xm_cd m_Mo_chain) 262 = some (.iconst 1, 1, (0, 0, 0, [])) := rfl
set_option maxRecDepth 20000 in
theorem l_Mo_chain_263 : xlk (xm_cd m_Mo_chain) 263 = some (.bastore, 1, (0, 0, 0, [])) := rfl
set_option maxRecDepth 20000 in
theorem l_Mo_chain_264 : xlk (xm_cd m_Mo_chain) 264 = some (.aload_n 0, 1, (0, 0, 0, [])) := rfl
set_option maxRecDepth 20000 in
theorem l_Mo_chain_265 : xlk (xm_cd m_Mo_chain) 265 = some (.iload 7, 2, (0, 0, 0, [])) := rfl
set_option maxRecDepth 20000 in
theorem l_Mo_chain_267 : xlk (xm_cd m_Mo_chain) 267 = some (.iload 5, 2, (0, 0, 0, [])) := rfl
set_option maxRecDepth 20000 in
theorem l_Mo_chain_269 : xlk (xm_cd m_Mo_chain) 269 = some (.invokevirtual 327, 3, (1164, 210, 2, [])) := rfl
set_option maxRecDepth 20000 in
theorem l_Mo_chain_272 : xlk (xm_cd m_Mo_chain) 272 = some (.goto 12, 3, (0, 284, 0, [])) := rfl
set_option maxRecDepth 20000 in
theorem l_Mo_chain_275 : xlk (xm_cd m_Mo_chain) 275 = some (.aload_n 0, 1, (0, 0, 0, [])) := rfl
set_option maxRecDepth 20000 in
theorem l_Mo_chain_276 : xlk (xm_cd m_Mo_chain) 276 = some (.iload 5, 2, (0, 0, 0, [])) := rfl
set_option maxRecDepth 20000 in
theorem l_Mo_chain_278 : xlk (xm_cd m_Mo_chain) 278 = some (.sipush 217, 3, (0, 0, 0, [])) := rfl
set_option maxRecDepth 20000 in
theorem l_Mo_chain_281 : xlk (xm_cd m_Mo_chain) 281 = some (.invokevirtual 204, 3, (1062, 179, 2, [])) := rfl
set_option maxRecDepth 20000 in
theorem l_Mo_chain_284 : xlk (xm_cd m_Mo_chain) 284 = some (.iload_n 3, 1, (0, 0, 0, [])) := rfl
set_option maxRecDepth 20000 in
theorem l_Mo_chain_285 : xlk (xm_cd m_Mo_chain) 285 = some (.ifCond .eq 14, 3, (0, 299, 0, [])) := rfl
set_option maxRecDepth 20000 in
theorem l_Mo_chain_288 : xlk (xm_cd m_Mo_chain) 288 = some (.aload_n 0, 1, (0, 0, 0, [])) := rfl
set_option maxRecDepth 20000 in
theorem l_Mo_chain_289 : xlk (xm_cd m_Mo_chain) 289 = some (.invokevirtual 320, 3, (1158, 208, 0, [])) := rfl
set_option maxRecDepth 20000 in
theorem l_Mo_chain_292 : xlk (xm_cd m_Mo_chain) 292 = some (.ifCond .eq 7, 3, (0, 299, 0, [])) := rfl
set_option maxRecDepth 20000 in
theorem l_Mo_chain_295 : xlk (xm_cd m_Mo_chain) 295 = some (.iconst 1, 1, (0, 0, 0, [])) := rfl
set_option maxRecDepth 20000 in
theorem l_Mo_chain_296 : xlk (xm_cd m_Mo_chain) 296 = some (.goto 4, 3, (0, 300, 0, [])) := rfl
set_option maxRecDepth 20000 in
theorem l_Mo_chain_299 : xlk (xm_cd m_Mo_chain) 299 = some (.iconst 0, 1, (0, 0, 0, [])) := rfl
set_option maxRecDepth 20000 in
theorem l_Mo_chain_300 : xlk (xm_cd m_Mo_chain) 300 = some (.istore_n 3, 1, (0, 0, 0, [])) := rfl
set_option maxRecDepth 20000 in
theorem l_Mo_chain_301 : xlk (xm_cd m_Mo_chain) 301 = some (.iinc 4 1, 3, (0, 0, 0, [])) := rfl
set_option maxRecDepth 20000 in
theorem l_Mo_chain_304 : xlk (xm_cd m_Mo_chain) 304 = some (.goto (-192), 3, (0, 112, 0, [])) := rfl
set_option maxRecDepth 20000 in
theorem l_Mo_chain_307 : xlk (xm_cd m_Mo_chain) 307 = some (.iconst 0, 1, (0, 0, 0, [])) := rfl
set_option maxRecDepth 20000 in
theorem l_Mo_chain_308 : xlk (xm_cd m_Mo_chain) 308 = some (.istore 4, 2, (0, 0, 0, [])) := rfl
set_option maxRecDepth 20000 in
theorem l_Mo_chain_310 : xlk (xm_cd m_Mo_chain) 310 = some (.iload 4, 2, (0, 0, 0, [])) := rfl
set_option maxRecDepth 20000 in
theorem l_Mo_chain_312 : xlk (xm_cd m_Mo_chain) 312 = some (.aload_n 0, 1, (0, 0, 0, [])) := rfl
set_option maxRecDepth 20000 in
theorem l_Mo_chain_313 : xlk (xm_cd m_Mo_chain) 313 = some (.getfield 69, 3, (871, 11, 22, [])) := rfl
set_option maxRecDepth 20000 in
theorem l_Mo_chain_316 : xlk (xm_cd m_Mo_chain) 316 = some (.iload_n 1, 1, (0, 0, 0, [])) := rfl
set_option maxRecDepth 20000 in
theorem l_Mo_chain_317 : xlk (xm_cd m_Mo_chain) 317 = some (.iaload, 1, (0, 0, 0, [])) := rfl
set_option maxRecDepth 20000 in
theorem l_Mo_chain_318 : xlk (xm_cd m_Mo_chain) 318 = some (.if_icmp .ge 50, 3, (0, 368, 0, [])) := rfl
set_option maxRecDepth 20000 in
theorem l_Mo_chain_321 : xlk (xm_cd m_Mo_chain) 321 = some (.aload_n 0, 1, (0, 0, 0, [])) := rfl
set_option maxRecDepth 20000 in
theorem l_Mo_chain_322 : xlk (xm_cd m_Mo_chain) 322 = some (.getfield 100, 3, (885, 11, 36, [])) := rfl
set_option maxRecDepth 20000 in
theorem l_Mo_chain_325 : xlk (xm_cd m_Mo_chain) 325 = some (.iload 4, 2, (0, 0, 0, [])) := rfl
set_option maxRecDepth 20000 in
theorem l_Mo_chain_327 : xlk (xm_cd m_Mo_chain) 327 = some (.baload, 1, (0, 0, 0, [])) := rfl
set_option maxRecDepth 20000 in
theorem l_Mo_chain_328 : xlk (xm_cd m_Mo_chain) 328 = some (.ifCond .ne 34, 3, (0, 362, 0, [])) := rfl
set_option maxRecDepth 20000 in
theorem l_Mo_chain_331 : xlk (xm_cd m_Mo_chain) 331 = some (.aload_n 0, 1, (0, 0, 0, [])) := rfl
set_option maxRecDepth 20000 in
theorem l_Mo_chain_332 : xlk (xm_cd m_Mo_chain) 332 = some (.bipush 24, 2, (0, 0, 0, [])) := rfl
set_option maxRecDepth 20000 in
theorem l_Mo_chain_334 : xlk (xm_cd m_Mo_chain) 334 = some (.iload_n 1, 1, (0, 0, 0, [])) := rfl
set_option maxRecDepth 20000 in
theorem l_Mo_chain_335 : xlk (xm_cd m_Mo_chain) 335 = some (.imul, 1, (0, 0, 0, [])) := rfl
set_option maxRecDepth 20000 in
theorem l_Mo_chain_336 : xlk (xm_cd m_Mo_chain) 336 = some (.iload 4, 2, (0, 0, 0, [])) := rfl
set_option maxRecDepth 20000 in
theorem l_Mo_chain_338 : xlk (xm_cd m_Mo_chain) 338 = some (.iadd, 1, (0, 0, 0, [])) := rfl
set_option maxRecDepth 20000 in
theorem l_Mo_chain_339 : xlk (xm_cd m_Mo_chain) 339 = some (.sipush 217, 3, (0, 0, 0, [])) := rfl
set_option maxRecDepth 20000 in
theorem l_Mo_chain_342 : xlk (xm_cd m_Mo_chain) 342 = some (.invokevirtual 204, 3, (1062, 179, 2, [])) := rfl
set_option maxRecDepth 20000 in
theorem l_Mo_chain_345 : xlk (xm_cd m_Mo_chain) 345 = some (.iload_n 3, 1, (0, 0, 0, [])) := rfl
set_option maxRecDepth 20000 in
theorem l_Mo_chain_346 : xlk (xm_cd m_Mo_chain) 346 = some (.ifCond .eq 14, 3, (0, 360, 0, [])) := rfl
set_option maxRecDepth 20000 in
theorem l_Mo_chain_349 : xlk (xm_cd m_Mo_chain) 349 = some (.aload_n 0, 1, (0, 0, 0, [])) := rfl
set_option maxRecDepth 20000 in
theorem l_Mo_chain_350 : xlk (xm_cd m_Mo_chain) 350 = some (.invokevirtual 320, 3, (1158, 208, 0, [])) := rfl
set_option maxRecDepth 20000 in
theorem l_Mo_chain_353 : xlk (xm_cd m_Mo_chain) 353 = some (.ifCond .eq 7, 3, (0, 360, 0, [])) := rfl
set_option maxRecDepth 20000 in
theorem l_Mo_chain_356 : xlk (xm_cd m_Mo_chain) 356 = some (.iconst 1, 1, (0, 0, 0, [])) := rfl
set_option maxRecDepth 20000 in
theorem l_Mo_chain_357 : xlk (xm_cd m_Mo_chain) 357 = some (.goto 4, 3, (0, 361, 0, [])) := rfl
set_option maxRecDepth 20000 in
theorem l_Mo_chain_360 : xlk (xm_cd m_Mo_chain) 360 = some (.iconst 0, 1, (0, 0, 0, [])) := rfl
set_option maxRecDepth 20000 in
theorem l_Mo_chain_361 : xlk (xm_cd m_Mo_chain) 361 = some (.istore_n 3, 1, (0, 0, 0, [])) := rfl
set_option maxRecDepth 20000 in
theorem l_Mo_chain_362 : xlk (xm_cd m_Mo_chain) 362 = some (.iinc 4 1, 3, (0, 0, 0, [])) := rfl
set_option maxRecDepth 20000 in
theorem l_Mo_chain_365 : xlk (xm_cd m_Mo_chain) 365 = some (.goto (-55), 3, (0, 310, 0, [])) := rfl
set_option maxRecDepth 20000 in
theorem l_Mo_chain_368 : xlk (xm_cd m_Mo_chain) 368 = some (.iload_n 3, 1, (0, 0, 0, [])) := rfl
set_option maxRecDepth 20000 in
theorem l_Mo_chain_369 : xlk (xm_cd m_Mo_chain) 369 = some (.ifCond .ne 6, 3, (0, 375, 0, [])) := rfl
set_option maxRecDepth 20000 in
theorem l_Mo_chain_372 : xlk (xm_cd m_Mo_chain) 372 = some (.bipush (-3), 2, (0, 0, 0, [])) := rfl
set_option maxRecDepth 20000 in
theorem l_Mo_chain_374 : xlk (xm_cd m_Mo_chain) 374 = some (.ireturn, 1, (0, 0, 0, [])) := rfl
set_option maxRecDepth 20000 in
theorem l_Mo_chain_375 : xlk (xm_cd m_Mo_chain) 375 = some (.aload_n 0, 1, (0, 0, 0, [])) := rfl
set_option maxRecDepth 20000 in
theorem l_Mo_chain_376 : xlk (xm_cd m_Mo_chain) 376 = some (.getfield 69, 3, (871, 11, 22, [])) := rfl
set_option maxRecDepth 20000 in
theorem l_Mo_chain_379 : xlk (xm_cd m_Mo_chain) 379 = some (.aload_n 0, 1, (0, 0, 0, [])) := rfl
set_option maxRecDepth 20000 in
theorem l_Mo_chain_380 : xlk (xm_cd m_Mo_chain) 380 = some (.getfield 198, 3, (872, 11, 23, [])) := rfl
set_option maxRecDepth 20000 in
theorem l_Mo_chain_383 : xlk (xm_cd m_Mo_chain) 383 = some (.aload_n 0, 1, (0, 0, 0, [])) := rfl
set_option maxRecDepth 20000 in
theorem l_Mo_chain_384 : xlk (xm_cd m_Mo_chain) 384 = some (.getfield 69, 3, (871, 11, 22, [])) := rfl
set_option maxRecDepth 20000 in
theorem l_Mo_chain_387 : xlk (xm_cd m_Mo_chain) 387 = some (.bipush 8, 2, (0, 0, 0, [])) := rfl
set_option maxRecDepth 20000 in
theorem l_Mo_chain_389 : xlk (xm_cd m_Mo_chain) 389 = some (.iaload, 1, (0, 0, 0, [])) := rfl
set_option maxRecDepth 20000 in
theorem l_Mo_chain_390 : xlk (xm_cd m_Mo_chain) 390 = some (.iastore, 1, (0, 0, 0, [])) := rfl
set_option maxRecDepth 20000 in
theorem l_Mo_chain_391 : xlk (xm_cd m_Mo_chain) 391 = some (.iconst 0, 1, (0, 0, 0, [])) := rfl
set_option maxRecDepth 20000 in
theorem l_Mo_chain_392 : xlk (xm_cd m_Mo_chain) 392 = some (.istore 4, 2, (0, 0, 0, [])) := rfl
set_option maxRecDepth 20000 in
theorem l_Mo_chain_394 : xlk (xm_cd m_Mo_chain) 394 = some (.iload 4, 2, (0, 0, 0, [])) := rfl
set_option maxRecDepth 20000 in
theorem l_Mo_chain_396 : xlk (xm_cd m_Mo_chain) 396 = some (.aload_n 0, 1, (0, 0, 0, [])) := rfl
set_option maxRecDepth 20000 in
theorem l_Mo_chain_397 : xlk (xm_cd m_Mo_chain) 397 = some (.getfield 69, 3, (871, 11, 22, [])) := rfl
set_option maxRecDepth 20000 in
theorem l_Mo_chain_400 : xlk (xm_cd m_Mo_chain) 400 = some (.bipush 8, 2, (0, 0, 0, [])) := rfl
set_option maxRecDepth 20000 in
theorem l_Mo_chain_402 : xlk (xm_cd m_Mo_chain) 402 = some (.iaload, 1, (0, 0, 0, [])) := rfl
set_option maxRecDepth 20000 in
theorem l_Mo_chain_403 : xlk (xm_cd m_Mo_chain) 403 = some (.if_icmp .ge 29, 3, (0, 432, 0, [])) := rfl
set_option maxRecDepth 20000 in
theorem l_Mo_chain_406 : xlk (xm_cd m_Mo_chain) 406 = some (.aload_n 0, 1, (0, 0, 0, [])) := rfl
set_option maxRecDepth 20000 in
theorem l_Mo_chain_407 : xlk (xm_cd m_Mo_chain) 407 = some (.sipush 192, 3, (0, 0, 0, [])) := rfl
set_option maxRecDepth 20000 in
theorem l_Mo_chain_410 : xlk (xm_cd m_Mo_chain) 410 = some (.iload 4, 2, (0, 0, 0, [])) := rfl
set_option maxRecDepth 20000 in
theorem l_Mo_chain_412 : xlk (xm_cd m_Mo_chain) 412 = some (.iadd, 1, (0, 0, 0, [])) := rfl
set_option maxRecDepth 20000 in
theorem l_Mo_chain_413 : xlk (xm_cd m_Mo_chain) 413 = some (.bipush 24, 2, (0, 0, 0, [])) := rfl
set_option maxRecDepth 20000 in
theorem l_Mo_chain_415 : xlk (xm_cd m_Mo_chain) 415 = some (.aload_n 0, 1, (0, 0, 0, [])) := rfl
set_option maxRecDepth 20000 in
theorem l_Mo_chain_416 : xlk (xm_cd m_Mo_chain) 416 = some (.getfield 198, 3, (872, 11, 23, [])) := rfl
set_option maxRecDepth 20000 in
theorem l_Mo_chain_419 : xlk (xm_cd m_Mo_chain) 419 = some (.imul, 1, (0, 0, 0, [])) := rfl
set_option maxRecDepth 20000 in
theorem l_Mo_chain_420 : xlk (xm_cd m_Mo_chain) 420 = some (.iload 4, 2, (0, 0, 0, [])) := rfl
set_option maxRecDepth 20000 in
theorem l_Mo_chain_422 : xlk (xm_cd m_Mo_chain) 422 = some (.iadd, 1, (0, 0, 0, [])) := rfl
set_option maxRecDepth 20000 in
theorem l_Mo_chain_423 : xlk (xm_cd m_Mo_chain) 423 = some (.invokevirtual 204, 3, (1062, 179, 2, [])) := rfl
set_option maxRecDepth 20000 in
theorem l_Mo_chain_426 : xlk (xm_cd m_Mo_chain) 426 = some (.iinc 4 1, 3, (0, 0, 0, [])) := rfl
set_option maxRecDepth 20000 in
theorem l_Mo_chain_429 : xlk (xm_cd m_Mo_chain) 429 = some (.goto (-35), 3, (0, 394, 0, [])) := rfl
set_option maxRecDepth 20000 in
theorem l_Mo_chain_432 : xlk (xm_cd m_Mo_chain) 432 = some (.aload_n 0, 1, (0, 0, 0, [])) := rfl
set_option maxRecDepth 20000 in
theorem l_Mo_chain_433 : xlk (xm_cd m_Mo_chain) 433 = some (.dup, 1, (0, 0, 0, [])) := rfl
set_option maxRecDepth 20000 in
theorem l_Mo_chain_434 : xlk (xm_cd m_Mo_chain) 434 = some (.getfield 198, 3, (872, 11, 23, [])) := rfl
set_option maxRecDepth 20000 in
theorem l_Mo_chain_437 : xlk (xm_cd m_Mo_chain) 437 = some (.iconst 1, 1, (0, 0, 0, [])) := rfl
set_option maxRecDepth 20000 in
theorem l_Mo_chain_438 : xlk (xm_cd m_Mo_chain) 438 = some (.iadd, 1, (0, 0, 0, [])) := rfl
set_option maxRecDepth 20000 in
theorem l_Mo_chain_439 : xlk (xm_cd m_Mo_chain) 439 = some (.putfield 198, 3, (872, 11, 23, [(0, 0)])) := rfl
set_option maxRecDepth 20000 in
theorem l_Mo_chain_442 : xlk (xm_cd m_Mo_chain) 442 = some (.aload_n 0, 1, (0, 0, 0, [])) := rfl
set_option maxRecDepth 20000 in
theorem l_Mo_chain_443 : xlk (xm_cd m_Mo_chain) 443 = some (.getfield 198, 3, (872, 11, 23, [])) := rfl
set_option maxRecDepth 20000 in
theorem l_Mo_chain_446 : xlk (xm_cd m_Mo_chain) 446 = some (.iconst 1, 1, (0, 0, 0, [])) := rfl
set_option maxRecDepth 20000 in
theorem l_Mo_chain_447 : xlk (xm_cd m_Mo_chain) 447 = some (.isub, 1, (0, 0, 0, [])) := rfl
set_option maxRecDepth 20000 in
theorem l_Mo_chain_448 : xlk (xm_cd m_Mo_chain) 448 = some (.ireturn, 1, (0, 0, 0, [])) := rfl
def B_Mo_chain_0 (d : Nat) (E : Option Value → xH → Prop) (f : xH) (a0 : Nat) (x1 : Int32) (x2 : Int32) : Prop :=
  xpf f a0 11 0 (.int 0) (fun f1 => (∃ fs, f1 a0 = some (xO 11 fs)) ∧ xSp xT0 d j_Mo_noPatch [.ref a0, .int x1] f1 (fun w2 f3 => xvi w2 (fun v4 => xbr (¬ v4 = 0) (E (some (.int (-1))) f3) ((∃ fs, f3 a0 = some (xO 11 fs)) ∧ xSp xT0 d j_Mo_noPatch [.ref a0, .int x2] f3 (fun w5 f6 => xvi w5 (fun v7 => xbr (v7 = 0) (xgi f6 a0 11 23 (fun v8 => xbr (¬ v8 = 8) (xWp (xT0, xSp xT0 d, none, m_Mo_chain, E) 37 [some (.ref a0), some (.int x1), some (.int x2), some (.int 0), none, none, none, none] [] f6 0 0) (E (some (.int (-3))) f6))) (E (some (.int (-1))) f6)))))))
theorem b_Mo_chain_0 {d : Nat} {E : Option Value → xH → Prop} {f : xH} {a0 : Nat} {x1 : Int32} {x2 : Int32} (h : B_Mo_chain_0 d E f a0 x1 x2) : xWp (xT0, xSp xT0 d, none, m_Mo_chain, E) 0 [some (.ref a0), some (.int x1), some (.int x2), none, none, none, none, none] [] f 0 0 := by
  unfold B_Mo_chain_0 at h
  refine s_aln l_Mo_chain_0 rfl ?_
  refine s_ic 0 l_Mo_chain_1 rfl ?_
  refine s_pf l_Mo_chain_2 ⟨_, rfl⟩ h (fun f1 h => ?_)
  refine s_aln l_Mo_chain_5 rfl ?_
  refine s_iln l_Mo_chain_6 rfl ?_
  refine s_cvi (As := [.int x1]) (r := []) l_Mo_chain_7 rfl ⟨rfl, rfl⟩ rfl (Nat.le_of_ble_eq_true rfl) rfl ⟨Nat.zero_le _, Nat.zero_le _⟩ h (fun v4 f3 h => ?_)
  refine s_if l_Mo_chain_10 h (fun h => ?_) (fun h => ?_)
  · refine s_ic (-1) l_Mo_chain_21 rfl ?_
    exact s_iret l_Mo_chain_22 rfl ⟨Nat.zero_le _, Nat.zero_le _⟩ h
  · refine s_aln l_Mo_chain_13 rfl ?_
    refine s_iln l_Mo_chain_14 rfl ?_
    refine s_cvi (As := [.int x2]) (r := []) l_Mo_chain_15 rfl ⟨rfl, rfl⟩ rfl (Nat.le_of_ble_eq_true rfl) rfl ⟨Nat.zero_le _, Nat.zero_le _⟩ h (fun v7 f6 h => ?_)
    refine s_if l_Mo_chain_18 h (fun h => ?_) (fun h => ?_)
    · refine s_aln l_Mo_chain_23 rfl ?_
      refine s_gi l_Mo_chain_24 h (fun v8 h => ?_)
      refine s_bp 8 l_Mo_chain_27 rfl ?_
      refine s_ifc l_Mo_chain_29 h (fun h => ?_) (fun h => ?_)
      · refine s_ic 0 l_Mo_chain_35 rfl ?_
        refine s_isn l_Mo_chain_36 (Nat.le_of_ble_eq_true rfl) ?_
        exact h
      · refine s_bp (-3) l_Mo_chain_32 rfl ?_
        exact s_iret l_Mo_chain_34 rfl ⟨Nat.zero_le _, Nat.zero_le _⟩ h
    · refine s_ic (-1) l_Mo_chain_21 rfl ?_
      exact s_iret l_Mo_chain_22 rfl ⟨Nat.zero_le _, Nat.zero_le _⟩ h
def B_Mo_chain_37 (d : Nat) (E : Option Value → xH → Prop) (f : xH) (a0 : Nat) (x1 : Int32) (x2 : Int32) (x3 : Int32) (u4 : Option Value) (u5 : Option Value) (u6 : Option Value) (u7 : Option Value) : Prop :=
  xgr f a0 11 22 (fun r1 => xal f r1 0 x2 (fun v2 => xbr (v2 ≤ x3) (xgr f a0 11 22 (fun r3 => xas f r3 0 8 0 (fun f4 => xWp (xT0, xSp xT0 d, none, m_Mo_chain, E) 88 [some (.ref a0), some (.int x1), some (.int x2), some (.int 0), u4, u5, u6, u7] [] f4 0 0))) ((∃ fs, f a0 = some (xO 11 fs)) ∧ xSp xT0 d j_Mo_chainRule [.ref a0, .int x1, .int x2, .int ((24 * x2) + x3)] f (fun w5 f6 => xvi w5 (fun v7 => xbr (v7 ≤ 0) (xWp (xT0, xSp xT0 d, none, m_Mo_chain, E) 37 [some (.ref a0), some (.int x1), some (.int x2), some (.int (x3 + 1)), some (.int v7), u5, u6, u7] [] f6 0 0) (E (some (.int ((-10) - v7))) f6))))))
theorem b_Mo_chain_37 {d : Nat} {E : Option Value → xH → Prop} {f : xH} {a0 : Nat} {x1 : Int32} {x2 : Int32} {x3 : Int32} {u4 : Option Value} {u5 : Option Value} {u6 : Option Value} {u7 : Option Value} (h : B_Mo_chain_37 d E f a0 x1 x2 x3 u4 u5 u6 u7) : xWp (xT0, xSp xT0 d, none, m_Mo_chain, E) 37 [some (.ref a0), some (.int x1), some (.int x2), some (.int x3), u4, u5, u6, u7] [] f 0 0 := by
  unfold B_Mo_chain_37 at h
  refine s_iln l_Mo_chain_37 rfl ?_
  refine s_aln l_Mo_chain_38 rfl ?_
  refine s_gr l_Mo_chain_39 h (fun r1 h => ?_)
  refine s_iln l_Mo_chain_42 rfl ?_
  refine s_ial l_Mo_chain_43 rfl h (fun v2 h => ?_)
  refine s_ifc l_Mo_chain_44 h (fun h => ?_) (fun h => ?_)
  · refine s_aln l_Mo_chain_78 rfl ?_
    refine s_gr l_Mo_chain_79 h (fun r3 h => ?_)
    refine s_bp 8 l_Mo_chain_82 rfl ?_
    refine s_ic 0 l_Mo_chain_84 rfl ?_
    refine s_iast l_Mo_chain_85 h (fun f4 h => ?_)
    refine s_ic 0 l_Mo_chain_86 rfl ?_
    refine s_isn l_Mo_chain_87 (Nat.le_of_ble_eq_true rfl) ?_
    exact h
  · refine s_aln l_Mo_chain_47 rfl ?_
    refine s_iln l_Mo_chain_48 rfl ?_
    refine s_iln l_Mo_chain_49 rfl ?_
    refine s_bp 24 l_Mo_chain_50 rfl ?_
    refine s_iln l_Mo_chain_52 rfl ?_
    refine s_imul l_Mo_chain_53 ?_
    refine s_iln l_Mo_chain_54 rfl ?_
    refine s_iadd l_Mo_chain_55 ?_
    refine s_cvi (As := [.int x1, .int x2, .int ((24 * x2) + x3)]) (r := []) l_Mo_chain_56 rfl ⟨rfl, rfl⟩ rfl (Nat.le_of_ble_eq_true rfl) rfl ⟨Nat.zero_le _, Nat.zero_le _⟩ h (fun v7 f6 h => ?_)
    refine s_is l_Mo_chain_59 (Nat.le_of_ble_eq_true rfl) ?_
    refine s_il l_Mo_chain_61 rfl ?_
    refine s_if l_Mo_chain_63 h (fun h => ?_) (fun h => ?_)
    · refine s_inc 1 l_Mo_chain_72 rfl rfl ?_
      refine s_goto l_Mo_chain_75 ?_
      exact h
    · refine s_bp (-10) l_Mo_chain_66 rfl ?_
      refine s_il l_Mo_chain_68 rfl ?_
      refine s_isub l_Mo_chain_70 ?_
      exact s_iret l_Mo_chain_71 rfl ⟨Nat.zero_le _, Nat.zero_le _⟩ h
def B_Mo_chain_88 (d : Nat) (E : Option Value → xH → Prop) (f : xH) (a0 : Nat) (x1 : Int32) (x2 : Int32) (x3 : Int32) (u4 : Option Value) (u5 : Option Value) (u6 : Option Value) (u7 : Option Value) : Prop :=
  xbr ((24 : Int32) ≤ x3) (xWp (xT0, xSp xT0 d, none, m_Mo_chain, E) 112 [some (.ref a0), some (.int x1), some (.int x2), some (.int 1), some (.int 0), u5, u6, u7] [] f 0 0) (xgr f a0 11 36 (fun r1 => xas f r1 1 x3 0 (fun f2 => xWp (xT0, xSp xT0 d, none, m_Mo_chain, E) 88 [some (.ref a0), some (.int x1), some (.int x2), some (.int (x3 + 1)), u4, u5, u6, u7] [] f2 0 0)))
theorem b_Mo_chain_88 {d : Nat} {E : Option Value → xH → Prop} {f : xH} {a0 : Nat} {x1 : Int32} {x2 : Int32} {x3 : Int32} {u4 : Option Value} {u5 : Option Value} {u6 : Option Value} {u7 : Option Value} (h : B_Mo_chain_88 d E f a0 x1 x2 x3 u4 u5 u6 u7) : xWp (xT0, xSp xT0 d, none, m_Mo_chain, E) 88 [some (.ref a0), some (.int x1), some (.int x2), some (.int x3), u4, u5, u6, u7] [] f 0 0 := by
  unfold B_Mo_chain_88 at h
  refine s_iln l_Mo_chain_88 rfl ?_
  refine s_bp 24 l_Mo_chain_89 rfl ?_
  refine s_ifc l_Mo_chain_91 h (fun h => ?_) (fun h => ?_)
  · refine s_ic 1 l_Mo_chain_107 rfl ?_
    refine s_isn l_Mo_chain_108 (Nat.le_of_ble_eq_true rfl) ?_
    refine s_ic 0 l_Mo_chain_109 rfl ?_
    refine s_is l_Mo_chain_110 (Nat.le_of_ble_eq_true rfl) ?_
    exact h
  · refine s_aln l_Mo_chain_94 rfl ?_
    refine s_gr l_Mo_chain_95 h (fun r1 h => ?_)
    refine s_iln l_Mo_chain_98 rfl ?_
    refine s_ic 0 l_Mo_chain_99 rfl ?_
    refine s_zast l_Mo_chain_100 ⟨Or.inl rfl, h⟩ (fun f2 h => ?_)
    refine s_inc 1 l_Mo_chain_101 rfl rfl ?_
    refine s_goto l_Mo_chain_104 ?_
    exact h
def B_Mo_chain_112 (d : Nat) (E : Option Value → xH → Prop) (f : xH) (a0 : Nat) (x1 : Int32) (x2 : Int32) (x3 : Int32) (x4 : Int32) (u5 : Option Value) (u6 : Option Value) (u7 : Option Value) : Prop :=
  xgr f a0 11 22 (fun r1 => xal f r1 0 x2 (fun v2 => xbr (v2 ≤ x4) (xWp (xT0, xSp xT0 d, none, m_Mo_chain, E) 310 [some (.ref a0), some (.int x1), some (.int x2), some (.int x3), some (.int 0), u5, u6, u7] [] f 0 0) ((∃ fs, f a0 = some (xO 11 fs)) ∧ xSp xT0 d j_Mo_hasSource [.ref a0, .int ((24 * x2) + x4)] f (fun w3 f4 => xvi w3 (fun v5 => xbr (v5 = 0) (xWp (xT0, xSp xT0 d, none, m_Mo_chain, E) 167 [some (.ref a0), some (.int x1), some (.int x2), some (.int x3), some (.int x4), some (.int ((24 * x2) + x4)), u6, u7] [.int (-2)] f4 0 0) (xgr f4 a0 11 14 (fun r6 => xgr f4 a0 11 15 (fun r7 => xal f4 r7 0 ((24 * x2) + x4) (fun v8 => (∃ fs, f4 a0 = some (xO 11 fs)) ∧ xSp xT0 d j_Mo_targetAt [.ref a0, .int x1, .ref r6, .int (18 * ((24 * x2) + x4)), .int v8] f4 (fun w9 f10 => xvi w9 (fun v11 => xWp (xT0, xSp xT0 d, none, m_Mo_chain, E) 167 [some (.ref a0), some (.int x1), some (.int x2), some (.int x3), some (.int x4), some (.int ((24 * x2) + x4)), u6, u7] [.int v11] f10 0 0)))))))))))
theorem b_Mo_chain_112 {d : Nat} {E : Option Value → xH → Prop} {f : xH} {a0 : Nat} {x1 : Int32} {x2 : Int32} {x3 : Int32} {x4 : Int32} {u5 : Option Value} {u6 : Option Value} {u7 : Option Value} (h : B_Mo_chain_112 d E f a0 x1 x2 x3 x4 u5 u6 u7) : xWp (xT0, xSp xT0 d, none, m_Mo_chain, E) 112 [some (.ref a0), some (.int x1), some (.int x2), some (.int x3), some (.int x4), u5, u6, u7] [] f 0 0 := by
  unfold B_Mo_chain_112 at h
  refine s_il l_Mo_chain_112 rfl ?_
  refine s_aln l_Mo_chain_114 rfl ?_
  refine s_gr l_Mo_chain_115 h (fun r1 h => ?_)
  refine s_iln l_Mo_chain_118 rfl ?_
  refine s_ial l_Mo_chain_119 rfl h (fun v2 h => ?_)
  refine s_ifc l_Mo_chain_120 h (fun h => ?_) (fun h => ?_)
  · refine s_ic 0 l_Mo_chain_307 rfl ?_
    refine s_is l_Mo_chain_308 (Nat.le_of_ble_eq_true rfl) ?_
    exact h
  · refine s_bp 24 l_Mo_chain_123 rfl ?_
    refine s_iln l_Mo_chain_125 rfl ?_
    refine s_imul l_Mo_chain_126 ?_
    refine s_il l_Mo_chain_127 rfl ?_
    refine s_iadd l_Mo_chain_129 ?_
    refine s_is l_Mo_chain_130 (Nat.le_of_ble_eq_true rfl) ?_
    refine s_aln l_Mo_chain_132 rfl ?_
    refine s_il l_Mo_chain_133 rfl ?_
    refine s_cvi (As := [.int ((24 * x2) + x4)]) (r := []) l_Mo_chain_135 rfl ⟨rfl, rfl⟩ rfl (Nat.le_of_ble_eq_true rfl) rfl ⟨Nat.zero_le _, Nat.zero_le _⟩ h (fun v5 f4 h => ?_)
    refine s_if l_Mo_chain_138 h (fun h => ?_) (fun h => ?_)
    · refine s_bp (-2) l_Mo_chain_165 rfl ?_
      exact h
    · refine s_aln l_Mo_chain_141 rfl ?_
      refine s_iln l_Mo_chain_142 rfl ?_
      refine s_aln l_Mo_chain_143 rfl ?_
      refine s_gr l_Mo_chain_144 h (fun r6 h => ?_)
      refine s_bp 18 l_Mo_chain_147 rfl ?_
      refine s_il l_Mo_chain_149 rfl ?_
      refine s_imul l_Mo_chain_151 ?_
      refine s_aln l_Mo_chain_152 rfl ?_
      refine s_gr l_Mo_chain_153 h (fun r7 h => ?_)
      refine s_il l_Mo_chain_156 rfl ?_
      refine s_ial l_Mo_chain_158 rfl h (fun v8 h => ?_)
      refine s_cvi (As := [.int x1, .ref r6, .int (18 * ((24 * x2) + x4)), .int v8]) (r := []) l_Mo_chain_159 rfl ⟨rfl, rfl⟩ rfl (Nat.le_of_ble_eq_true rfl) rfl ⟨Nat.zero_le _, Nat.zero_le _⟩ h (fun v11 f10 h => ?_)
      refine s_goto l_Mo_chain_162 ?_
      exact h
def B_Mo_chain_167 (d : Nat) (E : Option Value → xH → Prop) (f : xH) (a0 : Nat) (x1 : Int32) (x2 : Int32) (x3 : Int32) (x4 : Int32) (x5 : Int32) (u6 : Option Value) (u7 : Option Value) (s0 : Int32) : Prop :=
  xbr (s0 = (-2)) (xgr f a0 11 11 (fun r1 => xal f r1 0 x5 (fun v2 => xbr (¬ v2 = 0) (xWp (xT0, xSp xT0 d, none, m_Mo_chain, E) 242 [some (.ref a0), some (.int x1), some (.int x2), some (.int x3), some (.int x4), some (.int x5), some (.int s0), u7] [.int (-2)] f 0 0) ((∃ fs, f a0 = some (xO 11 fs)) ∧ xSp xT0 d j_Mo_droppedAt [.ref a0, .int x1, .int x5] f (fun w3 f4 => xvi w3 (fun v5 => xWp (xT0, xSp xT0 d, none, m_Mo_chain, E) 242 [some (.ref a0), some (.int x1), some (.int x2), some (.int x3), some (.int x4), some (.int x5), some (.int s0), u7] [.int v5] f4 0 0)))))) (xgr f a0 11 36 (fun r6 => xas f r6 1 (s0 - (24 * x1)) 1 (fun f7 => xbr (x3 = 0) (xWp (xT0, xSp xT0 d, none, m_Mo_chain, E) 112 [some (.ref a0), some (.int x1), some (.int x2), some (.int 0), some (.int (x4 + 1)), some (.int x5), some (.int s0), u7] [] f7 0 0) ((∃ fs, f7 a0 = some (xO 11 fs)) ∧ xSp xT0 d j_Mo_joinSteps [.ref a0, .int s0, .int x5] f7 (fun w8 f9 => xvi w8 (fun v10 => xbr (v10 = 0) (xWp (xT0, xSp xT0 d, none, m_Mo_chain, E) 211 [some (.ref a0), some (.int x1), some (.int x2), some (.int x3), some (.int x4), some (.int x5), some (.int s0), u7] [] f9 0 0) ((∃ fs, f9 a0 = some (xO 11 fs)) ∧ xSp xT0 d j_Mo_toChain [.ref a0] f9 (fun w11 f12 => xvi w11 (fun v13 => xbr (v13 = 0) (xWp (xT0, xSp xT0 d, none, m_Mo_chain, E) 112 [some (.ref a0), some (.int x1), some (.int x2), some (.int 0), some (.int (x4 + 1)), some (.int x5), some (.int s0), u7] [] f12 0 0) (xWp (xT0, xSp xT0 d, none, m_Mo_chain, E) 211 [some (.ref a0), some (.int x1), some (.int x2), some (.int x3), some (.int x4), some (.int x5), some (.int s0), u7] [] f12 0 0))))))))))
theorem b_Mo_chain_167 {d : Nat} {E : Option Value → xH → Prop} {f : xH} {a0 : Nat} {x1 : Int32} {x2 : Int32} {x3 : Int32} {x4 : Int32} {x5 : Int32} {u6 : Option Value} {u7 : Option Value} {s0 : Int32} (h : B_Mo_chain_167 d E f a0 x1 x2 x3 x4 x5 u6 u7 s0) : xWp (xT0, xSp xT0 d, none, m_Mo_chain, E) 167 [some (.ref a0), some (.int x1), some (.int x2), some (.int x3), some (.int x4), some (.int x5), u6, u7] [.int s0] f 0 0 := by
  unfold B_Mo_chain_167 at h
  refine s_is l_Mo_chain_167 (Nat.le_of_ble_eq_true rfl) ?_
  refine s_il l_Mo_chain_169 rfl ?_
  refine s_bp (-2) l_Mo_chain_171 rfl ?_
  refine s_ifc l_Mo_chain_173 h (fun h => ?_) (fun h => ?_)
  · refine s_aln l_Mo_chain_220 rfl ?_
    refine s_gr l_Mo_chain_221 h (fun r1 h => ?_)
    refine s_il l_Mo_chain_224 rfl ?_
    refine s_ial l_Mo_chain_226 rfl h (fun v2 h => ?_)
    refine s_if l_Mo_chain_227 h (fun h => ?_) (fun h => ?_)
    · refine s_bp (-2) l_Mo_chain_240 rfl ?_
      exact h
    · refine s_aln l_Mo_chain_230 rfl ?_
      refine s_iln l_Mo_chain_231 rfl ?_
      refine s_il l_Mo_chain_232 rfl ?_
      refine s_cvi (As := [.int x1, .int x5]) (r := []) l_Mo_chain_234 rfl ⟨rfl, rfl⟩ rfl (Nat.le_of_ble_eq_true rfl) rfl ⟨Nat.zero_le _, Nat.zero_le _⟩ h (fun v5 f4 h => ?_)
      refine s_goto l_Mo_chain_237 ?_
      exact h
  · refine s_aln l_Mo_chain_176 rfl ?_
    refine s_gr l_Mo_chain_177 h (fun r6 h => ?_)
    refine s_il l_Mo_chain_180 rfl ?_
    refine s_bp 24 l_Mo_chain_182 rfl ?_
    refine s_iln l_Mo_chain_184 rfl ?_
    refine s_imul l_Mo_chain_185 ?_
    refine s_isub l_Mo_chain_186 ?_
    refine s_ic 1 l_Mo_chain_187 rfl ?_
    refine s_zast l_Mo_chain_188 ⟨Or.inr rfl, h⟩ (fun f7 h => ?_)
    refine s_iln l_Mo_chain_189 rfl ?_
    refine s_if l_Mo_chain_190 h (fun h => ?_) (fun h => ?_)
    · refine s_ic 0 l_Mo_chain_215 rfl ?_
      refine s_isn l_Mo_chain_216 (Nat.le_of_ble_eq_true rfl) ?_
      refine s_goto l_Mo_chain_217 ?_
      refine s_inc 1 l_Mo_chain_301 rfl rfl ?_
      refine s_goto l_Mo_chain_304 ?_
      exact h
    · refine s_aln l_Mo_chain_193 rfl ?_
      refine s_il l_Mo_chain_194 rfl ?_
      refine s_il l_Mo_chain_196 rfl ?_
      refine s_cvi (As := [.int s0, .int x5]) (r := []) l_Mo_chain_198 rfl ⟨rfl, rfl⟩ rfl (Nat.le_of_ble_eq_true rfl) rfl ⟨Nat.zero_le _, Nat.zero_le _⟩ h (fun v10 f9 h => ?_)
      refine s_if l_Mo_chain_201 h (fun h => ?_) (fun h => ?_)
      · exact h
      · refine s_aln l_Mo_chain_204 rfl ?_
        refine s_cvi (As := []) (r := []) l_Mo_chain_205 rfl ⟨rfl, rfl⟩ rfl (Nat.le_of_ble_eq_true rfl) rfl ⟨Nat.zero_le _, Nat.zero_le _⟩ h (fun v13 f12 h => ?_)
        refine s_if l_Mo_chain_208 h (fun h => ?_) (fun h => ?_)
        · refine s_ic 0 l_Mo_chain_215 rfl ?_
          refine s_isn l_Mo_chain_216 (Nat.le_of_ble_eq_true rfl) ?_
          refine s_goto l_Mo_chain_217 ?_
          refine s_inc 1 l_Mo_chain_301 rfl rfl ?_
          refine s_goto l_Mo_chain_304 ?_
          exact h
        · exact h
def B_Mo_chain_211 (d : Nat) (E : Option Value → xH → Prop) (f : xH) (a0 : Nat) (x1 : Int32) (x2 : Int32) (x3 : Int32) (x4 : Int32) (x5 : Int32) (x6 : Int32) (u7 : Option Value) : Prop :=
  xWp (xT0, xSp xT0 d, none, m_Mo_chain, E) 112 [some (.ref a0), some (.int x1), some (.int x2), some (.int 1), some (.int (x4 + 1)), some (.int x5), some (.int x6), u7] [] f 0 0
theorem b_Mo_chain_211 {d : Nat} {E : Option Value → xH → Prop} {f : xH} {a0 : Nat} {x1 : Int32} {x2 : Int32} {x3 : Int32} {x4 : Int32} {x5 : Int32} {x6 : Int32} {u7 : Option Value} (h : B_Mo_chain_211 d E f a0 x1 x2 x3 x4 x5 x6 u7) : xWp (xT0, xSp xT0 d, none, m_Mo_chain, E) 211 [some (.ref a0), some (.int x1), some (.int x2), some (.int x3), some (.int x4), some (.int x5), some (.int x6), u7] [] f 0 0 := by
  unfold B_Mo_chain_211 at h
  refine s_ic 1 l_Mo_chain_211 rfl ?_
  refine s_goto l_Mo_chain_212 ?_
  refine s_isn l_Mo_chain_216 (Nat.le_of_ble_eq_true rfl) ?_
  refine s_goto l_Mo_chain_217 ?_
  refine s_inc 1 l_Mo_chain_301 rfl rfl ?_
  refine s_goto l_Mo_chain_304 ?_
  exact h
def B_Mo_chain_242 (d : Nat) (E : Option Value → xH → Prop) (f : xH) (a0 : Nat) (x1 : Int32) (x2 : Int32) (x3 : Int32) (x4 : Int32) (x5 : Int32) (x6 : Int32) (u7 : Option Value) (s0 : Int32) : Prop :=
  xbr (s0 = (-2)) ((∃ fs, f a0 = some (xO 11 fs)) ∧ xSp xT0 d j_Mo_moveStep [.ref a0, .int x5, .int 217] f (fun w1 f2 => xvv w1 (xWp (xT0, xSp xT0 d, none, m_Mo_chain, E) 284 [some (.ref a0), some (.int x1), some (.int x2), some (.int x3), some (.int x4), some (.int x5), some (.int x6), some (.int s0)] [] f2 0 0))) (xgr f a0 11 36 (fun r3 => xas f r3 1 (s0 - (24 * x1)) 1 (fun f4 => (∃ fs, f4 a0 = some (xO 11 fs)) ∧ xSp xT0 d j_Mo_changeBy [.ref a0, .int s0, .int x5] f4 (fun w5 f6 => xvv w5 (xWp (xT0, xSp xT0 d, none, m_Mo_chain, E) 284 [some (.ref a0), some (.int x1), some (.int x2), some (.int x3), some (.int x4), some (.int x5), some (.int x6), some (.int s0)] [] f6 0 0)))))
theorem b_Mo_chain_242 {d : Nat} {E : Option Value → xH → Prop} {f : xH} {a0 : Nat} {x1 : Int32} {x2 : Int32} {x3 : Int32} {x4 : Int32} {x5 : Int32} {x6 : Int32} {u7 : Option Value} {s0 : Int32} (h : B_Mo_chain_242 d E f a0 x1 x2 x3 x4 x5 x6 u7 s0) : xWp (xT0, xSp xT0 d, none, m_Mo_chain, E) 242 [some (.ref a0), some (.int x1), some (.int x2), some (.int x3), some (.int x4), some (.int x5), some (.int x6), u7] [.int s0] f 0 0 := by
  unfold B_Mo_chain_242 at h
  refine s_is l_Mo_chain_242 (Nat.le_of_ble_eq_true rfl) ?_
  refine s_il l_Mo_chain_244 rfl ?_
  refine s_bp (-2) l_Mo_chain_246 rfl ?_
  refine s_ifc l_Mo_chain_248 h (fun h => ?_) (fun h => ?_)
  · refine s_aln l_Mo_chain_275 rfl ?_
    refine s_il l_Mo_chain_276 rfl ?_
    refine s_sp 217 l_Mo_chain_278 rfl ?_
    refine s_cvv (As := [.int x5, .int 217]) (r := []) l_Mo_chain_281 rfl ⟨rfl, rfl⟩ rfl (Nat.le_of_ble_eq_true rfl) rfl ⟨Nat.zero_le _, Nat.zero_le _⟩ h (fun f2 h => ?_)
    exact h
  · refine s_aln l_Mo_chain_251 rfl ?_
    refine s_gr l_Mo_chain_252 h (fun r3 h => ?_)
    refine s_il l_Mo_chain_255 rfl ?_
    refine s_bp 24 l_Mo_chain_257 rfl ?_
    refine s_iln l_Mo_chain_259 rfl ?_
    refine s_imul l_Mo_chain_260 ?_
    refine s_isub l_Mo_chain_261 ?_
    refine s_ic 1 l_Mo_chain_262 rfl ?_
    refine s_zast l_Mo_chain_263 ⟨Or.inr rfl, h⟩ (fun f4 h => ?_)
    refine s_aln l_Mo_chain_264 rfl ?_
    refine s_il l_Mo_chain_265 rfl ?_
    refine s_il l_Mo_chain_267 rfl ?_
    refine s_cvv (As := [.int s0, .int x5]) (r := []) l_Mo_chain_269 rfl ⟨rfl, rfl⟩ rfl (Nat.le_of_ble_eq_true rfl) rfl ⟨Nat.zero_le _, Nat.zero_le _⟩ h (fun f6 h => ?_)
    refine s_goto l_Mo_chain_272 ?_
    exact h
def B_Mo_chain_284 (d : Nat) (E : Option Value → xH → Prop) (f : xH) (a0 : Nat) (x1 : Int32) (x2 : Int32) (x3 : Int32) (x4 : Int32) (x5 : Int32) (x6 : Int32) (x7 : Int32) : Prop :=
  xbr (x3 = 0) (xWp (xT0, xSp xT0 d, none, m_Mo_chain, E) 112 [some (.ref a0), some (.int x1), some (.int x2), some (.int 0), some (.int (x4 + 1)), some (.int x5), some (.int x6), some (.int x7)] [] f 0 0) ((∃ fs, f a0 = some (xO 11 fs)) ∧ xSp xT0 d j_Mo_toChain [.ref a0] f (fun w1 f2 => xvi w1 (fun v3 => xbr (v3 = 0) (xWp (xT0, xSp xT0 d, none, m_Mo_chain, E) 112 [some (.ref a0), some (.int x1), some (.int x2), some (.int 0), some (.int (x4 + 1)), some (.int x5), some (.int x6), some (.int x7)] [] f2 0 0) (xWp (xT0, xSp xT0 d, none, m_Mo_chain, E) 112 [some (.ref a0), some (.int x1), some (.int x2), some (.int 1), some (.int (x4 + 1)), some (.int x5), some (.int x6), some (.int x7)] [] f2 0 0))))
theorem b_Mo_chain_284 {d : Nat} {E : Option Value → xH → Prop} {f : xH} {a0 : Nat} {x1 : Int32} {x2 : Int32} {x3 : Int32} {x4 : Int32} {x5 : Int32} {x6 : Int32} {x7 : Int32} (h : B_Mo_chain_284 d E f a0 x1 x2 x3 x4 x5 x6 x7) : xWp (xT0, xSp xT0 d, none, m_Mo_chain, E) 284 [some (.ref a0), some (.int x1), some (.int x2), some (.int x3), some (.int x4), some (.int x5), some (.int x6), some (.int x7)] [] f 0 0 := by
  unfold B_Mo_chain_284 at h
  refine s_iln l_Mo_chain_284 rfl ?_
  refine s_if l_Mo_chain_285 h (fun h => ?_) (fun h => ?_)
  · refine s_ic 0 l_Mo_chain_299 rfl ?_
    refine s_isn l_Mo_chain_300 (Nat.le_of_ble_eq_true rfl) ?_
    refine s_inc 1 l_Mo_chain_301 rfl rfl ?_
    refine s_goto l_Mo_chain_304 ?_
    exact h
  · refine s_aln l_Mo_chain_288 rfl ?_
    refine s_cvi (As := []) (r := []) l_Mo_chain_289 rfl ⟨rfl, rfl⟩ rfl (Nat.le_of_ble_eq_true rfl) rfl ⟨Nat.zero_le _, Nat.zero_le _⟩ h (fun v3 f2 h => ?_)
    refine s_if l_Mo_chain_292 h (fun h => ?_) (fun h => ?_)
    · refine s_ic 0 l_Mo_chain_299 rfl ?_
      refine s_isn l_Mo_chain_300 (Nat.le_of_ble_eq_true rfl) ?_
      refine s_inc 1 l_Mo_chain_301 rfl rfl ?_
      refine s_goto l_Mo_chain_304 ?_
      exact h
    · refine s_ic 1 l_Mo_chain_295 rfl ?_
      refine s_goto l_Mo_chain_296 ?_
      refine s_isn l_Mo_chain_300 (Nat.le_of_ble_eq_true rfl) ?_
      refine s_inc 1 l_Mo_chain_301 rfl rfl ?_
      refine s_goto l_Mo_chain_304 ?_
      exact h
def B_Mo_chain_310 (d : Nat) (E : Option Value → xH → Prop) (f : xH) (a0 : Nat) (x1 : Int32) (x2 : Int32) (x3 : Int32) (x4 : Int32) (u5 : Option Value) (u6 : Option Value) (u7 : Option Value) : Prop :=
  xgr f a0 11 22 (fun r1 => xal f r1 0 x1 (fun v2 => xbr (v2 ≤ x4) (xbr (¬ x3 = 0) (xgr f a0 11 22 (fun r3 => xgi f a0 11 23 (fun v4 => xgr f a0 11 22 (fun r5 => xal f r5 0 8 (fun v6 => xas f r3 0 v4 v6 (fun f7 => xWp (xT0, xSp xT0 d, none, m_Mo_chain, E) 394 [some (.ref a0), some (.int x1), some (.int x2), some (.int x3), some (.int 0), u5, u6, u7] [] f7 0 0)))))) (E (some (.int (-3))) f)) (xgr f a0 11 36 (fun r8 => xal f r8 1 x4 (fun v9 => xbr (¬ v9 = 0) (xWp (xT0, xSp xT0 d, none, m_Mo_chain, E) 310 [some (.ref a0), some (.int x1), some (.int x2), some (.int x3), some (.int (x4 + 1)), u5, u6, u7] [] f 0 0) ((∃ fs, f a0 = some (xO 11 fs)) ∧ xSp xT0 d j_Mo_moveStep [.ref a0, .int ((24 * x1) + x4), .int 217] f (fun w10 f11 => xvv w10 (xbr (x3 = 0) (xWp (xT0, xSp xT0 d, none, m_Mo_chain, E) 310 [some (.ref a0), some (.int x1), some (.int x2), some (.int 0), some (.int (x4 + 1)), u5, u6, u7] [] f11 0 0) ((∃ fs, f11 a0 = some (xO 11 fs)) ∧ xSp xT0 d j_Mo_toChain [.ref a0] f11 (fun w12 f13 => xvi w12 (fun v14 => xbr (v14 = 0) (xWp (xT0, xSp xT0 d, none, m_Mo_chain, E) 310 [some (.ref a0), some (.int x1), some (.int x2), some (.int 0), some (.int (x4 + 1)), u5, u6, u7] [] f13 0 0) (xWp (xT0, xSp xT0 d, none, m_Mo_chain, E) 310 [some (.ref a0), some (.int x1), some (.int x2), some (.int 1), some (.int (x4 + 1)), u5, u6, u7] [] f13 0 0))))))))))))
theorem b_Mo_chain_310 {d : Nat} {E : Option Value → xH → Prop} {f : xH} {a0 : Nat} {x1 : Int32} {x2 : Int32} {x3 : Int32} {x4 : Int32} {u5 : Option Value} {u6 : Option Value} {u7 : Option Value} (h : B_Mo_chain_310 d E f a0 x1 x2 x3 x4 u5 u6 u7) : xWp (xT0, xSp xT0 d, none, m_Mo_chain, E) 310 [some (.ref a0), some (.int x1), some (.int x2), some (.int x3), some (.int x4), u5, u6, u7] [] f 0 0 := by
  unfold B_Mo_chain_310 at h
  refine s_il l_Mo_chain_310 rfl ?_
  refine s_aln l_Mo_chain_312 rfl ?_
  refine s_gr l_Mo_chain_313 h (fun r1 h => ?_)
  refine s_iln l_Mo_chain_316 rfl ?_
  refine s_ial l_Mo_chain_317 rfl h (fun v2 h => ?_)
  refine s_ifc l_Mo_chain_318 h (fun h => ?_) (fun h => ?_)
  · refine s_iln l_Mo_chain_368 rfl ?_
    refine s_if l_Mo_chain_369 h (fun h => ?_) (fun h => ?_)
    · refine s_aln l_Mo_chain_375 rfl ?_
      refine s_gr l_Mo_chain_376 h (fun r3 h => ?_)
      refine s_aln l_Mo_chain_379 rfl ?_
      refine s_gi l_Mo_chain_380 h (fun v4 h => ?_)
      refine s_aln l_Mo_chain_383 rfl ?_
      refine s_gr l_Mo_chain_384 h (fun r5 h => ?_)
      refine s_bp 8 l_Mo_chain_387 rfl ?_
      refine s_ial l_Mo_chain_389 rfl h (fun v6 h => ?_)
      refine s_iast l_Mo_chain_390 h (fun f7 h => ?_)
      refine s_ic 0 l_Mo_chain_391 rfl ?_
      refine s_is l_Mo_chain_392 (Nat.le_of_ble_eq_true rfl) ?_
      exact h
    · refine s_bp (-3) l_Mo_chain_372 rfl ?_
      exact s_iret l_Mo_chain_374 rfl ⟨Nat.zero_le _, Nat.zero_le _⟩ h
  · refine s_aln l_Mo_chain_321 rfl ?_
    refine s_gr l_Mo_chain_322 h (fun r8 h => ?_)
    refine s_il l_Mo_chain_325 rfl ?_
    refine s_bal l_Mo_chain_327 (Or.inl rfl) h (fun v9 h => ?_)
    refine s_if l_Mo_chain_328 h (fun h => ?_) (fun h => ?_)
    · refine s_inc 1 l_Mo_chain_362 rfl rfl ?_
      refine s_goto l_Mo_chain_365 ?_
      exact h
    · refine s_aln l_Mo_chain_331 rfl ?_
      refine s_bp 24 l_Mo_chain_332 rfl ?_
      refine s_iln l_Mo_chain_334 rfl ?_
      refine s_imul l_Mo_chain_335 ?_
      refine s_il l_Mo_chain_336 rfl ?_
      refine s_iadd l_Mo_chain_338 ?_
      refine s_sp 217 l_Mo_chain_339 rfl ?_
      refine s_cvv (As := [.int ((24 * x1) + x4), .int 217]) (r := []) l_Mo_chain_342 rfl ⟨rfl, rfl⟩ rfl (Nat.le_of_ble_eq_true rfl) rfl ⟨Nat.zero_le _, Nat.zero_le _⟩ h (fun f11 h => ?_)
      refine s_iln l_Mo_chain_345 rfl ?_
      refine s_if l_Mo_chain_346 h (fun h => ?_) (fun h => ?_)
      · refine s_ic 0 l_Mo_chain_360 rfl ?_
        refine s_isn l_Mo_chain_361 (Nat.le_of_ble_eq_true rfl) ?_
        refine s_inc 1 l_Mo_chain_362 rfl rfl ?_
        refine s_goto l_Mo_chain_365 ?_
        exact h
      · refine s_aln l_Mo_chain_349 rfl ?_
        refine s_cvi (As := []) (r := []) l_Mo_chain_350 rfl ⟨rfl, rfl⟩ rfl (Nat.le_of_ble_eq_true rfl) rfl ⟨Nat.zero_le _, Nat.zero_le _⟩ h (fun v14 f13 h => ?_)
        refine s_if l_Mo_chain_353 h (fun h => ?_) (fun h => ?_)
        · refine s_ic 0 l_Mo_chain_360 rfl ?_
          refine s_isn l_Mo_chain_361 (Nat.le_of_ble_eq_true rfl) ?_
          refine s_inc 1 l_Mo_chain_362 rfl rfl ?_
          refine s_goto l_Mo_chain_365 ?_
          exact h
        · refine s_ic 1 l_Mo_chain_356 rfl ?_
          refine s_goto l_Mo_chain_357 ?_
          refine s_isn l_Mo_chain_361 (Nat.le_of_ble_eq_true rfl) ?_
          refine s_inc 1 l_Mo_chain_362 rfl rfl ?_
          refine s_goto l_Mo_chain_365 ?_
          exact h
def B_Mo_chain_394 (d : Nat) (E : Option Value → xH → Prop) (f : xH) (a0 : Nat) (x1 : Int32) (x2 : Int32) (x3 : Int32) (x4 : Int32) (u5 : Option Value) (u6 : Option Value) (u7 : Option Value) : Prop :=
  xgr f a0 11 22 (fun r1 => xal f r1 0 8 (fun v2 => xbr (v2 ≤ x4) (xgi f a0 11 23 (fun v3 => xpf f a0 11 23 (.int (v3 + 1)) (fun f4 => xgi f4 a0 11 23 (fun v5 => E (some (.int (v5 - 1))) f4)))) (xgi f a0 11 23 (fun v6 => (∃ fs, f a0 = some (xO 11 fs)) ∧ xSp xT0 d j_Mo_moveStep [.ref a0, .int (192 + x4), .int ((24 * v6) + x4)] f (fun w7 f8 => xvv w7 (xWp (xT0, xSp xT0 d, none, m_Mo_chain, E) 394 [some (.ref a0), some (.int x1), some (.int x2), some (.int x3), some (.int (x4 + 1)), u5, u6, u7] [] f8 0 0))))))
theorem b_Mo_chain_394 {d : Nat} {E : Option Value → xH → Prop} {f : xH} {a0 : Nat} {x1 : Int32} {x2 : Int32} {x3 : Int32} {x4 : Int32} {u5 : Option Value} {u6 : Option Value} {u7 : Option Value} (h : B_Mo_chain_394 d E f a0 x1 x2 x3 x4 u5 u6 u7) : xWp (xT0, xSp xT0 d, none, m_Mo_chain, E) 394 [some (.ref a0), some (.int x1), some (.int x2), some (.int x3), some (.int x4), u5, u6, u7] [] f 0 0 := by
  unfold B_Mo_chain_394 at h
  refine s_il l_Mo_chain_394 rfl ?_
  refine s_aln l_Mo_chain_396 rfl ?_
  refine s_gr l_Mo_chain_397 h (fun r1 h => ?_)
  refine s_bp 8 l_Mo_chain_400 rfl ?_
  refine s_ial l_Mo_chain_402 rfl h (fun v2 h => ?_)
  refine s_ifc l_Mo_chain_403 h (fun h => ?_) (fun h => ?_)
  · refine s_aln l_Mo_chain_432 rfl ?_
    refine s_dup l_Mo_chain_433 rfl ?_
    refine s_gi l_Mo_chain_434 h (fun v3 h => ?_)
    refine s_ic 1 l_Mo_chain_437 rfl ?_
    refine s_iadd l_Mo_chain_438 ?_
    refine s_pf l_Mo_chain_439 ⟨_, rfl⟩ h (fun f4 h => ?_)
    refine s_aln l_Mo_chain_442 rfl ?_
    refine s_gi l_Mo_chain_443 h (fun v5 h => ?_)
    refine s_ic 1 l_Mo_chain_446 rfl ?_
    refine s_isub l_Mo_chain_447 ?_
    exact s_iret l_Mo_chain_448 rfl ⟨Nat.zero_le _, Nat.zero_le _⟩ h
  · refine s_aln l_Mo_chain_406 rfl ?_
    refine s_sp 192 l_Mo_chain_407 rfl ?_
    refine s_il l_Mo_chain_410 rfl ?_
    refine s_iadd l_Mo_chain_412 ?_
    refine s_bp 24 l_Mo_chain_413 rfl ?_
    refine s_aln l_Mo_chain_415 rfl ?_
    refine s_gi l_Mo_chain_416 h (fun v6 h => ?_)
    refine s_imul l_Mo_chain_419 ?_
    refine s_il l_Mo_chain_420 rfl ?_
    refine s_iadd l_Mo_chain_422 ?_
    refine s_cvv (As := [.int (192 + x4), .int ((24 * v6) + x4)]) (r := []) l_Mo_chain_423 rfl ⟨rfl, rfl⟩ rfl (Nat.le_of_ble_eq_true rfl) rfl ⟨Nat.zero_le _, Nat.zero_le _⟩ h (fun f8 h => ?_)
    refine s_inc 1 l_Mo_chain_426 rfl rfl ?_
    refine s_goto l_Mo_chain_429 ?_
    exact h
theorem l_Mo_chainRule_0 : xlk (xm_cd m_Mo_chainRule) 0 = some (.aload_n 0, 1, (0, 0, 0, [])) := rfl
theorem l_Mo_chainRule_1 : xlk (xm_cd m_Mo_chainRule) 1 = some (.iload_n 3, 1, (0, 0, 0, [])) := rfl
theorem l_Mo_chainRule_2 : xlk (xm_cd m_Mo_chainRule) 2 = some (.invokevirtual 298, 3, (1137, 201, 1, [])) := rfl
theorem l_Mo_chainRule_5 : xlk (xm_cd m_Mo_chainRule) 5 = some (.ifCond .eq 98, 3, (0, 103, 0, [])) := rfl
theorem l_Mo_chainRule_8 : xlk (xm_cd m_Mo_chainRule) 8 = some (.aload_n 0, 1, (0, 0, 0, [])) := rfl
theorem l_Mo_chainRule_9 : xlk (xm_cd m_Mo_chainRule) 9 = some (.iload_n 1, 1, (0, 0, 0, [])) := rfl
theorem l_Mo_chainRule_10 : xlk (xm_cd m_Mo_chainRule) 10 = some (.aload_n 0, 1, (0, 0, 0, [])) := rfl
theorem l_Mo_chainRule_11 : xlk (xm_cd m_Mo_chainRule) 11 = some (.getfield 45, 3, (863, 11, 14, [])) := rfl
theorem l_Mo_chainRule_14 : xlk (xm_cd m_Mo_chainRule) 14 = some (.bipush 18, 2, (0, 0, 0, [])) := rfl
theorem l_Mo_chainRule_16 : xlk (xm_cd m_Mo_chainRule) 16 = some (.iload_n 3, 1, (0, 0, 0, [])) := rfl
theorem l_Mo_chainRule_17 : xlk (xm_cd m_Mo_chainRule) 17 = some (.imul, 1, (0, 0, 0, [])) := rfl
theorem l_Mo_chainRule_18 : xlk (xm_cd m_Mo_chainRule) 18 = some (.aload_n 0, 1, (0, 0, 0, [])) := rfl
theorem l_Mo_chainRule_19 : xlk (xm_cd m_Mo_chainRule) 19 = some (.getfield 48, 3, (864, 11, 15, [])) := rfl
theorem l_Mo_chainRule_22 : xlk (xm_cd m_Mo_chainRule) 22 = some (.iload_n 3, 1, (0, 0, 0, [])) := rfl
theorem l_Mo_chainRule_23 : xlk (xm_cd m_Mo_chainRule) 23 = some (.iaload, 1, (0, 0, 0, [])) := rfl
theorem l_Mo_chainRule_24 : xlk (xm_cd m_Mo_chainRule) 24 = some (.invokevirtual 301, 3, (1140, 202, 4, [])) := rfl
theorem l_Mo_chainRule_27 : xlk (xm_cd m_Mo_chainRule) 27 = some (.istore 4, 2, (0, 0, 0, [])) := rfl
theorem l_Mo_chainRule_29 : xlk (xm_cd m_Mo_chainRule) 29 = some (.iload 4, 2, (0, 0, 0, [])) := rfl
theorem l_Mo_chainRule_31 : xlk (xm_cd m_Mo_chainRule) 31 = some (.bipush (-2), 2, (0, 0, 0, [])) := rfl
theorem l_Mo_chainRule_33 : xlk (xm_cd m_Mo_chainRule) 33 = some (.if_icmp .ne 29, 3, (0, 62, 0, [])) := rfl
theorem l_Mo_chainRule_36 : xlk (xm_cd m_Mo_chainRule) 36 = some (.aload_n 0, 1, (0, 0, 0, [])) := rfl
theorem l_Mo_chainRule_37 : xlk (xm_cd m_Mo_chainRule) 37 = some (.iload_n 1, 1, (0, 0, 0, [])) := rfl
theorem l_Mo_chainRule_38 : xlk (xm_cd m_Mo_chainRule) 38 = some (.aload_n 0, 1, (0, 0, 0, [])) := rfl
theorem l_Mo_chainRule_39 : xlk (xm_cd m_Mo_chainRule) 39 = some (.getfield 45, 3, (863, 11, 14, [])) := rfl
theorem l_Mo_chainRule_42 : xlk (xm_cd m_Mo_chainRule) 42 = some (.bipush 18, 2, (0, 0, 0, [])) := rfl
theorem l_Mo_chainRule_44 : xlk (xm_cd m_Mo_chainRule) 44 = some (.iload_n 3, 1, (0, 0, 0, [])) := rfl
theorem l_Mo_chainRule_45 : xlk (xm_cd m_Mo_chainRule) 45 = some (.imul, 1, (0, 0, 0, [])) := rfl
theorem l_Mo_chainRule_46 : xlk (xm_cd m_Mo_chainRule) 46 = some (.aload_n 0, 1, (0, 0, 0, [])) := rfl
theorem l_Mo_chainRule_47 : xlk (xm_cd m_Mo_chainRule) 47 = some (.getfield 48, 3, (864, 11, 15, [])) := rfl
theorem l_Mo_chainRule_50 : xlk (xm_cd m_Mo_chainRule) 50 = some (.iload_n 3, 1, (0, 0, 0, [])) := rfl
theorem l_Mo_chainRule_51 : xlk (xm_cd m_Mo_chainRule) 51 = some (.iaload, 1, (0, 0, 0, [])) := rfl
theorem l_Mo_chainRule_52 : xlk (xm_cd m_Mo_chainRule) 52 = some (.invokevirtual 304, 3, (1146, 204, 4, [])) := rfl
theorem l_Mo_chainRule_55 : xlk (xm_cd m_Mo_chainRule) 55 = some (.bipush (-2), 2, (0, 0, 0, [])) := rfl
theorem l_Mo_chainRule_57 : xlk (xm_cd m_Mo_chainRule) 57 = some (.if_icmp .eq 5, 3, (0, 62, 0, [])) := rfl
theorem l_Mo_chainRule_60 : xlk (xm_cd m_Mo_chainRule) 60 = some (.iconst 1, 1, (0, 0, 0, [])) := rfl
theorem l_Mo_chainRule_61 : xlk (xm_cd m_Mo_chainRule) 61 = some (.ireturn, 1, (0, 0, 0, [])) := rfl
theorem l_Mo_chainRule_62 : xlk (xm_cd m_Mo_chainRule) 62 = some (.iload 4, 2, (0, 0, 0, [])) := rfl
theorem l_Mo_chainRule_64 : xlk (xm_cd m_Mo_chainRule) 64 = some (.bipush (-2), 2, (0, 0, 0, [])) := rfl
theorem l_Mo_chainRule_66 : xlk (xm_cd m_Mo_chainRule) 66 = some (.if_icmp .eq 37, 3, (0, 103, 0, [])) := rfl
theorem l_Mo_chainRule_69 : xlk (xm_cd m_Mo_chainRule) 69 = some (.aload_n 0, 1, (0, 0, 0, [])) := rfl
theorem l_Mo_chainRule_70 : xlk (xm_cd m_Mo_chainRule) 70 = some (.getfield 57, 3, (867, 11, 18, [])) := rfl
theorem l_Mo_chainRule_73 : xlk (xm_cd m_Mo_chainRule) 73 = some (.iload 4, 2, (0, 0, 0, [])) := rfl
theorem l_Mo_chainRule_75 : xlk (xm_cd m_Mo_chainRule) 75 = some (.iaload, 1, (0, 0, 0, [])) := rfl
theorem l_Mo_chainRule_76 : xlk (xm_cd m_Mo_chainRule) 76 = some (.aload_n 0, 1, (0, 0, 0, [])) := rfl
theorem l_Mo_chainRule_77 : xlk (xm_cd m_Mo_chainRule) 77 = some (.getfield 51, 3, (865, 11, 16, [])) := rfl
theorem l_Mo_chainRule_80 : xlk (xm_cd m_Mo_chainRule) 80 = some (.iload_n 3, 1, (0, 0, 0, [])) := rfl
theorem l_Mo_chainRule_81 : xlk (xm_cd m_Mo_chainRule) 81 = some (.iaload, 1, (0, 0, 0, [])) := rfl
theorem l_Mo_chainRule_82 : xlk (xm_cd m_Mo_chainRule) 82 = some (.if_icmp .ne 19, 3, (0, 101, 0, [])) := rfl
theorem l_Mo_chainRule_85 : xlk (xm_cd m_Mo_chainRule) 85 = some (.aload_n 0, 1, (0, 0, 0, [])) := rfl
theorem l_Mo_chainRule_86 : xlk (xm_cd m_Mo_chainRule) 86 = some (.getfield 60, 3, (868, 11, 19, [])) := rfl
theorem l_Mo_chainRule_89 : xlk (xm_cd m_Mo_chainRule) 89 = some (.iload 4, 2, (0, 0, 0, [])) := rfl
theorem l_Mo_chainRule_91 : xlk (xm_cd m_Mo_chainRule) 91 = some (.iaload, 1, (0, 0, 0, [])) := rfl
theorem l_Mo_chainRule_92 : xlk (xm_cd m_Mo_chainRule) 92 = some (.aload_n 0, 1, (0, 0, 0, [])) := rfl
theorem l_Mo_chainRule_93 : xlk (xm_cd m_Mo_chainRule) 93 = some (.getfield 54, 3, (866, 11, 17, [])) := rfl
theorem l_Mo_chainRule_96 : xlk (xm_cd m_Mo_chainRule) 96 = some (.iload_n 3, 1, (0, 0, 0, [])) := rfl
theorem l_Mo_chainRule_97 : xlk (xm_cd m_Mo_chainRule) 97 = some (.iaload, 1, (0, 0, 0, [])) := rfl
theorem l_Mo_chainRule_98 : xlk (xm_cd m_Mo_chainRule) 98 = some (.if_icmp .eq 5, 3, (0, 103, 0, [])) := rfl
theorem l_Mo_chainRule_101 : xlk (xm_cd m_Mo_chainRule) 101 = some (.iconst 2, 1, (0, 0, 0, [])) := rfl
theorem l_Mo_chainRule_102 : xlk (xm_cd m_Mo_chainRule) 102 = some (.ireturn, 1, (0, 0, 0, [])) := rfl
theorem l_Mo_chainRule_103 : xlk (xm_cd m_Mo_chainRule) 103 = some (.aload_n 0, 1, (0, 0, 0, [])) := rfl
theorem l_Mo_chainRule_104 : xlk (xm_cd m_Mo_chainRule) 104 = some (.iload_n 3, 1, (0, 0, 0, [])) := rfl
theorem l_Mo_chainRule_105 : xlk (xm_cd m_Mo_chainRule) 105 = some (.invokevirtual 295, 3, (1143, 203, 1, [])) := rfl
theorem l_Mo_chainRule_108 : xlk (xm_cd m_Mo_chainRule) 108 = some (.ifCond .eq 31, 3, (0, 139, 0, [])) := rfl
theorem l_Mo_chainRule_111 : xlk (xm_cd m_Mo_chainRule) 111 = some (.aload_n 0, 1, (0, 0, 0, [])) := rfl
theorem l_Mo_chainRule_112 : xlk (xm_cd m_Mo_chainRule) 112 = some (.iload_n 1, 1, (0, 0, 0, [])) := rfl
theorem l_Mo_chainRule_113 : xlk (xm_cd m_Mo_chainRule) 113 = some (.aload_n 0, 1, (0, 0, 0, [])) := rfl
theorem l_Mo_chainRule_114 : xlk (xm_cd m_Mo_chainRule) 114 = some (.getfield 39, 3, (861, 11, 12, [])) := rfl
theorem l_Mo_chainRule_117 : xlk (xm_cd m_Mo_chainRule) 117 = some (.bipush 18, 2, (0, 0, 0, [])) := rfl
theorem l_Mo_chainRule_119 : xlk (xm_cd m_Mo_chainRule) 119 = some (.iload_n 3, 1, (0, 0, 0, [])) := rfl
theorem l_Mo_chainRule_120 : xlk (xm_cd m_Mo_chainRule) 120 = some (.imul, 1, (0, 0, 0, [])) := rfl
theorem l_Mo_chainRule_121 : xlk (xm_cd m_Mo_chainRule) 121 = some (.aload_n 0, 1, (0, 0, 0, [])) := rfl
theorem l_Mo_chainRule_122 : xlk (xm_cd m_Mo_chainRule) 122 = some (.getfield 42, 3, (862, 11, 13, [])) := rfl
theorem l_Mo_chainRule_125 : xlk (xm_cd m_Mo_chainRule) 125 = some (.iload_n 3, 1, (0, 0, 0, [])) := rfl
theorem l_Mo_chainRule_126 : xlk (xm_cd m_Mo_chainRule) 126 = some (.iaload, 1, (0, 0, 0, [])) := rfl
theorem l_Mo_chainRule_127 : xlk (xm_cd m_Mo_chainRule) 127 = some (.invokevirtual 301, 3, (1140, 202, 4, [])) := rfl
theorem l_Mo_chainRule_130 : xlk (xm_cd m_Mo_chainRule) 130 = some (.bipush (-2), 2, (0, 0, 0, [])) := rfl
theorem l_Mo_chainRule_132 : xlk (xm_cd m_Mo_chainRule) 132 = some (.if_icmp .eq 7, 3, (0, 139, 0, [])) := rfl
theorem l_Mo_chainRule_135 : xlk (xm_cd m_Mo_chainRule) 135 = some (.iconst 1, 1, (0, 0, 0, [])) := rfl
theorem l_Mo_chainRule_136 : xlk (xm_cd m_Mo_chainRule) 136 = some (.goto 4, 3, (0, 140, 0, [])) := rfl
theorem l_Mo_chainRule_139 : xlk (xm_cd m_Mo_chainRule) 139 = some (.iconst 0, 1, (0, 0, 0, [])) := rfl
theorem l_Mo_chainRule_140 : xlk (xm_cd m_Mo_chainRule) 140 = some (.istore 4, 2, (0, 0, 0, [])) := rfl
set_option maxRecDepth 20000 in
theorem l_Mo_chainRule_142 : xlk (xm_cd m_Mo_chainRule) 142 = some (.iload 4, 2, (0, 0, 0, [])) := rfl
set_option maxRecDepth 20000 in
theorem l_Mo_chainRule_144 : xlk (xm_cd m_Mo_chainRule) 144 = some (.ifCond .eq 31, 3, (0, 175, 0, [])) := rfl
set_option maxRecDepth 20000 in
theorem l_Mo_chainRule_147 : xlk (xm_cd m_Mo_chainRule) 147 = some (.aload_n 0, 1, (0, 0, 0, [])) := rfl
set_option maxRecDepth 20000 in
theorem l_Mo_chainRule_148 : xlk (xm_cd m_Mo_chainRule) 148 = some (.iload_n 2, 1, (0, 0, 0, [])) := rfl
set_option maxRecDepth 20000 in
theorem l_Mo_chainRule_149 : xlk (xm_cd m_Mo_chainRule) 149 = some (.aload_n 0, 1, (0, 0, 0, [])) := rfl
set_option maxRecDepth 20000 in
theorem l_Mo_chainRule_150 : xlk (xm_cd m_Mo_chainRule) 150 = some (.getfield 39, 3, (861, 11, 12, [])) := rfl
set_option maxRecDepth 20000 in
theorem l_Mo_chainRule_153 : xlk (xm_cd m_Mo_chainRule) 153 = some (.bipush 18, 2, (0, 0, 0, [])) := rfl
set_option maxRecDepth 20000 in
theorem l_Mo_chainRule_155 : xlk (xm_cd m_Mo_chainRule) 155 = some (.iload_n 3, 1, (0, 0, 0, [])) := rfl
set_option maxRecDepth 20000 in
theorem l_Mo_chainRule_156 : xlk (xm_cd m_Mo_chainRule) 156 = some (.imul, 1, (0, 0, 0, [])) := rfl
set_option maxRecDepth 20000 in
theorem l_Mo_chainRule_157 : xlk (xm_cd m_Mo_chainRule) 157 = some (.aload_n 0, 1, (0, 0, 0, [])) := rfl
set_option maxRecDepth 20000 in
theorem l_Mo_chainRule_158 : xlk (xm_cd m_Mo_chainRule) 158 = some (.getfield 42, 3, (862, 11, 13, [])) := rfl
set_option maxRecDepth 20000 in
theorem l_Mo_chainRule_161 : xlk (xm_cd m_Mo_chainRule) 161 = some (.iload_n 3, 1, (0, 0, 0, [])) := rfl
set_option maxRecDepth 20000 in
theorem l_Mo_chainRule_162 : xlk (xm_cd m_Mo_chainRule) 162 = some (.iaload, 1, (0, 0, 0, [])) := rfl
set_option maxRecDepth 20000 in
theorem l_Mo_chainRule_163 : xlk (xm_cd m_Mo_chainRule) 163 = some (.invokevirtual 304, 3, (1146, 204, 4, [])) := rfl
set_option maxRecDepth 20000 in
theorem l_Mo_chainRule_166 : xlk (xm_cd m_Mo_chainRule) 166 = some (.bipush (-2), 2, (0, 0, 0, [])) := rfl
set_option maxRecDepth 20000 in
theorem l_Mo_chainRule_168 : xlk (xm_cd m_Mo_chainRule) 168 = some (.if_icmp .ne 7, 3, (0, 175, 0, [])) := rfl
set_option maxRecDepth 20000 in
theorem l_Mo_chainRule_171 : xlk (xm_cd m_Mo_chainRule) 171 = some (.iconst 3, 1, (0, 0, 0, [])) := rfl
set_option maxRecDepth 20000 in
theorem l_Mo_chainRule_172 : xlk (xm_cd m_Mo_chainRule) 172 = some (.goto 4, 3, (0, 176, 0, [])) := rfl
set_option maxRecDepth 20000 in
theorem l_Mo_chainRule_175 : xlk (xm_cd m_Mo_chainRule) 175 = some (.iconst 0, 1, (0, 0, 0, [])) := rfl
set_option maxRecDepth 20000 in
theorem l_Mo_chainRule_176 : xlk (xm_cd m_Mo_chainRule) 176 = some (.ireturn, 1, (0, 0, 0, [])) := rfl
def B_Mo_chainRule_0 (d : Nat) (E : Option Value → xH → Prop) (f : xH) (a0 : Nat) (x1 : Int32) (x2 : Int32) (x3 : Int32) : Prop :=
  (∃ fs, f a0 = some (xO 11 fs)) ∧ xSp xT0 d j_Mo_hasSource [.ref a0, .int x3] f (fun w1 f2 => xvi w1 (fun v3 => xbr (v3 = 0) (xWp (xT0, xSp xT0 d, none, m_Mo_chainRule, E) 103 [some (.ref a0), some (.int x1), some (.int x2), some (.int x3), none] [] f2 0 0) (xgr f2 a0 11 14 (fun r4 => xgr f2 a0 11 15 (fun r5 => xal f2 r5 0 x3 (fun v6 => (∃ fs, f2 a0 = some (xO 11 fs)) ∧ xSp xT0 d j_Mo_targetAt [.ref a0, .int x1, .ref r4, .int (18 * x3), .int v6] f2 (fun w7 f8 => xvi w7 (fun v9 => xbr (¬ v9 = (-2)) (xWp (xT0, xSp xT0 d, none, m_Mo_chainRule, E) 62 [some (.ref a0), some (.int x1), some (.int x2), some (.int x3), some (.int v9)] [] f8 0 0) (xgr f8 a0 11 14 (fun r10 => xgr f8 a0 11 15 (fun r11 => xal f8 r11 0 x3 (fun v12 => (∃ fs, f8 a0 = some (xO 11 fs)) ∧ xSp xT0 d j_Mo_sourceAt [.ref a0, .int x1, .ref r10, .int (18 * x3), .int v12] f8 (fun w13 f14 => xvi w13 (fun v15 => xbr (v15 = (-2)) (xWp (xT0, xSp xT0 d, none, m_Mo_chainRule, E) 62 [some (.ref a0), some (.int x1), some (.int x2), some (.int x3), some (.int v9)] [] f14 0 0) (E (some (.int 1)) f14)))))))))))))))
theorem b_Mo_chainRule_0 {d : Nat} {E : Option Value → xH → Prop} {f : xH} {a0 : Nat} {x1 : Int32} {x2 : Int32} {x3 : Int32} (h : B_Mo_chainRule_0 d E f a0 x1 x2 x3) : xWp (xT0, xSp xT0 d, none, m_Mo_chainRule, E) 0 [some (.ref a0), some (.int x1), some (.int x2), some (.int x3), none] [] f 0 0 := by
  unfold B_Mo_chainRule_0 at h
  refine s_aln l_Mo_chainRule_0 rfl ?_
  refine s_iln l_Mo_chainRule_1 rfl ?_
  refine s_cvi (As := [.int x3]) (r := []) l_Mo_chainRule_2 rfl ⟨rfl, rfl⟩ rfl (Nat.le_of_ble_eq_true rfl) rfl ⟨Nat.zero_le _, Nat.zero_le _⟩ h (fun v3 f2 h => ?_)
  refine s_if l_Mo_chainRule_5 h (fun h => ?_) (fun h => ?_)
  · exact h
  · refine s_aln l_Mo_chainRule_8 rfl ?_
    refine s_iln l_Mo_chainRule_9 rfl ?_
    refine s_aln l_Mo_chainRule_10 rfl ?_
    refine s_gr l_Mo_chainRule_11 h (fun r4 h => ?_)
    refine s_bp 18 l_Mo_chainRule_14 rfl ?_
    refine s_iln l_Mo_chainRule_16 rfl ?_
    refine s_imul l_Mo_chainRule_17 ?_
    refine s_aln l_Mo_chainRule_18 rfl ?_
    refine s_gr l_Mo_chainRule_19 h (fun r5 h => ?_)
    refine s_iln l_Mo_chainRule_22 rfl ?_
    refine s_ial l_Mo_chainRule_23 rfl h (fun v6 h => ?_)
    refine s_cvi (As := [.int x1, .ref r4, .int (18 * x3), .int v6]) (r := []) l_Mo_chainRule_24 rfl ⟨rfl, rfl⟩ rfl (Nat.le_of_ble_eq_true rfl) rfl ⟨Nat.zero_le _, Nat.zero_le _⟩ h (fun v9 f8 h => ?_)
    refine s_is l_Mo_chainRule_27 (Nat.le_of_ble_eq_true rfl) ?_
    refine s_il l_Mo_chainRule_29 rfl ?_
    refine s_bp (-2) l_Mo_chainRule_31 rfl ?_
    refine s_ifc l_Mo_chainRule_33 h (fun h => ?_) (fun h => ?_)
    · exact h
    · refine s_aln l_Mo_chainRule_36 rfl ?_
      refine s_iln l_Mo_chainRule_37 rfl ?_
      refine s_aln l_Mo_chainRule_38 rfl ?_
      refine s_gr l_Mo_chainRule_39 h (fun r10 h => ?_)
      refine s_bp 18 l_Mo_chainRule_42 rfl ?_
      refine s_iln l_Mo_chainRule_44 rfl ?_
      refine s_imul l_Mo_chainRule_45 ?_
      refine s_aln l_Mo_chainRule_46 rfl ?_
      refine s_gr l_Mo_chainRule_47 h (fun r11 h => ?_)
      refine s_iln l_Mo_chainRule_50 rfl ?_
      refine s_ial l_Mo_chainRule_51 rfl h (fun v12 h => ?_)
      refine s_cvi (As := [.int x1, .ref r10, .int (18 * x3), .int v12]) (r := []) l_Mo_chainRule_52 rfl ⟨rfl, rfl⟩ rfl (Nat.le_of_ble_eq_true rfl) rfl ⟨Nat.zero_le _, Nat.zero_le _⟩ h (fun v15 f14 h => ?_)
      refine s_bp (-2) l_Mo_chainRule_55 rfl ?_
      refine s_ifc l_Mo_chainRule_57 h (fun h => ?_) (fun h => ?_)
      · exact h
      · refine s_ic 1 l_Mo_chainRule_60 rfl ?_
        exact s_iret l_Mo_chainRule_61 rfl ⟨Nat.zero_le _, Nat.zero_le _⟩ h
def B_Mo_chainRule_62 (d : Nat) (E : Option Value → xH → Prop) (f : xH) (a0 : Nat) (x1 : Int32) (x2 : Int32) (x3 : Int32) (x4 : Int32) : Prop :=
  xbr (x4 = (-2)) (xWp (xT0, xSp xT0 d, none, m_Mo_chainRule, E) 103 [some (.ref a0), some (.int x1), some (.int x2), some (.int x3), some (.int x4)] [] f 0 0) (xgr f a0 11 18 (fun r1 => xal f r1 0 x4 (fun v2 => xgr f a0 11 16 (fun r3 => xal f r3 0 x3 (fun v4 => xbr (¬ v2 = v4) (E (some (.int 2)) f) (xgr f a0 11 19 (fun r5 => xal f r5 0 x4 (fun v6 => xgr f a0 11 17 (fun r7 => xal f r7 0 x3 (fun v8 => xbr (v6 = v8) (xWp (xT0, xSp xT0 d, none, m_Mo_chainRule, E) 103 [some (.ref a0), some (.int x1), some (.int x2), some (.int x3), some (.int x4)] [] f 0 0) (E (some (.int 2)) f)))))))))))
theorem b_Mo_chainRule_62 {d : Nat} {E : Option Value → xH → Prop} {f : xH} {a0 : Nat} {x1 : Int32} {x2 : Int32} {x3 : Int32} {x4 : Int32} (h : B_Mo_chainRule_62 d E f a0 x1 x2 x3 x4) : xWp (xT0, xSp xT0 d, none, m_Mo_chainRule, E) 62 [some (.ref a0), some (.int x1), some (.int x2), some (.int x3), some (.int x4)] [] f 0 0 := by
  unfold B_Mo_chainRule_62 at h
  refine s_il l_Mo_chainRule_62 rfl ?_
  refine s_bp (-2) l_Mo_chainRule_64 rfl ?_
  refine s_ifc l_Mo_chainRule_66 h (fun h => ?_) (fun h => ?_)
  · exact h
  · refine s_aln l_Mo_chainRule_69 rfl ?_
    refine s_gr l_Mo_chainRule_70 h (fun r1 h => ?_)
    refine s_il l_Mo_chainRule_73 rfl ?_
    refine s_ial l_Mo_chainRule_75 rfl h (fun v2 h => ?_)
    refine s_aln l_Mo_chainRule_76 rfl ?_
    refine s_gr l_Mo_chainRule_77 h (fun r3 h => ?_)
    refine s_iln l_Mo_chainRule_80 rfl ?_
    refine s_ial l_Mo_chainRule_81 rfl h (fun v4 h => ?_)
    refine s_ifc l_Mo_chainRule_82 h (fun h => ?_) (fun h => ?_)
    · refine s_ic 2 l_Mo_chainRule_101 rfl ?_
      exact s_iret l_Mo_chainRule_102 rfl ⟨Nat.zero_le _, Nat.zero_le _⟩ h
    · refine s_aln l_Mo_chainRule_85 rfl ?_
      refine s_gr l_Mo_chainRule_86 h (fun r5 h => ?_)
      refine s_il l_Mo_chainRule_89 rfl ?_
      refine s_ial l_Mo_chainRule_91 rfl h (fun v6 h => ?_)
      refine s_aln l_Mo_chainRule_92 rfl ?_
      refine s_gr l_Mo_chainRule_93 h (fun r7 h => ?_)
      refine s_iln l_Mo_chainRule_96 rfl ?_
      refine s_ial l_Mo_chainRule_97 rfl h (fun v8 h => ?_)
      refine s_ifc l_Mo_chainRule_98 h (fun h => ?_) (fun h => ?_)
      · exact h
      · refine s_ic 2 l_Mo_chainRule_101 rfl ?_
        exact s_iret l_Mo_chainRule_102 rfl ⟨Nat.zero_le _, Nat.zero_le _⟩ h
def B_Mo_chainRule_103 (d : Nat) (E : Option Value → xH → Prop) (f : xH) (a0 : Nat) (x1 : Int32) (x2 : Int32) (x3 : Int32) (u4 : Option Value) : Prop :=
  (∃ fs, f a0 = some (xO 11 fs)) ∧ xSp xT0 d j_Mo_hasTarget [.ref a0, .int x3] f (fun w1 f2 => xvi w1 (fun v3 => xbr (v3 = 0) (xWp (xT0, xSp xT0 d, none, m_Mo_chainRule, E) 140 [some (.ref a0), some (.int x1), some (.int x2), some (.int x3), u4] [.int 0] f2 0 0) (xgr f2 a0 11 12 (fun r4 => xgr f2 a0 11 13 (fun r5 => xal f2 r5 0 x3 (fun v6 => (∃ fs, f2 a0 = some (xO 11 fs)) ∧ xSp xT0 d j_Mo_targetAt [.ref a0, .int x1, .ref r4, .int (18 * x3), .int v6] f2 (fun w7 f8 => xvi w7 (fun v9 => xbr (v9 = (-2)) (xWp (xT0, xSp xT0 d, none, m_Mo_chainRule, E) 140 [some (.ref a0), some (.int x1), some (.int x2), some (.int x3), u4] [.int 0] f8 0 0) (xWp (xT0, xSp xT0 d, none, m_Mo_chainRule, E) 140 [some (.ref a0), some (.int x1), some (.int x2), some (.int x3), u4] [.int 1] f8 0 0)))))))))
theorem b_Mo_chainRule_103 {d : Nat} {E : Option Value → xH → Prop} {f : xH} {a0 : Nat} {x1 : Int32} {x2 : Int32} {x3 : Int32} {u4 : Option Value} (h : B_Mo_chainRule_103 d E f a0 x1 x2 x3 u4) : xWp (xT0, xSp xT0 d, none, m_Mo_chainRule, E) 103 [some (.ref a0), some (.int x1), some (.int x2), some (.int x3), u4] [] f 0 0 := by
  unfold B_Mo_chainRule_103 at h
  refine s_aln l_Mo_chainRule_103 rfl ?_
  refine s_iln l_Mo_chainRule_104 rfl ?_
  refine s_cvi (As := [.int x3]) (r := []) l_Mo_chainRule_105 rfl ⟨rfl, rfl⟩ rfl (Nat.le_of_ble_eq_true rfl) rfl ⟨Nat.zero_le _, Nat.zero_le _⟩ h (fun v3 f2 h => ?_)
  refine s_if l_Mo_chainRule_108 h (fun h => ?_) (fun h => ?_)
  · refine s_ic 0 l_Mo_chainRule_139 rfl ?_
    exact h
  · refine s_aln l_Mo_chainRule_111 rfl ?_
    refine s_iln l_Mo_chainRule_112 rfl ?_
    refine s_aln l_Mo_chainRule_113 rfl ?_
    refine s_gr l_Mo_chainRule_114 h (fun r4 h => ?_)
    refine s_bp 18 l_Mo_chainRule_117 rfl ?_
    refine s_iln l_Mo_chainRule_119 rfl ?_
    refine s_imul l_Mo_chainRule_120 ?_
    refine s_aln l_Mo_chainRule_121 rfl ?_
    refine s_gr l_Mo_chainRule_122 h (fun r5 h => ?_)
    refine s_iln l_Mo_chainRule_125 rfl ?_
    refine s_ial l_Mo_chainRule_126 rfl h (fun v6 h => ?_)
    refine s_cvi (As := [.int x1, .ref r4, .int (18 * x3), .int v6]) (r := []) l_Mo_chainRule_127 rfl ⟨rfl, rfl⟩ rfl (Nat.le_of_ble_eq_true rfl) rfl ⟨Nat.zero_le _, Nat.zero_le _⟩ h (fun v9 f8 h => ?_)
    refine s_bp (-2) l_Mo_chainRule_130 rfl ?_
    refine s_ifc l_Mo_chainRule_132 h (fun h => ?_) (fun h => ?_)
    · refine s_ic 0 l_Mo_chainRule_139 rfl ?_
      exact h
    · refine s_ic 1 l_Mo_chainRule_135 rfl ?_
      refine s_goto l_Mo_chainRule_136 ?_
      exact h
def B_Mo_chainRule_140 (d : Nat) (E : Option Value → xH → Prop) (f : xH) (a0 : Nat) (x1 : Int32) (x2 : Int32) (x3 : Int32) (u4 : Option Value) (s0 : Int32) : Prop :=
  xbr (s0 = 0) (E (some (.int 0)) f) (xgr f a0 11 12 (fun r1 => xgr f a0 11 13 (fun r2 => xal f r2 0 x3 (fun v3 => (∃ fs, f a0 = some (xO 11 fs)) ∧ xSp xT0 d j_Mo_sourceAt [.ref a0, .int x2, .ref r1, .int (18 * x3), .int v3] f (fun w4 f5 => xvi w4 (fun v6 => xbr (¬ v6 = (-2)) (E (some (.int 0)) f5) (E (some (.int 3)) f5)))))))
theorem b_Mo_chainRule_140 {d : Nat} {E : Option Value → xH → Prop} {f : xH} {a0 : Nat} {x1 : Int32} {x2 : Int32} {x3 : Int32} {u4 : Option Value} {s0 : Int32} (h : B_Mo_chainRule_140 d E f a0 x1 x2 x3 u4 s0) : xWp (xT0, xSp xT0 d, none, m_Mo_chainRule, E) 140 [some (.ref a0), some (.int x1), some (.int x2), some (.int x3), u4] [.int s0] f 0 0 := by
  unfold B_Mo_chainRule_140 at h
  refine s_is l_Mo_chainRule_140 (Nat.le_of_ble_eq_true rfl) ?_
  refine s_il l_Mo_chainRule_142 rfl ?_
  refine s_if l_Mo_chainRule_144 h (fun h => ?_) (fun h => ?_)
  · refine s_ic 0 l_Mo_chainRule_175 rfl ?_
    exact s_iret l_Mo_chainRule_176 rfl ⟨Nat.zero_le _, Nat.zero_le _⟩ h
  · refine s_aln l_Mo_chainRule_147 rfl ?_
    refine s_iln l_Mo_chainRule_148 rfl ?_
    refine s_aln l_Mo_chainRule_149 rfl ?_
    refine s_gr l_Mo_chainRule_150 h (fun r1 h => ?_)
    refine s_bp 18 l_Mo_chainRule_153 rfl ?_
    refine s_iln l_Mo_chainRule_155 rfl ?_
    refine s_imul l_Mo_chainRule_156 ?_
    refine s_aln l_Mo_chainRule_157 rfl ?_
    refine s_gr l_Mo_chainRule_158 h (fun r2 h => ?_)
    refine s_iln l_Mo_chainRule_161 rfl ?_
    refine s_ial l_Mo_chainRule_162 rfl h (fun v3 h => ?_)
    refine s_cvi (As := [.int x2, .ref r1, .int (18 * x3), .int v3]) (r := []) l_Mo_chainRule_163 rfl ⟨rfl, rfl⟩ rfl (Nat.le_of_ble_eq_true rfl) rfl ⟨Nat.zero_le _, Nat.zero_le _⟩ h (fun v6 f5 h => ?_)
    refine s_bp (-2) l_Mo_chainRule_166 rfl ?_
    refine s_ifc l_Mo_chainRule_168 h (fun h => ?_) (fun h => ?_)
    · refine s_ic 0 l_Mo_chainRule_175 rfl ?_
      exact s_iret l_Mo_chainRule_176 rfl ⟨Nat.zero_le _, Nat.zero_le _⟩ h
    · refine s_ic 3 l_Mo_chainRule_171 rfl ?_
      refine s_goto l_Mo_chainRule_172 ?_
      exact s_iret l_Mo_chainRule_176 rfl ⟨Nat.zero_le _, Nat.zero_le _⟩ h
theorem l_Mo_hasSource_0 : xlk (xm_cd m_Mo_hasSource) 0 = some (.aload_n 0, 1, (0, 0, 0, [])) := rfl
theorem l_Mo_hasSource_1 : xlk (xm_cd m_Mo_hasSource) 1 = some (.getfield 36, 3, (860, 11, 11, [])) := rfl
theorem l_Mo_hasSource_4 : xlk (xm_cd m_Mo_hasSource) 4 = some (.iload_n 1, 1, (0, 0, 0, [])) := rfl
theorem l_Mo_hasSource_5 : xlk (xm_cd m_Mo_hasSource) 5 = some (.iaload, 1, (0, 0, 0, [])) := rfl
theorem l_Mo_hasSource_6 : xlk (xm_cd m_Mo_hasSource) 6 = some (.ifCond .eq 7, 3, (0, 13, 0, [])) := rfl
theorem l_Mo_hasSource_9 : xlk (xm_cd m_Mo_hasSource) 9 = some (.iconst 1, 1, (0, 0, 0, [])) := rfl
theorem l_Mo_hasSource_10 : xlk (xm_cd m_Mo_hasSource) 10 = some (.goto 4, 3, (0, 14, 0, [])) := rfl
theorem l_Mo_hasSource_13 : xlk (xm_cd m_Mo_hasSource) 13 = some (.iconst 0, 1, (0, 0, 0, [])) := rfl
theorem l_Mo_hasSource_14 : xlk (xm_cd m_Mo_hasSource) 14 = some (.ireturn, 1, (0, 0, 0, [])) := rfl
def B_Mo_hasSource_0 (d : Nat) (E : Option Value → xH → Prop) (f : xH) (a0 : Nat) (x1 : Int32) : Prop :=
  xgr f a0 11 11 (fun r1 => xal f r1 0 x1 (fun v2 => xbr (v2 = 0) (E (some (.int 0)) f) (E (some (.int 1)) f)))
theorem b_Mo_hasSource_0 {d : Nat} {E : Option Value → xH → Prop} {f : xH} {a0 : Nat} {x1 : Int32} (h : B_Mo_hasSource_0 d E f a0 x1) : xWp (xT0, xSp xT0 d, none, m_Mo_hasSource, E) 0 [some (.ref a0), some (.int x1)] [] f 0 0 := by
  unfold B_Mo_hasSource_0 at h
  refine s_aln l_Mo_hasSource_0 rfl ?_
  refine s_gr l_Mo_hasSource_1 h (fun r1 h => ?_)
  refine s_iln l_Mo_hasSource_4 rfl ?_
  refine s_ial l_Mo_hasSource_5 rfl h (fun v2 h => ?_)
  refine s_if l_Mo_hasSource_6 h (fun h => ?_) (fun h => ?_)
  · refine s_ic 0 l_Mo_hasSource_13 rfl ?_
    exact s_zret l_Mo_hasSource_14 rfl ⟨Nat.zero_le _, Nat.zero_le _⟩ ⟨Or.inl rfl, h⟩
  · refine s_ic 1 l_Mo_hasSource_9 rfl ?_
    refine s_goto l_Mo_hasSource_10 ?_
    exact s_zret l_Mo_hasSource_14 rfl ⟨Nat.zero_le _, Nat.zero_le _⟩ ⟨Or.inr rfl, h⟩
