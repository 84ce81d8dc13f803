/-! blocks of Mo, 5 -/
theorem l_Mo_isSource_0 : xlk (xm_cd m_Mo_isSource) 0 = some (.iconst 0, 1, (0, 0, 0, [])) := rfl
theorem l_Mo_isSource_1 : xlk (xm_cd m_Mo_isSource) 1 = some (.istore 5, 2, (0, 0, 0, [])) := rfl
theorem l_Mo_isSource_3 : xlk (xm_cd m_Mo_isSource) 3 = some (.iconst 0, 1, (0, 0, 0, [])) := rfl
theorem l_Mo_isSource_4 : xlk (xm_cd m_Mo_isSource) 4 = some (.istore 6, 2, (0, 0, 0, [])) := rfl
theorem l_Mo_isSource_6 : xlk (xm_cd m_Mo_isSource) 6 = some (.iload 6, 2, (0, 0, 0, [])) := rfl
theorem l_Mo_isSource_8 : xlk (xm_cd m_Mo_isSource) 8 = some (.aload_n 0, 1, (0, 0, 0, [])) := rfl
theorem l_Mo_isSource_9 : xlk (xm_cd m_Mo_isSource) 9 = some (.getfield 69, 3, (871, 11, 22, [])) := rfl
theorem l_Mo_isSource_12 : xlk (xm_cd m_Mo_isSource) 12 = some (.iload_n 1, 1, (0, 0, 0, [])) := rfl
theorem l_Mo_isSource_13 : xlk (xm_cd m_Mo_isSource) 13 = some (.iaload, 1, (0, 0, 0, [])) := rfl
theorem l_Mo_isSource_14 : xlk (xm_cd m_Mo_isSource) 14 = some (.if_icmp .ge 76, 3, (0, 90, 0, [])) := rfl
theorem l_Mo_isSource_17 : xlk (xm_cd m_Mo_isSource) 17 = some (.bipush 24, 2, (0, 0, 0, [])) := rfl
theorem l_Mo_isSource_19 : xlk (xm_cd m_Mo_isSource) 19 = some (.iload_n 1, 1, (0, 0, 0, [])) := rfl
theorem l_Mo_isSource_20 : xlk (xm_cd m_Mo_isSource) 20 = some (.imul, 1, (0, 0, 0, [])) := rfl
theorem l_Mo_isSource_21 : xlk (xm_cd m_Mo_isSource) 21 = some (.iload 6, 2, (0, 0, 0, [])) := rfl
theorem l_Mo_isSource_23 : xlk (xm_cd m_Mo_isSource) 23 = some (.iadd, 1, (0, 0, 0, [])) := rfl
theorem l_Mo_isSource_24 : xlk (xm_cd m_Mo_isSource) 24 = some (.istore 7, 2, (0, 0, 0, [])) := rfl
theorem l_Mo_isSource_26 : xlk (xm_cd m_Mo_isSource) 26 = some (.iload 5, 2, (0, 0, 0, [])) := rfl
theorem l_Mo_isSource_28 : xlk (xm_cd m_Mo_isSource) 28 = some (.ifCond .ne 49, 3, (0, 77, 0, [])) := rfl
theorem l_Mo_isSource_31 : xlk (xm_cd m_Mo_isSource) 31 = some (.aload_n 0, 1, (0, 0, 0, [])) := rfl
theorem l_Mo_isSource_32 : xlk (xm_cd m_Mo_isSource) 32 = some (.getfield 87, 3, (880, 11, 31, [])) := rfl
theorem l_Mo_isSource_35 : xlk (xm_cd m_Mo_isSource) 35 = some (.iload 6, 2, (0, 0, 0, [])) := rfl
theorem l_Mo_isSource_37 : xlk (xm_cd m_Mo_isSource) 37 = some (.baload, 1, (0, 0, 0, [])) := rfl
theorem l_Mo_isSource_38 : xlk (xm_cd m_Mo_isSource) 38 = some (.ifCond .eq 43, 3, (0, 81, 0, [])) := rfl
theorem l_Mo_isSource_41 : xlk (xm_cd m_Mo_isSource) 41 = some (.aload_n 0, 1, (0, 0, 0, [])) := rfl
theorem l_Mo_isSource_42 : xlk (xm_cd m_Mo_isSource) 42 = some (.getfield 36, 3, (860, 11, 11, [])) := rfl
theorem l_Mo_isSource_45 : xlk (xm_cd m_Mo_isSource) 45 = some (.iload 7, 2, (0, 0, 0, [])) := rfl
theorem l_Mo_isSource_47 : xlk (xm_cd m_Mo_isSource) 47 = some (.iaload, 1, (0, 0, 0, [])) := rfl
theorem l_Mo_isSource_48 : xlk (xm_cd m_Mo_isSource) 48 = some (.ifCond .eq 33, 3, (0, 81, 0, [])) := rfl
theorem l_Mo_isSource_51 : xlk (xm_cd m_Mo_isSource) 51 = some (.aload_n 0, 1, (0, 0, 0, [])) := rfl
theorem l_Mo_isSource_52 : xlk (xm_cd m_Mo_isSource) 52 = some (.getfield 45, 3, (863, 11, 14, [])) := rfl
theorem l_Mo_isSource_55 : xlk (xm_cd m_Mo_isSource) 55 = some (.bipush 18, 2, (0, 0, 0, [])) := rfl
theorem l_Mo_isSource_57 : xlk (xm_cd m_Mo_isSource) 57 = some (.iload 7, 2, (0, 0, 0, [])) := rfl
theorem l_Mo_isSource_59 : xlk (xm_cd m_Mo_isSource) 59 = some (.imul, 1, (0, 0, 0, [])) := rfl
theorem l_Mo_isSource_60 : xlk (xm_cd m_Mo_isSource) 60 = some (.aload_n 0, 1, (0, 0, 0, [])) := rfl
theorem l_Mo_isSource_61 : xlk (xm_cd m_Mo_isSource) 61 = some (.getfield 48, 3, (864, 11, 15, [])) := rfl
theorem l_Mo_isSource_64 : xlk (xm_cd m_Mo_isSource) 64 = some (.iload 7, 2, (0, 0, 0, [])) := rfl
theorem l_Mo_isSource_66 : xlk (xm_cd m_Mo_isSource) 66 = some (.iaload, 1, (0, 0, 0, [])) := rfl
theorem l_Mo_isSource_67 : xlk (xm_cd m_Mo_isSource) 67 = some (.aload_n 2, 1, (0, 0, 0, [])) := rfl
theorem l_Mo_isSource_68 : xlk (xm_cd m_Mo_isSource) 68 = some (.iload_n 3, 1, (0, 0, 0, [])) := rfl
theorem l_Mo_isSource_69 : xlk (xm_cd m_Mo_isSource) 69 = some (.iload 4, 2, (0, 0, 0, [])) := rfl
theorem l_Mo_isSource_71 : xlk (xm_cd m_Mo_isSource) 71 = some (.invokestatic 143, 3, (987, 157, 6, [])) := rfl
theorem l_Mo_isSource_74 : xlk (xm_cd m_Mo_isSource) 74 = some (.ifCond .ne 7, 3, (0, 81, 0, [])) := rfl
theorem l_Mo_isSource_77 : xlk (xm_cd m_Mo_isSource) 77 = some (.iconst 1, 1, (0, 0, 0, [])) := rfl
theorem l_Mo_isSource_78 : xlk (xm_cd m_Mo_isSource) 78 = some (.goto 4, 3, (0, 82, 0, [])) := rfl
theorem l_Mo_isSource_81 : xlk (xm_cd m_Mo_isSource) 81 = some (.iconst 0, 1, (0, 0, 0, [])) := rfl
theorem l_Mo_isSource_82 : xlk (xm_cd m_Mo_isSource) 82 = some (.istore 5, 2, (0, 0, 0, [])) := rfl
theorem l_Mo_isSource_84 : xlk (xm_cd m_Mo_isSource) 84 = some (.iinc 6 1, 3, (0, 0, 0, [])) := rfl
theorem l_Mo_isSource_87 : xlk (xm_cd m_Mo_isSource) 87 = some (.goto (-81), 3, (0, 6, 0, [])) := rfl
theorem l_Mo_isSource_90 : xlk (xm_cd m_Mo_isSource) 90 = some (.iload 5, 2, (0, 0, 0, [])) := rfl
theorem l_Mo_isSource_92 : xlk (xm_cd m_Mo_isSource) 92 = some (.ireturn, 1, (0, 0, 0, [])) := rfl
def B_Mo_isSource_0 (d : Nat) (E : Option Value → xH → Prop) (f : xH) (a0 : Nat) (x1 : Int32) (a2 : Nat) (x3 : Int32) (x4 : Int32) : Prop :=
  xWp (xT0, xSp xT0 d, none, m_Mo_isSource, E) 6 [some (.ref a0), some (.int x1), some (.ref a2), some (.int x3), some (.int x4), some (.int 0), some (.int 0), none] [] f 0 0
theorem b_Mo_isSource_0 {d : Nat} {E : Option Value → xH → Prop} {f : xH} {a0 : Nat} {x1 : Int32} {a2 : Nat} {x3 : Int32} {x4 : Int32} (h : B_Mo_isSource_0 d E f a0 x1 a2 x3 x4) : xWp (xT0, xSp xT0 d, none, m_Mo_isSource, E) 0 [some (.ref a0), some (.int x1), some (.ref a2), some (.int x3), some (.int x4), none, none, none] [] f 0 0 := by
  unfold B_Mo_isSource_0 at h
  refine s_ic 0 l_Mo_isSource_0 rfl ?_
  refine s_is l_Mo_isSource_1 (Nat.le_of_ble_eq_true rfl) ?_
  refine s_ic 0 l_Mo_isSource_3 rfl ?_
  refine s_is l_Mo_isSource_4 (Nat.le_of_ble_eq_true rfl) ?_
  exact h
def B_Mo_isSource_6 (d : Nat) (E : Option Value → xH → Prop) (f : xH) (a0 : Nat) (x1 : Int32) (a2 : Nat) (x3 : Int32) (x4 : Int32) (x5 : Int32) (x6 : Int32) (u7 : Option Value) : Prop :=
  xgr f a0 11 22 (fun r1 => xal f r1 0 x1 (fun v2 => xbr (v2 ≤ x6) ((x5 = 0 ∨ x5 = 1) ∧ E (some (.int x5)) f) (xbr (¬ x5 = 0) (xWp (xT0, xSp xT0 d, none, m_Mo_isSource, E) 6 [some (.ref a0), some (.int x1), some (.ref a2), some (.int x3), some (.int x4), some (.int 1), some (.int (x6 + 1)), some (.int ((24 * x1) + x6))] [] f 0 0) (xgr f a0 11 31 (fun r3 => xal f r3 1 x6 (fun v4 => xbr (v4 = 0) (xWp (xT0, xSp xT0 d, none, m_Mo_isSource, E) 6 [some (.ref a0), some (.int x1), some (.ref a2), some (.int x3), some (.int x4), some (.int 0), some (.int (x6 + 1)), some (.int ((24 * x1) + x6))] [] f 0 0) (xgr f a0 11 11 (fun r5 => xal f r5 0 ((24 * x1) + x6) (fun v6 => xbr (v6 = 0) (xWp (xT0, xSp xT0 d, none, m_Mo_isSource, E) 6 [some (.ref a0), some (.int x1), some (.ref a2), some (.int x3), some (.int x4), some (.int 0), some (.int (x6 + 1)), some (.int ((24 * x1) + x6))] [] f 0 0) (xgr f a0 11 14 (fun r7 => xgr f a0 11 15 (fun r8 => xal f r8 0 ((24 * x1) + x6) (fun v9 => xSp xT0 d j_Mo_order [.ref r7, .int (18 * ((24 * x1) + x6)), .int v9, .ref a2, .int x3, .int x4] f (fun w10 f11 => xvi w10 (fun v12 => xbr (¬ v12 = 0) (xWp (xT0, xSp xT0 d, none, m_Mo_isSource, E) 6 [some (.ref a0), some (.int x1), some (.ref a2), some (.int x3), some (.int x4), some (.int 0), some (.int (x6 + 1)), some (.int ((24 * x1) + x6))] [] f11 0 0) (xWp (xT0, xSp xT0 d, none, m_Mo_isSource, E) 6 [some (.ref a0), some (.int x1), some (.ref a2), some (.int x3), some (.int x4), some (.int 1), some (.int (x6 + 1)), some (.int ((24 * x1) + x6))] [] f11 0 0))))))))))))))))
theorem b_Mo_isSource_6 {d : Nat} {E : Option Value → xH → Prop} {f : xH} {a0 : Nat} {x1 : Int32} {a2 : Nat} {x3 : Int32} {x4 : Int32} {x5 : Int32} {x6 : Int32} {u7 : Option Value} (h : B_Mo_isSource_6 d E f a0 x1 a2 x3 x4 x5 x6 u7) : xWp (xT0, xSp xT0 d, none, m_Mo_isSource, E) 6 [some (.ref a0), some (.int x1), some (.ref a2), some (.int x3), some (.int x4), some (.int x5), some (.int x6), u7] [] f 0 0 := by
  unfold B_Mo_isSource_6 at h
  refine s_il l_Mo_isSource_6 rfl ?_
  refine s_aln l_Mo_isSource_8 rfl ?_
  refine s_gr l_Mo_isSource_9 h (fun r1 h => ?_)
  refine s_iln l_Mo_isSource_12 rfl ?_
  refine s_ial l_Mo_isSource_13 rfl h (fun v2 h => ?_)
  refine s_ifc l_Mo_isSource_14 h (fun h => ?_) (fun h => ?_)
  · refine s_il l_Mo_isSource_90 rfl ?_
    exact s_zret l_Mo_isSource_92 rfl ⟨Nat.zero_le _, Nat.zero_le _⟩ h
  · refine s_bp 24 l_Mo_isSource_17 rfl ?_
    refine s_iln l_Mo_isSource_19 rfl ?_
    refine s_imul l_Mo_isSource_20 ?_
    refine s_il l_Mo_isSource_21 rfl ?_
    refine s_iadd l_Mo_isSource_23 ?_
    refine s_is l_Mo_isSource_24 (Nat.le_of_ble_eq_true rfl) ?_
    refine s_il l_Mo_isSource_26 rfl ?_
    refine s_if l_Mo_isSource_28 h (fun h => ?_) (fun h => ?_)
    · refine s_ic 1 l_Mo_isSource_77 rfl ?_
      refine s_goto l_Mo_isSource_78 ?_
      refine s_is l_Mo_isSource_82 (Nat.le_of_ble_eq_true rfl) ?_
      refine s_inc 1 l_Mo_isSource_84 rfl rfl ?_
      refine s_goto l_Mo_isSource_87 ?_
      exact h
    · refine s_aln l_Mo_isSource_31 rfl ?_
      refine s_gr l_Mo_isSource_32 h (fun r3 h => ?_)
      refine s_il l_Mo_isSource_35 rfl ?_
      refine s_bal l_Mo_isSource_37 (Or.inl rfl) h (fun v4 h => ?_)
      refine s_if l_Mo_isSource_38 h (fun h => ?_) (fun h => ?_)
      · refine s_ic 0 l_Mo_isSource_81 rfl ?_
        refine s_is l_Mo_isSource_82 (Nat.le_of_ble_eq_true rfl) ?_
        refine s_inc 1 l_Mo_isSource_84 rfl rfl ?_
        refine s_goto l_Mo_isSource_87 ?_
        exact h
      · refine s_aln l_Mo_isSource_41 rfl ?_
        refine s_gr l_Mo_isSource_42 h (fun r5 h => ?_)
        refine s_il l_Mo_isSource_45 rfl ?_
        refine s_ial l_Mo_isSource_47 rfl h (fun v6 h => ?_)
        refine s_if l_Mo_isSource_48 h (fun h => ?_) (fun h => ?_)
        · refine s_ic 0 l_Mo_isSource_81 rfl ?_
          refine s_is l_Mo_isSource_82 (Nat.le_of_ble_eq_true rfl) ?_
          refine s_inc 1 l_Mo_isSource_84 rfl rfl ?_
          refine s_goto l_Mo_isSource_87 ?_
          exact h
        · refine s_aln l_Mo_isSource_51 rfl ?_
          refine s_gr l_Mo_isSource_52 h (fun r7 h => ?_)
          refine s_bp 18 l_Mo_isSource_55 rfl ?_
          refine s_il l_Mo_isSource_57 rfl ?_
          refine s_imul l_Mo_isSource_59 ?_
          refine s_aln l_Mo_isSource_60 rfl ?_
          refine s_gr l_Mo_isSource_61 h (fun r8 h => ?_)
          refine s_il l_Mo_isSource_64 rfl ?_
          refine s_ial l_Mo_isSource_66 rfl h (fun v9 h => ?_)
          refine s_aln l_Mo_isSource_67 rfl ?_
          refine s_iln l_Mo_isSource_68 rfl ?_
          refine s_il l_Mo_isSource_69 rfl ?_
          refine s_csi (As := [.ref r7, .int (18 * ((24 * x1) + x6)), .int v9, .ref a2, .int x3, .int x4]) (r := []) l_Mo_isSource_71 rfl ⟨rfl, rfl⟩ rfl (Nat.le_of_ble_eq_true rfl) rfl ⟨Nat.zero_le _, Nat.zero_le _⟩ h (fun v12 f11 h => ?_)
          refine s_if l_Mo_isSource_74 h (fun h => ?_) (fun h => ?_)
          · refine s_ic 0 l_Mo_isSource_81 rfl ?_
            refine s_is l_Mo_isSource_82 (Nat.le_of_ble_eq_true rfl) ?_
            refine s_inc 1 l_Mo_isSource_84 rfl rfl ?_
            refine s_goto l_Mo_isSource_87 ?_
            exact h
          · refine s_ic 1 l_Mo_isSource_77 rfl ?_
            refine s_goto l_Mo_isSource_78 ?_
            refine s_is l_Mo_isSource_82 (Nat.le_of_ble_eq_true rfl) ?_
            refine s_inc 1 l_Mo_isSource_84 rfl rfl ?_
            refine s_goto l_Mo_isSource_87 ?_
            exact h
theorem l_Mo_makeTree_0 : xlk (xm_cd m_Mo_makeTree) 0 = some (.aload_n 0, 1, (0, 0, 0, [])) := rfl
theorem l_Mo_makeTree_1 : xlk (xm_cd m_Mo_makeTree) 1 = some (.getfield 152, 3, (859, 11, 10, [])) := rfl
theorem l_Mo_makeTree_4 : xlk (xm_cd m_Mo_makeTree) 4 = some (.istore_n 3, 1, (0, 0, 0, [])) := rfl
theorem l_Mo_makeTree_5 : xlk (xm_cd m_Mo_makeTree) 5 = some (.aload_n 0, 1, (0, 0, 0, [])) := rfl
theorem l_Mo_makeTree_6 : xlk (xm_cd m_Mo_makeTree) 6 = some (.getfield 33, 3, (858, 11, 9, [])) := rfl
theorem l_Mo_makeTree_9 : xlk (xm_cd m_Mo_makeTree) 9 = some (.iload_n 3, 1, (0, 0, 0, [])) := rfl
theorem l_Mo_makeTree_10 : xlk (xm_cd m_Mo_makeTree) 10 = some (.iconst 0, 1, (0, 0, 0, [])) := rfl
theorem l_Mo_makeTree_11 : xlk (xm_cd m_Mo_makeTree) 11 = some (.iastore, 1, (0, 0, 0, [])) := rfl
theorem l_Mo_makeTree_12 : xlk (xm_cd m_Mo_makeTree) 12 = some (.iconst 0, 1, (0, 0, 0, [])) := rfl
theorem l_Mo_makeTree_13 : xlk (xm_cd m_Mo_makeTree) 13 = some (.istore 4, 2, (0, 0, 0, [])) := rfl
theorem l_Mo_makeTree_15 : xlk (xm_cd m_Mo_makeTree) 15 = some (.iconst 0, 1, (0, 0, 0, [])) := rfl
theorem l_Mo_makeTree_16 : xlk (xm_cd m_Mo_makeTree) 16 = some (.istore 5, 2, (0, 0, 0, [])) := rfl
theorem l_Mo_makeTree_18 : xlk (xm_cd m_Mo_makeTree) 18 = some (.iload 5, 2, (0, 0, 0, [])) := rfl
theorem l_Mo_makeTree_20 : xlk (xm_cd m_Mo_makeTree) 20 = some (.aload_n 0, 1, (0, 0, 0, [])) := rfl
theorem l_Mo_makeTree_21 : xlk (xm_cd m_Mo_makeTree) 21 = some (.getfield 33, 3, (858, 11, 9, [])) := rfl
theorem l_Mo_makeTree_24 : xlk (xm_cd m_Mo_makeTree) 24 = some (.iload_n 2, 1, (0, 0, 0, [])) := rfl
theorem l_Mo_makeTree_25 : xlk (xm_cd m_Mo_makeTree) 25 = some (.iaload, 1, (0, 0, 0, [])) := rfl
theorem l_Mo_makeTree_26 : xlk (xm_cd m_Mo_makeTree) 26 = some (.if_icmp .ge 52, 3, (0, 78, 0, [])) := rfl
theorem l_Mo_makeTree_29 : xlk (xm_cd m_Mo_makeTree) 29 = some (.iload_n 2, 1, (0, 0, 0, [])) := rfl
theorem l_Mo_makeTree_30 : xlk (xm_cd m_Mo_makeTree) 30 = some (.iload 5, 2, (0, 0, 0, [])) := rfl
theorem l_Mo_makeTree_32 : xlk (xm_cd m_Mo_makeTree) 32 = some (.invokestatic 155, 3, (971, 152, 2, [])) := rfl
theorem l_Mo_makeTree_35 : xlk (xm_cd m_Mo_makeTree) 35 = some (.istore 6, 2, (0, 0, 0, [])) := rfl
theorem l_Mo_makeTree_37 : xlk (xm_cd m_Mo_makeTree) 37 = some (.aload_n 0, 1, (0, 0, 0, [])) := rfl
theorem l_Mo_makeTree_38 : xlk (xm_cd m_Mo_makeTree) 38 = some (.iload_n 1, 1, (0, 0, 0, [])) := rfl
theorem l_Mo_makeTree_39 : xlk (xm_cd m_Mo_makeTree) 39 = some (.aload_n 0, 1, (0, 0, 0, [])) := rfl
theorem l_Mo_makeTree_40 : xlk (xm_cd m_Mo_makeTree) 40 = some (.getfield 20, 3, (854, 11, 5, [])) := rfl
theorem l_Mo_makeTree_43 : xlk (xm_cd m_Mo_makeTree) 43 = some (.bipush 18, 2, (0, 0, 0, [])) := rfl
theorem l_Mo_makeTree_45 : xlk (xm_cd m_Mo_makeTree) 45 = some (.iload 6, 2, (0, 0, 0, [])) := rfl
theorem l_Mo_makeTree_47 : xlk (xm_cd m_Mo_makeTree) 47 = some (.imul, 1, (0, 0, 0, [])) := rfl
theorem l_Mo_makeTree_48 : xlk (xm_cd m_Mo_makeTree) 48 = some (.aload_n 0, 1, (0, 0, 0, [])) := rfl
theorem l_Mo_makeTree_49 : xlk (xm_cd m_Mo_makeTree) 49 = some (.getfield 23, 3, (855, 11, 6, [])) := rfl
theorem l_Mo_makeTree_52 : xlk (xm_cd m_Mo_makeTree) 52 = some (.iload 6, 2, (0, 0, 0, [])) := rfl
theorem l_Mo_makeTree_54 : xlk (xm_cd m_Mo_makeTree) 54 = some (.iaload, 1, (0, 0, 0, [])) := rfl
theorem l_Mo_makeTree_55 : xlk (xm_cd m_Mo_makeTree) 55 = some (.invokevirtual 279, 3, (1113, 194, 4, [])) := rfl
theorem l_Mo_makeTree_58 : xlk (xm_cd m_Mo_makeTree) 58 = some (.ifCond .eq 8, 3, (0, 66, 0, [])) := rfl
theorem l_Mo_makeTree_61 : xlk (xm_cd m_Mo_makeTree) 61 = some (.iload 4, 2, (0, 0, 0, [])) := rfl
theorem l_Mo_makeTree_63 : xlk (xm_cd m_Mo_makeTree) 63 = some (.goto 7, 3, (0, 70, 0, [])) := rfl
theorem l_Mo_makeTree_66 : xlk (xm_cd m_Mo_makeTree) 66 = some (.iload 4, 2, (0, 0, 0, [])) := rfl
theorem l_Mo_makeTree_68 : xlk (xm_cd m_Mo_makeTree) 68 = some (.iconst 1, 1, (0, 0, 0, [])) := rfl
theorem l_Mo_makeTree_69 : xlk (xm_cd m_Mo_makeTree) 69 = some (.iadd, 1, (0, 0, 0, [])) := rfl
theorem l_Mo_makeTree_70 : xlk (xm_cd m_Mo_makeTree) 70 = some (.istore 4, 2, (0, 0, 0, [])) := rfl
theorem l_Mo_makeTree_72 : xlk (xm_cd m_Mo_makeTree) 72 = some (.iinc 5 1, 3, (0, 0, 0, [])) := rfl
theorem l_Mo_makeTree_75 : xlk (xm_cd m_Mo_makeTree) 75 = some (.goto (-57), 3, (0, 18, 0, [])) := rfl
theorem l_Mo_makeTree_78 : xlk (xm_cd m_Mo_makeTree) 78 = some (.iconst 0, 1, (0, 0, 0, [])) := rfl
theorem l_Mo_makeTree_79 : xlk (xm_cd m_Mo_makeTree) 79 = some (.istore 5, 2, (0, 0, 0, [])) := rfl
theorem l_Mo_makeTree_81 : xlk (xm_cd m_Mo_makeTree) 81 = some (.iload 5, 2, (0, 0, 0, [])) := rfl
theorem l_Mo_makeTree_83 : xlk (xm_cd m_Mo_makeTree) 83 = some (.aload_n 0, 1, (0, 0, 0, [])) := rfl
theorem l_Mo_makeTree_84 : xlk (xm_cd m_Mo_makeTree) 84 = some (.getfield 69, 3, (871, 11, 22, [])) := rfl
theorem l_Mo_makeTree_87 : xlk (xm_cd m_Mo_makeTree) 87 = some (.iload_n 1, 1, (0, 0, 0, [])) := rfl
theorem l_Mo_makeTree_88 : xlk (xm_cd m_Mo_makeTree) 88 = some (.iaload, 1, (0, 0, 0, [])) := rfl
theorem l_Mo_makeTree_89 : xlk (xm_cd m_Mo_makeTree) 89 = some (.if_icmp .ge 46, 3, (0, 135, 0, [])) := rfl
theorem l_Mo_makeTree_92 : xlk (xm_cd m_Mo_makeTree) 92 = some (.aload_n 0, 1, (0, 0, 0, [])) := rfl
theorem l_Mo_makeTree_93 : xlk (xm_cd m_Mo_makeTree) 93 = some (.getfield 87, 3, (880, 11, 31, [])) := rfl
theorem l_Mo_makeTree_96 : xlk (xm_cd m_Mo_makeTree) 96 = some (.iload 5, 2, (0, 0, 0, [])) := rfl
theorem l_Mo_makeTree_98 : xlk (xm_cd m_Mo_makeTree) 98 = some (.baload, 1, (0, 0, 0, [])) := rfl
theorem l_Mo_makeTree_99 : xlk (xm_cd m_Mo_makeTree) 99 = some (.ifCond .eq 26, 3, (0, 125, 0, [])) := rfl
theorem l_Mo_makeTree_102 : xlk (xm_cd m_Mo_makeTree) 102 = some (.aload_n 0, 1, (0, 0, 0, [])) := rfl
theorem l_Mo_makeTree_103 : xlk (xm_cd m_Mo_makeTree) 103 = some (.getfield 36, 3, (860, 11, 11, [])) := rfl
theorem l_Mo_makeTree_106 : xlk (xm_cd m_Mo_makeTree) 106 = some (.bipush 24, 2, (0, 0, 0, [])) := rfl
theorem l_Mo_makeTree_108 : xlk (xm_cd m_Mo_makeTree) 108 = some (.iload_n 1, 1, (0, 0, 0, [])) := rfl
theorem l_Mo_makeTree_109 : xlk (xm_cd m_Mo_makeTree) 109 = some (.imul, 1, (0, 0, 0, [])) := rfl
theorem l_Mo_makeTree_110 : xlk (xm_cd m_Mo_makeTree) 110 = some (.iload 5, 2, (0, 0, 0, [])) := rfl
theorem l_Mo_makeTree_112 : xlk (xm_cd m_Mo_makeTree) 112 = some (.iadd, 1, (0, 0, 0, [])) := rfl
theorem l_Mo_makeTree_113 : xlk (xm_cd m_Mo_makeTree) 113 = some (.iaload, 1, (0, 0, 0, [])) := rfl
theorem l_Mo_makeTree_114 : xlk (xm_cd m_Mo_makeTree) 114 = some (.iconst 1, 1, (0, 0, 0, [])) := rfl
theorem l_Mo_makeTree_115 : xlk (xm_cd m_Mo_makeTree) 115 = some (.if_icmp .eq 10, 3, (0, 125, 0, [])) := rfl
theorem l_Mo_makeTree_118 : xlk (xm_cd m_Mo_makeTree) 118 = some (.iload 4, 2, (0, 0, 0, [])) := rfl
theorem l_Mo_makeTree_120 : xlk (xm_cd m_Mo_makeTree) 120 = some (.iconst 1, 1, (0, 0, 0, [])) := rfl
theorem l_Mo_makeTree_121 : xlk (xm_cd m_Mo_makeTree) 121 = some (.iadd, 1, (0, 0, 0, [])) := rfl
theorem l_Mo_makeTree_122 : xlk (xm_cd m_Mo_makeTree) 122 = some (.goto 5, 3, (0, 127, 0, [])) := rfl
theorem l_Mo_makeTree_125 : xlk (xm_cd m_Mo_makeTree) 125 = some (.iload 4, 2, (0, 0, 0, [])) := rfl
theorem l_Mo_makeTree_127 : xlk (xm_cd m_Mo_makeTree) 127 = some (.istore 4, 2, (0, 0, 0, [])) := rfl
theorem l_Mo_makeTree_129 : xlk (xm_cd m_Mo_makeTree) 129 = some (.iinc 5 1, 3, (0, 0, 0, [])) := rfl
theorem l_Mo_makeTree_132 : xlk (xm_cd m_Mo_makeTree) 132 = some (.goto (-51), 3, (0, 81, 0, [])) := rfl
theorem l_Mo_makeTree_135 : xlk (xm_cd m_Mo_makeTree) 135 = some (.iload 4, 2, (0, 0, 0, [])) := rfl
theorem l_Mo_makeTree_137 : xlk (xm_cd m_Mo_makeTree) 137 = some (.bipush 10, 2, (0, 0, 0, [])) := rfl
theorem l_Mo_makeTree_139 : xlk (xm_cd m_Mo_makeTree) 139 = some (.if_icmp .le 5, 3, (0, 144, 0, [])) := rfl
theorem l_Mo_makeTree_142 : xlk (xm_cd m_Mo_makeTree) 142 = some (.iconst 0, 1, (0, 0, 0, [])) := rfl
theorem l_Mo_makeTree_143 : xlk (xm_cd m_Mo_makeTree) 143 = some (.ireturn, 1, (0, 0, 0, [])) := rfl
theorem l_Mo_makeTree_144 : xlk (xm_cd m_Mo_makeTree) 144 = some (.iconst 0, 1, (0, 0, 0, [])) := rfl
theorem l_Mo_makeTree_145 : xlk (xm_cd m_Mo_makeTree) 145 = some (.istore 5, 2, (0, 0, 0, [])) := rfl
theorem l_Mo_makeTree_147 : xlk (xm_cd m_Mo_makeTree) 147 = some (.iload 5, 2, (0, 0, 0, [])) := rfl
theorem l_Mo_makeTree_149 : xlk (xm_cd m_Mo_makeTree) 149 = some (.aload_n 0, 1, (0, 0, 0, [])) := rfl
theorem l_Mo_makeTree_150 : xlk (xm_cd m_Mo_makeTree) 150 = some (.getfield 33, 3, (858, 11, 9, [])) := rfl
theorem l_Mo_makeTree_153 : xlk (xm_cd m_Mo_makeTree) 153 = some (.iload_n 2, 1, (0, 0, 0, [])) := rfl
theorem l_Mo_makeTree_154 : xlk (xm_cd m_Mo_makeTree) 154 = some (.iaload, 1, (0, 0, 0, [])) := rfl
theorem l_Mo_makeTree_155 : xlk (xm_cd m_Mo_makeTree) 155 = some (.if_icmp .ge 78, 3, (0, 233, 0, [])) := rfl
theorem l_Mo_makeTree_158 : xlk (xm_cd m_Mo_makeTree) 158 = some (.iload_n 2, 1, (0, 0, 0, [])) := rfl
theorem l_Mo_makeTree_159 : xlk (xm_cd m_Mo_makeTree) 159 = some (.iload 5, 2, (0, 0, 0, [])) := rfl
theorem l_Mo_makeTree_161 : xlk (xm_cd m_Mo_makeTree) 161 = some (.invokestatic 155, 3, (971, 152, 2, [])) := rfl
theorem l_Mo_makeTree_164 : xlk (xm_cd m_Mo_makeTree) 164 = some (.istore 6, 2, (0, 0, 0, [])) := rfl
theorem l_Mo_makeTree_166 : xlk (xm_cd m_Mo_makeTree) 166 = some (.aload_n 0, 1, (0, 0, 0, [])) := rfl
theorem l_Mo_makeTree_167 : xlk (xm_cd m_Mo_makeTree) 167 = some (.iload_n 1, 1, (0, 0, 0, [])) := rfl
theorem l_Mo_makeTree_168 : xlk (xm_cd m_Mo_makeTree) 168 = some (.aload_n 0, 1, (0, 0, 0, [])) := rfl
theorem l_Mo_makeTree_169 : xlk (xm_cd m_Mo_makeTree) 169 = some (.getfield 20, 3, (854, 11, 5, [])) := rfl
theorem l_Mo_makeTree_172 : xlk (xm_cd m_Mo_makeTree) 172 = some (.bipush 18, 2, (0, 0, 0, [])) := rfl
theorem l_Mo_makeTree_174 : xlk (xm_cd m_Mo_makeTree) 174 = some (.iload 6, 2, (0, 0, 0, [])) := rfl
theorem l_Mo_makeTree_176 : xlk (xm_cd m_Mo_makeTree) 176 = some (.imul, 1, (0, 0, 0, [])) := rfl
theorem l_Mo_makeTree_177 : xlk (xm_cd m_Mo_makeTree) 177 = some (.aload_n 0, 1, (0, 0, 0, [])) := rfl
theorem l_Mo_makeTree_178 : xlk (xm_cd m_Mo_makeTree) 178 = some (.getfield 23, 3, (855, 11, 6, [])) := rfl
theorem l_Mo_makeTree_181 : xlk (xm_cd m_Mo_makeTree) 181 = some (.iload 6, 2, (0, 0, 0, [])) := rfl
theorem l_Mo_makeTree_183 : xlk (xm_cd m_Mo_makeTree) 183 = some (.iaload, 1, (0, 0, 0, [])) := rfl
theorem l_Mo_makeTree_184 : xlk (xm_cd m_Mo_makeTree) 184 = some (.invokevirtual 279, 3, (1113, 194, 4, [])) := rfl
theorem l_Mo_makeTree_187 : xlk (xm_cd m_Mo_makeTree) 187 = some (.ifCond .ne 40, 3, (0, 227, 0, [])) := rfl
theorem l_Mo_makeTree_190 : xlk (xm_cd m_Mo_makeTree) 190 = some (.aload_n 0, 1, (0, 0, 0, [])) := rfl
theorem l_Mo_makeTree_191 : xlk (xm_cd m_Mo_makeTree) 191 = some (.iload_n 3, 1, (0, 0, 0, [])) := rfl
theorem l_Mo_makeTree_192 : xlk (xm_cd m_Mo_makeTree) 192 = some (.aload_n 0, 1, (0, 0, 0, [])) := rfl
theorem l_Mo_makeTree_193 : xlk (xm_cd m_Mo_makeTree) 193 = some (.getfield 20, 3, (854, 11, 5, [])) := rfl
theorem l_Mo_makeTree_196 : xlk (xm_cd m_Mo_makeTree) 196 = some (.bipush 18, 2, (0, 0, 0, [])) := rfl
theorem l_Mo_makeTree_198 : xlk (xm_cd m_Mo_makeTree) 198 = some (.iload 6, 2, (0, 0, 0, [])) := rfl
theorem l_Mo_makeTree_200 : xlk (xm_cd m_Mo_makeTree) 200 = some (.imul, 1, (0, 0, 0, [])) := rfl
theorem l_Mo_makeTree_201 : xlk (xm_cd m_Mo_makeTree) 201 = some (.aload_n 0, 1, (0, 0, 0, [])) := rfl
theorem l_Mo_makeTree_202 : xlk (xm_cd m_Mo_makeTree) 202 = some (.getfield 23, 3, (855, 11, 6, [])) := rfl
theorem l_Mo_makeTree_205 : xlk (xm_cd m_Mo_makeTree) 205 = some (.iload 6, 2, (0, 0, 0, [])) := rfl
theorem l_Mo_makeTree_207 : xlk (xm_cd m_Mo_makeTree) 207 = some (.iaload, 1, (0, 0, 0, [])) := rfl
theorem l_Mo_makeTree_208 : xlk (xm_cd m_Mo_makeTree) 208 = some (.aload_n 0, 1, (0, 0, 0, [])) := rfl
theorem l_Mo_makeTree_209 : xlk (xm_cd m_Mo_makeTree) 209 = some (.getfield 27, 3, (856, 11, 7, [])) := rfl
theorem l_Mo_makeTree_212 : xlk (xm_cd m_Mo_makeTree) 212 = some (.bipush 48, 2, (0, 0, 0, [])) := rfl
theorem l_Mo_makeTree_214 : xlk (xm_cd m_Mo_makeTree) 214 = some (.iload 6, 2, (0, 0, 0, [])) := rfl
theorem l_Mo_makeTree_216 : xlk (xm_cd m_Mo_makeTree) 216 = some (.imul, 1, (0, 0, 0, [])) := rfl
theorem l_Mo_makeTree_217 : xlk (xm_cd m_Mo_makeTree) 217 = some (.aload_n 0, 1, (0, 0, 0, [])) := rfl
theorem l_Mo_makeTree_218 : xlk (xm_cd m_Mo_makeTree) 218 = some (.getfield 30, 3, (857, 11, 8, [])) := rfl
theorem l_Mo_makeTree_221 : xlk (xm_cd m_Mo_makeTree) 221 = some (.iload 6, 2, (0, 0, 0, [])) := rfl
theorem l_Mo_makeTree_223 : xlk (xm_cd m_Mo_makeTree) 223 = some (.iaload, 1, (0, 0, 0, [])) := rfl
theorem l_Mo_makeTree_224 : xlk (xm_cd m_Mo_makeTree) 224 = some (.invokevirtual 182, 3, (999, 161, 7, [])) := rfl
theorem l_Mo_makeTree_227 : xlk (xm_cd m_Mo_makeTree) 227 = some (.iinc 5 1, 3, (0, 0, 0, [])) := rfl
theorem l_Mo_makeTree_230 : xlk (xm_cd m_Mo_makeTree) 230 = some (.goto (-83), 3, (0, 147, 0, [])) := rfl
theorem l_Mo_makeTree_233 : xlk (xm_cd m_Mo_makeTree) 233 = some (.iconst 0, 1, (0, 0, 0, [])) := rfl
theorem l_Mo_makeTree_234 : xlk (xm_cd m_Mo_makeTree) 234 = some (.istore 5, 2, (0, 0, 0, [])) := rfl
theorem l_Mo_makeTree_236 : xlk (xm_cd m_Mo_makeTree) 236 = some (.iload 5, 2, (0, 0, 0, [])) := rfl
theorem l_Mo_makeTree_238 : xlk (xm_cd m_Mo_makeTree) 238 = some (.aload_n 0, 1, (0, 0, 0, [])) := rfl
theorem l_Mo_makeTree_239 : xlk (xm_cd m_Mo_makeTree) 239 = some (.getfield 69, 3, (871, 11, 22, [])) := rfl
theorem l_Mo_makeTree_242 : xlk (xm_cd m_Mo_makeTree) 242 = some (.iload_n 1, 1, (0, 0, 0, [])) := rfl
theorem l_Mo_makeTree_243 : xlk (xm_cd m_Mo_makeTree) 243 = some (.iaload, 1, (0, 0, 0, [])) := rfl
theorem l_Mo_makeTree_244 : xlk (xm_cd m_Mo_makeTree) 244 = some (.if_icmp .ge 112, 3, (0, 356, 0, [])) := rfl
theorem l_Mo_makeTree_247 : xlk (xm_cd m_Mo_makeTree) 247 = some (.bipush 24, 2, (0, 0, 0, [])) := rfl
theorem l_Mo_makeTree_249 : xlk (xm_cd m_Mo_makeTree) 249 = some (.iload_n 1, 1, (0, 0, 0, [])) := rfl
theorem l_Mo_makeTree_250 : xlk (xm_cd m_Mo_makeTree) 250 = some (.imul, 1, (0, 0, 0, [])) := rfl
theorem l_Mo_makeTree_251 : xlk (xm_cd m_Mo_makeTree) 251 = some (.iload 5, 2, (0, 0, 0, [])) := rfl
theorem l_Mo_makeTree_253 : xlk (xm_cd m_Mo_makeTree) 253 = some (.iadd, 1, (0, 0, 0, [])) := rfl
theorem l_Mo_makeTree_254 : xlk (xm_cd m_Mo_makeTree) 254 = some (.istore 6, 2, (0, 0, 0, [])) := rfl
theorem l_Mo_makeTree_256 : xlk (xm_cd m_Mo_makeTree) 256 = some (.aload_n 0, 1, (0, 0, 0, [])) := rfl
theorem l_Mo_makeTree_257 : xlk (xm_cd m_Mo_makeTree) 257 = some (.getfield 87, 3, (880, 11, 31, [])) := rfl
theorem l_Mo_makeTree_260 : xlk (xm_cd m_Mo_makeTree) 260 = some (.iload 5, 2, (0, 0, 0, [])) := rfl
theorem l_Mo_makeTree_262 : xlk (xm_cd m_Mo_makeTree) 262 = some (.baload, 1, (0, 0, 0, [])) := rfl
theorem l_Mo_makeTree_263 : xlk (xm_cd m_Mo_makeTree) 263 = some (.ifCond .eq 87, 3, (0, 350, 0, [])) := rfl
theorem l_Mo_makeTree_266 : xlk (xm_cd m_Mo_makeTree) 266 = some (.aload_n 0, 1, (0, 0, 0, [])) := rfl
theorem l_Mo_makeTree_267 : xlk (xm_cd m_Mo_makeTree) 267 = some (.getfield 36, 3, (860, 11, 11, [])) := rfl
theorem l_Mo_makeTree_270 : xlk (xm_cd m_Mo_makeTree) 270 = some (.iload 6, 2, (0, 0, 0, [])) := rfl
theorem l_Mo_makeTree_272 : xlk (xm_cd m_Mo_makeTree) 272 = some (.iaload, 1, (0, 0, 0, [])) := rfl
theorem l_Mo_makeTree_273 : xlk (xm_cd m_Mo_makeTree) 273 = some (.iconst 1, 1, (0, 0, 0, [])) := rfl
theorem l_Mo_makeTree_274 : xlk (xm_cd m_Mo_makeTree) 274 = some (.if_icmp .eq 76, 3, (0, 350, 0, [])) := rfl
theorem l_Mo_makeTree_277 : xlk (xm_cd m_Mo_makeTree) 277 = some (.aload_n 0, 1, (0, 0, 0, [])) := rfl
theorem l_Mo_makeTree_278 : xlk (xm_cd m_Mo_makeTree) 278 = some (.iload 6, 2, (0, 0, 0, [])) := rfl
theorem l_Mo_makeTree_280 : xlk (xm_cd m_Mo_makeTree) 280 = some (.iload_n 2, 1, (0, 0, 0, [])) := rfl
theorem l_Mo_makeTree_281 : xlk (xm_cd m_Mo_makeTree) 281 = some (.invokevirtual 272, 3, (1107, 192, 2, [])) := rfl
theorem l_Mo_makeTree_284 : xlk (xm_cd m_Mo_makeTree) 284 = some (.istore 7, 2, (0, 0, 0, [])) := rfl
theorem l_Mo_makeTree_286 : xlk (xm_cd m_Mo_makeTree) 286 = some (.aload_n 0, 1, (0, 0, 0, [])) := rfl
theorem l_Mo_makeTree_287 : xlk (xm_cd m_Mo_makeTree) 287 = some (.iload 6, 2, (0, 0, 0, [])) := rfl
theorem l_Mo_makeTree_289 : xlk (xm_cd m_Mo_makeTree) 289 = some (.aload_n 0, 1, (0, 0, 0, [])) := rfl
theorem l_Mo_makeTree_290 : xlk (xm_cd m_Mo_makeTree) 290 = some (.getfield 27, 3, (856, 11, 7, [])) := rfl
theorem l_Mo_makeTree_293 : xlk (xm_cd m_Mo_makeTree) 293 = some (.iload 7, 2, (0, 0, 0, [])) := rfl
theorem l_Mo_makeTree_295 : xlk (xm_cd m_Mo_makeTree) 295 = some (.bipush (-2), 2, (0, 0, 0, [])) := rfl
theorem l_Mo_makeTree_297 : xlk (xm_cd m_Mo_makeTree) 297 = some (.if_icmp .ne 7, 3, (0, 304, 0, [])) := rfl
theorem l_Mo_makeTree_300 : xlk (xm_cd m_Mo_makeTree) 300 = some (.iconst 0, 1, (0, 0, 0, [])) := rfl
theorem l_Mo_makeTree_301 : xlk (xm_cd m_Mo_makeTree) 301 = some (.goto 12, 3, (0, 313, 0, [])) := rfl
theorem l_Mo_makeTree_304 : xlk (xm_cd m_Mo_makeTree) 304 = some (.bipush 48, 2, (0, 0, 0, [])) := rfl
theorem l_Mo_makeTree_306 : xlk (xm_cd m_Mo_makeTree) 306 = some (.iload_n 2, 1, (0, 0, 0, [])) := rfl
theorem l_Mo_makeTree_307 : xlk (xm_cd m_Mo_makeTree) 307 = some (.iload 7, 2, (0, 0, 0, [])) := rfl
theorem l_Mo_makeTree_309 : xlk (xm_cd m_Mo_makeTree) 309 = some (.invokestatic 155, 3, (971, 152, 2, [])) := rfl
theorem l_Mo_makeTree_312 : xlk (xm_cd m_Mo_makeTree) 312 = some (.imul, 1, (0, 0, 0, [])) := rfl
theorem l_Mo_makeTree_313 : xlk (xm_cd m_Mo_makeTree) 313 = some (.iconst 0, 1, (0, 0, 0, [])) := rfl
theorem l_Mo_makeTree_314 : xlk (xm_cd m_Mo_makeTree) 314 = some (.invokevirtual 275, 3, (1110, 193, 4, [])) := rfl
theorem l_Mo_makeTree_317 : xlk (xm_cd m_Mo_makeTree) 317 = some (.aload_n 0, 1, (0, 0, 0, [])) := rfl
theorem l_Mo_makeTree_318 : xlk (xm_cd m_Mo_makeTree) 318 = some (.iload_n 3, 1, (0, 0, 0, [])) := rfl
theorem l_Mo_makeTree_319 : xlk (xm_cd m_Mo_makeTree) 319 = some (.aload_n 0, 1, (0, 0, 0, [])) := rfl
theorem l_Mo_makeTree_320 : xlk (xm_cd m_Mo_makeTree) 320 = some (.getfield 39, 3, (861, 11, 12, [])) := rfl
theorem l_Mo_makeTree_323 : xlk (xm_cd m_Mo_makeTree) 323 = some (.bipush 18, 2, (0, 0, 0, [])) := rfl
theorem l_Mo_makeTree_325 : xlk (xm_cd m_Mo_makeTree) 325 = some (.iload 6, 2, (0, 0, 0, [])) := rfl
theorem l_Mo_makeTree_327 : xlk (xm_cd m_Mo_makeTree) 327 = some (.imul, 1, (0, 0, 0, [])) := rfl
theorem l_Mo_makeTree_328 : xlk (xm_cd m_Mo_makeTree) 328 = some (.aload_n 0, 1, (0, 0, 0, [])) := rfl
theorem l_Mo_makeTree_329 : xlk (xm_cd m_Mo_makeTree) 329 = some (.getfield 42, 3, (862, 11, 13, [])) := rfl
theorem l_Mo_makeTree_332 : xlk (xm_cd m_Mo_makeTree) 332 = some (.iload 6, 2, (0, 0, 0, [])) := rfl
theorem l_Mo_makeTree_334 : xlk (xm_cd m_Mo_makeTree) 334 = some (.iaload, 1, (0, 0, 0, [])) := rfl
theorem l_Mo_makeTree_335 : xlk (xm_cd m_Mo_makeTree) 335 = some (.aload_n 0, 1, (0, 0, 0, [])) := rfl
theorem l_Mo_makeTree_336 : xlk (xm_cd m_Mo_makeTree) 336 = some (.getfield 97, 3, (884, 11, 35, [])) := rfl
theorem l_Mo_makeTree_339 : xlk (xm_cd m_Mo_makeTree) 339 = some (.iconst 0, 1, (0, 0, 0, [])) := rfl
theorem l_Mo_makeTree_340 : xlk (xm_cd m_Mo_makeTree) 340 = some (.aload_n 0, 1, (0, 0, 0, [])) := rfl
theorem l_Mo_makeTree_341 : xlk (xm_cd m_Mo_makeTree) 341 = some (.getfield 57, 3, (867, 11, 18, [])) := rfl
theorem l_Mo_makeTree_344 : xlk (xm_cd m_Mo_makeTree) 344 = some (.iload 6, 2, (0, 0, 0, [])) := rfl
theorem l_Mo_makeTree_346 : xlk (xm_cd m_Mo_makeTree) 346 = some (.iaload, 1, (0, 0, 0, [])) := rfl
theorem l_Mo_makeTree_347 : xlk (xm_cd m_Mo_makeTree) 347 = some (.invokevirtual 182, 3, (999, 161, 7, [])) := rfl
theorem l_Mo_makeTree_350 : xlk (xm_cd m_Mo_makeTree) 350 = some (.iinc 5 1, 3, (0, 0, 0, [])) := rfl
theorem l_Mo_makeTree_353 : xlk (xm_cd m_Mo_makeTree) 353 = some (.goto (-117), 3, (0, 236, 0, [])) := rfl
theorem l_Mo_makeTree_356 : xlk (xm_cd m_Mo_makeTree) 356 = some (.iconst 1, 1, (0, 0, 0, [])) := rfl
theorem l_Mo_makeTree_357 : xlk (xm_cd m_Mo_makeTree) 357 = some (.istore 5, 2, (0, 0, 0, [])) := rfl
theorem l_Mo_makeTree_359 : xlk (xm_cd m_Mo_makeTree) 359 = some (.iconst 0, 1, (0, 0, 0, [])) := rfl
theorem l_Mo_makeTree_360 : xlk (xm_cd m_Mo_makeTree) 360 = some (.istore 6, 2, (0, 0, 0, [])) := rfl
theorem l_Mo_makeTree_362 : xlk (xm_cd m_Mo_makeTree) 362 = some (.iload 6, 2, (0, 0, 0, [])) := rfl
theorem l_Mo_makeTree_364 : xlk (xm_cd m_Mo_makeTree) 364 = some (.aload_n 0, 1, (0, 0, 0, [])) := rfl
theorem l_Mo_makeTree_365 : xlk (xm_cd m_Mo_makeTree) 365 = some (.getfield 33, 3, (858, 11, 9, [])) := rfl
theorem l_Mo_makeTree_368 : xlk (xm_cd m_Mo_makeTree) 368 = some (.iload_n 3, 1, (0, 0, 0, [])) := rfl
theorem l_Mo_makeTree_369 : xlk (xm_cd m_Mo_makeTree) 369 = some (.iaload, 1, (0, 0, 0, [])) := rfl
theorem l_Mo_makeTree_370 : xlk (xm_cd m_Mo_makeTree) 370 = some (.if_icmp .ge 53, 3, (0, 423, 0, [])) := rfl
theorem l_Mo_makeTree_373 : xlk (xm_cd m_Mo_makeTree) 373 = some (.iload_n 3, 1, (0, 0, 0, [])) := rfl
theorem l_Mo_makeTree_374 : xlk (xm_cd m_Mo_makeTree) 374 = some (.iload 6, 2, (0, 0, 0, [])) := rfl
theorem l_Mo_makeTree_376 : xlk (xm_cd m_Mo_makeTree) 376 = some (.invokestatic 155, 3, (971, 152, 2, [])) := rfl
theorem l_Mo_makeTree_379 : xlk (xm_cd m_Mo_makeTree) 379 = some (.istore 7, 2, (0, 0, 0, [])) := rfl
theorem l_Mo_makeTree_381 : xlk (xm_cd m_Mo_makeTree) 381 = some (.iload 5, 2, (0, 0, 0, [])) := rfl
theorem l_Mo_makeTree_383 : xlk (xm_cd m_Mo_makeTree) 383 = some (.ifCond .eq 31, 3, (0, 414, 0, [])) := rfl
theorem l_Mo_makeTree_386 : xlk (xm_cd m_Mo_makeTree) 386 = some (.aload_n 0, 1, (0, 0, 0, [])) := rfl
theorem l_Mo_makeTree_387 : xlk (xm_cd m_Mo_makeTree) 387 = some (.iload_n 3, 1, (0, 0, 0, [])) := rfl
theorem l_Mo_makeTree_388 : xlk (xm_cd m_Mo_makeTree) 388 = some (.aload_n 0, 1, (0, 0, 0, [])) := rfl
theorem l_Mo_makeTree_389 : xlk (xm_cd m_Mo_makeTree) 389 = some (.getfield 20, 3, (854, 11, 5, [])) := rfl
theorem l_Mo_makeTree_392 : xlk (xm_cd m_Mo_makeTree) 392 = some (.bipush 18, 2, (0, 0, 0, [])) := rfl
theorem l_Mo_makeTree_394 : xlk (xm_cd m_Mo_makeTree) 394 = some (.iload 7, 2, (0, 0, 0, [])) := rfl
theorem l_Mo_makeTree_396 : xlk (xm_cd m_Mo_makeTree) 396 = some (.imul, 1, (0, 0, 0, [])) := rfl
theorem l_Mo_makeTree_397 : xlk (xm_cd m_Mo_makeTree) 397 = some (.aload_n 0, 1, (0, 0, 0, [])) := rfl
theorem l_Mo_makeTree_398 : xlk (xm_cd m_Mo_makeTree) 398 = some (.getfield 23, 3, (855, 11, 6, [])) := rfl
theorem l_Mo_makeTree_401 : xlk (xm_cd m_Mo_makeTree) 401 = some (.iload 7, 2, (0, 0, 0, [])) := rfl
theorem l_Mo_makeTree_403 : xlk (xm_cd m_Mo_makeTree) 403 = some (.iaload, 1, (0, 0, 0, [])) := rfl
theorem l_Mo_makeTree_404 : xlk (xm_cd m_Mo_makeTree) 404 = some (.invokevirtual 178, 3, (990, 158, 4, [])) := rfl
theorem l_Mo_makeTree_407 : xlk (xm_cd m_Mo_makeTree) 407 = some (.ifCond .ne 7, 3, (0, 414, 0, [])) := rfl
theorem l_Mo_makeTree_410 : xlk (xm_cd m_Mo_makeTree) 410 = some (.iconst 1, 1, (0, 0, 0, [])) := rfl
theorem l_Mo_makeTree_411 : xlk (xm_cd m_Mo_makeTree) 411 = some (.goto 4, 3, (0, 415, 0, [])) := rfl
theorem l_Mo_makeTree_414 : xlk (xm_cd m_Mo_makeTree) 414 = some (.iconst 0, 1, (0, 0, 0, [])) := rfl
theorem l_Mo_makeTree_415 : xlk (xm_cd m_Mo_makeTree) 415 = some (.istore 5, 2, (0, 0, 0, [])) := rfl
theorem l_Mo_makeTree_417 : xlk (xm_cd m_Mo_makeTree) 417 = some (.iinc 6 1, 3, (0, 0, 0, [])) := rfl
theorem l_Mo_makeTree_420 : xlk (xm_cd m_Mo_makeTree) 420 = some (.goto (-58), 3, (0, 362, 0, [])) := rfl
theorem l_Mo_makeTree_423 : xlk (xm_cd m_Mo_makeTree) 423 = some (.iload 5, 2, (0, 0, 0, [])) := rfl
theorem l_Mo_makeTree_425 : xlk (xm_cd m_Mo_makeTree) 425 = some (.ireturn, 1, (0, 0, 0, [])) := rfl
def B_Mo_makeTree_0 (d : Nat) (E : Option Value → xH → Prop) (f : xH) (a0 : Nat) (x1 : Int32) (x2 : Int32) : Prop :=
  xgi f a0 11 10 (fun v1 => xgr f a0 11 9 (fun r2 => xas f r2 0 v1 0 (fun f3 => xWp (xT0, xSp xT0 d, none, m_Mo_makeTree, E) 18 [some (.ref a0), some (.int x1), some (.int x2), some (.int v1), some (.int 0), some (.int 0), none, none] [] f3 0 0)))
theorem b_Mo_makeTree_0 {d : Nat} {E : Option Value → xH → Prop} {f : xH} {a0 : Nat} {x1 : Int32} {x2 : Int32} (h : B_Mo_makeTree_0 d E f a0 x1 x2) : xWp (xT0, xSp xT0 d, none, m_Mo_makeTree, E) 0 [some (.ref a0), some (.int x1), some (.int x2), none, none, none, none, none] [] f 0 0 := by
  unfold B_Mo_makeTree_0 at h
  refine s_aln l_Mo_makeTree_0 rfl ?_
  refine s_gi l_Mo_makeTree_1 h (fun v1 h => ?_)
  refine s_isn l_Mo_makeTree_4 (Nat.le_of_ble_eq_true rfl) ?_
  refine s_aln l_Mo_makeTree_5 rfl ?_
  refine s_gr l_Mo_makeTree_6 h (fun r2 h => ?_)
  refine s_iln l_Mo_makeTree_9 rfl ?_
  refine s_ic 0 l_Mo_makeTree_10 rfl ?_
  refine s_iast l_Mo_makeTree_11 h (fun f3 h => ?_)
  refine s_ic 0 l_Mo_makeTree_12 rfl ?_
  refine s_is l_Mo_makeTree_13 (Nat.le_of_ble_eq_true rfl) ?_
  refine s_ic 0 l_Mo_makeTree_15 rfl ?_
  refine s_is l_Mo_makeTree_16 (Nat.le_of_ble_eq_true rfl) ?_
  exact h
def B_Mo_makeTree_18 (d : Nat) (E : Option Value → xH → Prop) (f : xH) (a0 : Nat) (x1 : Int32) (x2 : Int32) (x3 : Int32) (x4 : Int32) (x5 : Int32) (u6 : Option Value) (u7 : Option Value) : Prop :=
  xgr f a0 11 9 (fun r1 => xal f r1 0 x2 (fun v2 => xbr (v2 ≤ x5) (xWp (xT0, xSp xT0 d, none, m_Mo_makeTree, E) 81 [some (.ref a0), some (.int x1), some (.int x2), some (.int x3), some (.int x4), some (.int 0), u6, u7] [] f 0 0) (xSp xT0 d j_Mo_at [.int x2, .int x5] f (fun w3 f4 => xvi w3 (fun v5 => xgr f4 a0 11 5 (fun r6 => xgr f4 a0 11 6 (fun r7 => xal f4 r7 0 v5 (fun v8 => (∃ fs, f4 a0 = some (xO 11 fs)) ∧ xSp xT0 d j_Mo_isSource [.ref a0, .int x1, .ref r6, .int (18 * v5), .int v8] f4 (fun w9 f10 => xvi w9 (fun v11 => xbr (v11 = 0) (xWp (xT0, xSp xT0 d, none, m_Mo_makeTree, E) 18 [some (.ref a0), some (.int x1), some (.int x2), some (.int x3), some (.int (x4 + 1)), some (.int (x5 + 1)), some (.int v5), u7] [] f10 0 0) (xWp (xT0, xSp xT0 d, none, m_Mo_makeTree, E) 18 [some (.ref a0), some (.int x1), some (.int x2), some (.int x3), some (.int x4), some (.int (x5 + 1)), some (.int v5), u7] [] f10 0 0)))))))))))
theorem b_Mo_makeTree_18 {d : Nat} {E : Option Value → xH → Prop} {f : xH} {a0 : Nat} {x1 : Int32} {x2 : Int32} {x3 : Int32} {x4 : Int32} {x5 : Int32} {u6 : Option Value} {u7 : Option Value} (h : B_Mo_makeTree_18 d E f a0 x1 x2 x3 x4 x5 u6 u7) : xWp (xT0, xSp xT0 d, none, m_Mo_makeTree, E) 18 [some (.ref a0), some (.int x1), some (.int x2), some (.int x3), some (.int x4), some (.int x5), u6, u7] [] f 0 0 := by
  unfold B_Mo_makeTree_18 at h
  refine s_il l_Mo_makeTree_18 rfl ?_
  refine s_aln l_Mo_makeTree_20 rfl ?_
  refine s_gr l_Mo_makeTree_21 h (fun r1 h => ?_)
  refine s_iln l_Mo_makeTree_24 rfl ?_
  refine s_ial l_Mo_makeTree_25 rfl h (fun v2 h => ?_)
  refine s_ifc l_Mo_makeTree_26 h (fun h => ?_) (fun h => ?_)
  · refine s_ic 0 l_Mo_makeTree_78 rfl ?_
    refine s_is l_Mo_makeTree_79 (Nat.le_of_ble_eq_true rfl) ?_
    exact h
  · refine s_iln l_Mo_makeTree_29 rfl ?_
    refine s_il l_Mo_makeTree_30 rfl ?_
    refine s_csi (As := [.int x2, .int x5]) (r := []) l_Mo_makeTree_32 rfl ⟨rfl, rfl⟩ rfl (Nat.le_of_ble_eq_true rfl) rfl ⟨Nat.zero_le _, Nat.zero_le _⟩ h (fun v5 f4 h => ?_)
    refine s_is l_Mo_makeTree_35 (Nat.le_of_ble_eq_true rfl) ?_
    refine s_aln l_Mo_makeTree_37 rfl ?_
    refine s_iln l_Mo_makeTree_38 rfl ?_
    refine s_aln l_Mo_makeTree_39 rfl ?_
    refine s_gr l_Mo_makeTree_40 h (fun r6 h => ?_)
    refine s_bp 18 l_Mo_makeTree_43 rfl ?_
    refine s_il l_Mo_makeTree_45 rfl ?_
    refine s_imul l_Mo_makeTree_47 ?_
    refine s_aln l_Mo_makeTree_48 rfl ?_
    refine s_gr l_Mo_makeTree_49 h (fun r7 h => ?_)
    refine s_il l_Mo_makeTree_52 rfl ?_
    refine s_ial l_Mo_makeTree_54 rfl h (fun v8 h => ?_)
    refine s_cvi (As := [.int x1, .ref r6, .int (18 * v5), .int v8]) (r := []) l_Mo_makeTree_55 rfl ⟨rfl, rfl⟩ rfl (Nat.le_of_ble_eq_true rfl) rfl ⟨Nat.zero_le _, Nat.zero_le _⟩ h (fun v11 f10 h => ?_)
    refine s_if l_Mo_makeTree_58 h (fun h => ?_) (fun h => ?_)
    · refine s_il l_Mo_makeTree_66 rfl ?_
      refine s_ic 1 l_Mo_makeTree_68 rfl ?_
      refine s_iadd l_Mo_makeTree_69 ?_
      refine s_is l_Mo_makeTree_70 (Nat.le_of_ble_eq_true rfl) ?_
      refine s_inc 1 l_Mo_makeTree_72 rfl rfl ?_
      refine s_goto l_Mo_makeTree_75 ?_
      exact h
    · refine s_il l_Mo_makeTree_61 rfl ?_
      refine s_goto l_Mo_makeTree_63 ?_
      refine s_is l_Mo_makeTree_70 (Nat.le_of_ble_eq_true rfl) ?_
      refine s_inc 1 l_Mo_makeTree_72 rfl rfl ?_
      refine s_goto l_Mo_makeTree_75 ?_
      exact h
def B_Mo_makeTree_81 (d : Nat) (E : Option Value → xH → Prop) (f : xH) (a0 : Nat) (x1 : Int32) (x2 : Int32) (x3 : Int32) (x4 : Int32) (x5 : Int32) (u6 : Option Value) (u7 : Option Value) : Prop :=
  xgr f a0 11 22 (fun r1 => xal f r1 0 x1 (fun v2 => xbr (v2 ≤ x5) (xbr (x4 ≤ 10) (xWp (xT0, xSp xT0 d, none, m_Mo_makeTree, E) 147 [some (.ref a0), some (.int x1), some (.int x2), some (.int x3), some (.int x4), some (.int 0), u6, u7] [] f 0 0) (E (some (.int 0)) f)) (xgr f a0 11 31 (fun r3 => xal f r3 1 x5 (fun v4 => xbr (v4 = 0) (xWp (xT0, xSp xT0 d, none, m_Mo_makeTree, E) 81 [some (.ref a0), some (.int x1), some (.int x2), some (.int x3), some (.int x4), some (.int (x5 + 1)), u6, u7] [] f 0 0) (xgr f a0 11 11 (fun r5 => xal f r5 0 ((24 * x1) + x5) (fun v6 => xbr (v6 = 1) (xWp (xT0, xSp xT0 d, none, m_Mo_makeTree, E) 81 [some (.ref a0), some (.int x1), some (.int x2), some (.int x3), some (.int x4), some (.int (x5 + 1)), u6, u7] [] f 0 0) (xWp (xT0, xSp xT0 d, none, m_Mo_makeTree, E) 81 [some (.ref a0), some (.int x1), some (.int x2), some (.int x3), some (.int (x4 + 1)), some (.int (x5 + 1)), u6, u7] [] f 0 0)))))))))
theorem b_Mo_makeTree_81 {d : Nat} {E : Option Value → xH → Prop} {f : xH} {a0 : Nat} {x1 : Int32} {x2 : Int32} {x3 : Int32} {x4 : Int32} {x5 : Int32} {u6 : Option Value} {u7 : Option Value} (h : B_Mo_makeTree_81 d E f a0 x1 x2 x3 x4 x5 u6 u7) : xWp (xT0, xSp xT0 d, none, m_Mo_makeTree, E) 81 [some (.ref a0), some (.int x1), some (.int x2), some (.int x3), some (.int x4), some (.int x5), u6, u7] [] f 0 0 := by
  unfold B_Mo_makeTree_81 at h
  refine s_il l_Mo_makeTree_81 rfl ?_
  refine s_aln l_Mo_makeTree_83 rfl ?_
  refine s_gr l_Mo_makeTree_84 h (fun r1 h => ?_)
  refine s_iln l_Mo_makeTree_87 rfl ?_
  refine s_ial l_Mo_makeTree_88 rfl h (fun v2 h => ?_)
  refine s_ifc l_Mo_makeTree_89 h (fun h => ?_) (fun h => ?_)
  · refine s_il l_Mo_makeTree_135 rfl ?_
    refine s_bp 10 l_Mo_makeTree_137 rfl ?_
    refine s_ifc l_Mo_makeTree_139 h (fun h => ?_) (fun h => ?_)
    · refine s_ic 0 l_Mo_makeTree_144 rfl ?_
      refine s_is l_Mo_makeTree_145 (Nat.le_of_ble_eq_true rfl) ?_
      exact h
    · refine s_ic 0 l_Mo_makeTree_142 rfl ?_
      exact s_zret l_Mo_makeTree_143 rfl ⟨Nat.zero_le _, Nat.zero_le _⟩ ⟨Or.inl rfl, h⟩
  · refine s_aln l_Mo_makeTree_92 rfl ?_
    refine s_gr l_Mo_makeTree_93 h (fun r3 h => ?_)
    refine s_il l_Mo_makeTree_96 rfl ?_
    refine s_bal l_Mo_makeTree_98 (Or.inl rfl) h (fun v4 h => ?_)
    refine s_if l_Mo_makeTree_99 h (fun h => ?_) (fun h => ?_)
    · refine s_il l_Mo_makeTree_125 rfl ?_
      refine s_is l_Mo_makeTree_127 (Nat.le_of_ble_eq_true rfl) ?_
      refine s_inc 1 l_Mo_makeTree_129 rfl rfl ?_
      refine s_goto l_Mo_makeTree_132 ?_
      exact h
    · refine s_aln l_Mo_makeTree_102 rfl ?_
      refine s_gr l_Mo_makeTree_103 h (fun r5 h => ?_)
      refine s_bp 24 l_Mo_makeTree_106 rfl ?_
      refine s_iln l_Mo_makeTree_108 rfl ?_
      refine s_imul l_Mo_makeTree_109 ?_
      refine s_il l_Mo_makeTree_110 rfl ?_
      refine s_iadd l_Mo_makeTree_112 ?_
      refine s_ial l_Mo_makeTree_113 rfl h (fun v6 h => ?_)
      refine s_ic 1 l_Mo_makeTree_114 rfl ?_
      refine s_ifc l_Mo_makeTree_115 h (fun h => ?_) (fun h => ?_)
      · refine s_il l_Mo_makeTree_125 rfl ?_
        refine s_is l_Mo_makeTree_127 (Nat.le_of_ble_eq_true rfl) ?_
        refine s_inc 1 l_Mo_makeTree_129 rfl rfl ?_
        refine s_goto l_Mo_makeTree_132 ?_
        exact h
      · refine s_il l_Mo_makeTree_118 rfl ?_
        refine s_ic 1 l_Mo_makeTree_120 rfl ?_
        refine s_iadd l_Mo_makeTree_121 ?_
        refine s_goto l_Mo_makeTree_122 ?_
        refine s_is l_Mo_makeTree_127 (Nat.le_of_ble_eq_true rfl) ?_
        refine s_inc 1 l_Mo_makeTree_129 rfl rfl ?_
        refine s_goto l_Mo_makeTree_132 ?_
        exact h
def B_Mo_makeTree_147 (d : Nat) (E : Option Value → xH → Prop) (f : xH) (a0 : Nat) (x1 : Int32) (x2 : Int32) (x3 : Int32) (x4 : Int32) (x5 : Int32) (u6 : Option Value) (u7 : Option Value) : Prop :=
  xgr f a0 11 9 (fun r1 => xal f r1 0 x2 (fun v2 => xbr (v2 ≤ x5) (xWp (xT0, xSp xT0 d, none, m_Mo_makeTree, E) 236 [some (.ref a0), some (.int x1), some (.int x2), some (.int x3), some (.int x4), some (.int 0), u6, u7] [] f 0 0) (xSp xT0 d j_Mo_at [.int x2, .int x5] f (fun w3 f4 => xvi w3 (fun v5 => xgr f4 a0 11 5 (fun r6 => xgr f4 a0 11 6 (fun r7 => xal f4 r7 0 v5 (fun v8 => (∃ fs, f4 a0 = some (xO 11 fs)) ∧ xSp xT0 d j_Mo_isSource [.ref a0, .int x1, .ref r6, .int (18 * v5), .int v8] f4 (fun w9 f10 => xvi w9 (fun v11 => xbr (¬ v11 = 0) (xWp (xT0, xSp xT0 d, none, m_Mo_makeTree, E) 147 [some (.ref a0), some (.int x1), some (.int x2), some (.int x3), some (.int x4), some (.int (x5 + 1)), some (.int v5), u7] [] f10 0 0) (xgr f10 a0 11 5 (fun r12 => xgr f10 a0 11 6 (fun r13 => xal f10 r13 0 v5 (fun v14 => xgr f10 a0 11 7 (fun r15 => xgr f10 a0 11 8 (fun r16 => xal f10 r16 0 v5 (fun v17 => (∃ fs, f10 a0 = some (xO 11 fs)) ∧ xSp xT0 d j_Mo_addFile [.ref a0, .int x3, .ref r12, .int (18 * v5), .int v14, .ref r15, .int (48 * v5), .int v17] f10 (fun w18 f19 => xvv w18 (xWp (xT0, xSp xT0 d, none, m_Mo_makeTree, E) 147 [some (.ref a0), some (.int x1), some (.int x2), some (.int x3), some (.int x4), some (.int (x5 + 1)), some (.int v5), u7] [] f19 0 0)))))))))))))))))))
theorem b_Mo_makeTree_147 {d : Nat} {E : Option Value → xH → Prop} {f : xH} {a0 : Nat} {x1 : Int32} {x2 : Int32} {x3 : Int32} {x4 : Int32} {x5 : Int32} {u6 : Option Value} {u7 : Option Value} (h : B_Mo_makeTree_147 d E f a0 x1 x2 x3 x4 x5 u6 u7) : xWp (xT0, xSp xT0 d, none, m_Mo_makeTree, E) 147 [some (.ref a0), some (.int x1), some (.int x2), some (.int x3), some (.int x4), some (.int x5), u6, u7] [] f 0 0 := by
  unfold B_Mo_makeTree_147 at h
  refine s_il l_Mo_makeTree_147 rfl ?_
  refine s_aln l_Mo_makeTree_149 rfl ?_
  refine s_gr l_Mo_makeTree_150 h (fun r1 h => ?_)
  refine s_iln l_Mo_makeTree_153 rfl ?_
  refine s_ial l_Mo_makeTree_154 rfl h (fun v2 h => ?_)
  refine s_ifc l_Mo_makeTree_155 h (fun h => ?_) (fun h => ?_)
  · refine s_ic 0 l_Mo_makeTree_233 rfl ?_
    refine s_is l_Mo_makeTree_234 (Nat.le_of_ble_eq_true rfl) ?_
    exact h
  · refine s_iln l_Mo_makeTree_158 rfl ?_
    refine s_il l_Mo_makeTree_159 rfl ?_
    refine s_csi (As := [.int x2, .int x5]) (r := []) l_Mo_makeTree_161 rfl ⟨rfl, rfl⟩ rfl (Nat.le_of_ble_eq_true rfl) rfl ⟨Nat.zero_le _, Nat.zero_le _⟩ h (fun v5 f4 h => ?_)
    refine s_is l_Mo_makeTree_164 (Nat.le_of_ble_eq_true rfl) ?_
    refine s_aln l_Mo_makeTree_166 rfl ?_
    refine s_iln l_Mo_makeTree_167 rfl ?_
    refine s_aln l_Mo_makeTree_168 rfl ?_
    refine s_gr l_Mo_makeTree_169 h (fun r6 h => ?_)
    refine s_bp 18 l_Mo_makeTree_172 rfl ?_
    refine s_il l_Mo_makeTree_174 rfl ?_
    refine s_imul l_Mo_makeTree_176 ?_
    refine s_aln l_Mo_makeTree_177 rfl ?_
    refine s_gr l_Mo_makeTree_178 h (fun r7 h => ?_)
    refine s_il l_Mo_makeTree_181 rfl ?_
    refine s_ial l_Mo_makeTree_183 rfl h (fun v8 h => ?_)
    refine s_cvi (As := [.int x1, .ref r6, .int (18 * v5), .int v8]) (r := []) l_Mo_makeTree_184 rfl ⟨rfl, rfl⟩ rfl (Nat.le_of_ble_eq_true rfl) rfl ⟨Nat.zero_le _, Nat.zero_le _⟩ h (fun v11 f10 h => ?_)
    refine s_if l_Mo_makeTree_187 h (fun h => ?_) (fun h => ?_)
    · refine s_inc 1 l_Mo_makeTree_227 rfl rfl ?_
      refine s_goto l_Mo_makeTree_230 ?_
      exact h
    · refine s_aln l_Mo_makeTree_190 rfl ?_
      refine s_iln l_Mo_makeTree_191 rfl ?_
      refine s_aln l_Mo_makeTree_192 rfl ?_
      refine s_gr l_Mo_makeTree_193 h (fun r12 h => ?_)
      refine s_bp 18 l_Mo_makeTree_196 rfl ?_
      refine s_il l_Mo_makeTree_198 rfl ?_
      refine s_imul l_Mo_makeTree_200 ?_
      refine s_aln l_Mo_makeTree_201 rfl ?_
      refine s_gr l_Mo_makeTree_202 h (fun r13 h => ?_)
      refine s_il l_Mo_makeTree_205 rfl ?_
      refine s_ial l_Mo_makeTree_207 rfl h (fun v14 h => ?_)
      refine s_aln l_Mo_makeTree_208 rfl ?_
      refine s_gr l_Mo_makeTree_209 h (fun r15 h => ?_)
      refine s_bp 48 l_Mo_makeTree_212 rfl ?_
      refine s_il l_Mo_makeTree_214 rfl ?_
      refine s_imul l_Mo_makeTree_216 ?_
      refine s_aln l_Mo_makeTree_217 rfl ?_
      refine s_gr l_Mo_makeTree_218 h (fun r16 h => ?_)
      refine s_il l_Mo_makeTree_221 rfl ?_
      refine s_ial l_Mo_makeTree_223 rfl h (fun v17 h => ?_)
      refine s_cvv (As := [.int x3, .ref r12, .int (18 * v5), .int v14, .ref r15, .int (48 * v5), .int v17]) (r := []) l_Mo_makeTree_224 rfl ⟨rfl, rfl⟩ rfl (Nat.le_of_ble_eq_true rfl) rfl ⟨Nat.zero_le _, Nat.zero_le _⟩ h (fun f19 h => ?_)
      refine s_inc 1 l_Mo_makeTree_227 rfl rfl ?_
      refine s_goto l_Mo_makeTree_230 ?_
      exact h
def B_Mo_makeTree_236 (d : Nat) (E : Option Value → xH → Prop) (f : xH) (a0 : Nat) (x1 : Int32) (x2 : Int32) (x3 : Int32) (x4 : Int32) (x5 : Int32) (u6 : Option Value) (u7 : Option Value) : Prop :=
  xgr f a0 11 22 (fun r1 => xal f r1 0 x1 (fun v2 => xbr (v2 ≤ x5) (xWp (xT0, xSp xT0 d, none, m_Mo_makeTree, E) 362 [some (.ref a0), some (.int x1), some (.int x2), some (.int x3), some (.int x4), some (.int 1), some (.int 0), u7] [] f 0 0) (xgr f a0 11 31 (fun r3 => xal f r3 1 x5 (fun v4 => xbr (v4 = 0) (xWp (xT0, xSp xT0 d, none, m_Mo_makeTree, E) 236 [some (.ref a0), some (.int x1), some (.int x2), some (.int x3), some (.int x4), some (.int (x5 + 1)), some (.int ((24 * x1) + x5)), u7] [] f 0 0) (xgr f a0 11 11 (fun r5 => xal f r5 0 ((24 * x1) + x5) (fun v6 => xbr (v6 = 1) (xWp (xT0, xSp xT0 d, none, m_Mo_makeTree, E) 236 [some (.ref a0), some (.int x1), some (.int x2), some (.int x3), some (.int x4), some (.int (x5 + 1)), some (.int ((24 * x1) + x5)), u7] [] f 0 0) ((∃ fs, f a0 = some (xO 11 fs)) ∧ xSp xT0 d j_Mo_sourceOf [.ref a0, .int ((24 * x1) + x5), .int x2] f (fun w7 f8 => xvi w7 (fun v9 => xgr f8 a0 11 7 (fun r10 => xbr (¬ v9 = (-2)) (xSp xT0 d j_Mo_at [.int x2, .int v9] f8 (fun w11 f12 => xvi w11 (fun v13 => xWp (xT0, xSp xT0 d, none, m_Mo_makeTree, E) 313 [some (.ref a0), some (.int x1), some (.int x2), some (.int x3), some (.int x4), some (.int x5), some (.int ((24 * x1) + x5)), some (.int v9)] [.int (48 * v13), .ref r10, .int ((24 * x1) + x5), .ref a0] f12 0 0))) (xWp (xT0, xSp xT0 d, none, m_Mo_makeTree, E) 313 [some (.ref a0), some (.int x1), some (.int x2), some (.int x3), some (.int x4), some (.int x5), some (.int ((24 * x1) + x5)), some (.int v9)] [.int 0, .ref r10, .int ((24 * x1) + x5), .ref a0] f8 0 0)))))))))))))
theorem b_Mo_makeTree_236 {d : Nat} {E : Option Value → xH → Prop} {f : xH} {a0 : Nat} {x1 : Int32} {x2 : Int32} {x3 : Int32} {x4 : Int32} {x5 : Int32} {u6 : Option Value} {u7 : Option Value} (h : B_Mo_makeTree_236 d E f a0 x1 x2 x3 x4 x5 u6 u7) : xWp (xT0, xSp xT0 d, none, m_Mo_makeTree, E) 236 [some (.ref a0), some (.int x1), some (.int x2), some (.int x3), some (.int x4), some (.int x5), u6, u7] [] f 0 0 := by
  unfold B_Mo_makeTree_236 at h
  refine s_il l_Mo_makeTree_236 rfl ?_
  refine s_aln l_Mo_makeTree_238 rfl ?_
  refine s_gr l_Mo_makeTree_239 h (fun r1 h => ?_)
  refine s_iln l_Mo_makeTree_242 rfl ?_
  refine s_ial l_Mo_makeTree_243 rfl h (fun v2 h => ?_)
  refine s_ifc l_Mo_makeTree_244 h (fun h => ?_) (fun h => ?_)
  · refine s_ic 1 l_Mo_makeTree_356 rfl ?_
    refine s_is l_Mo_makeTree_357 (Nat.le_of_ble_eq_true rfl) ?_
    refine s_ic 0 l_Mo_makeTree_359 rfl ?_
    refine s_is l_Mo_makeTree_360 (Nat.le_of_ble_eq_true rfl) ?_
    exact h
  · refine s_bp 24 l_Mo_makeTree_247 rfl ?_
    refine s_iln l_Mo_makeTree_249 rfl ?_
    refine s_imul l_Mo_makeTree_250 ?_
    refine s_il l_Mo_makeTree_251 rfl ?_
    refine s_iadd l_Mo_makeTree_253 ?_
    refine s_is l_Mo_makeTree_254 (Nat.le_of_ble_eq_true rfl) ?_
    refine s_aln l_Mo_makeTree_256 rfl ?_
    refine s_gr l_Mo_makeTree_257 h (fun r3 h => ?_)
    refine s_il l_Mo_makeTree_260 rfl ?_
    refine s_bal l_Mo_makeTree_262 (Or.inl rfl) h (fun v4 h => ?_)
    refine s_if l_Mo_makeTree_263 h (fun h => ?_) (fun h => ?_)
    · refine s_inc 1 l_Mo_makeTree_350 rfl rfl ?_
      refine s_goto l_Mo_makeTree_353 ?_
      exact h
    · refine s_aln l_Mo_makeTree_266 rfl ?_
      refine s_gr l_Mo_makeTree_267 h (fun r5 h => ?_)
      refine s_il l_Mo_makeTree_270 rfl ?_
      refine s_ial l_Mo_makeTree_272 rfl h (fun v6 h => ?_)
      refine s_ic 1 l_Mo_makeTree_273 rfl ?_
      refine s_ifc l_Mo_makeTree_274 h (fun h => ?_) (fun h => ?_)
      · refine s_inc 1 l_Mo_makeTree_350 rfl rfl ?_
        refine s_goto l_Mo_makeTree_353 ?_
        exact h
      · refine s_aln l_Mo_makeTree_277 rfl ?_
        refine s_il l_Mo_makeTree_278 rfl ?_
        refine s_iln l_Mo_makeTree_280 rfl ?_
        refine s_cvi (As := [.int ((24 * x1) + x5), .int x2]) (r := []) l_Mo_makeTree_281 rfl ⟨rfl, rfl⟩ rfl (Nat.le_of_ble_eq_true rfl) rfl ⟨Nat.zero_le _, Nat.zero_le _⟩ h (fun v9 f8 h => ?_)
        refine s_is l_Mo_makeTree_284 (Nat.le_of_ble_eq_true rfl) ?_
        refine s_aln l_Mo_makeTree_286 rfl ?_
        refine s_il l_Mo_makeTree_287 rfl ?_
        refine s_aln l_Mo_makeTree_289 rfl ?_
        refine s_gr l_Mo_makeTree_290 h (fun r10 h => ?_)
        refine s_il l_Mo_makeTree_293 rfl ?_
        refine s_bp (-2) l_Mo_makeTree_295 rfl ?_
        refine s_ifc l_Mo_makeTree_297 h (fun h => ?_) (fun h => ?_)
        · refine s_bp 48 l_Mo_makeTree_304 rfl ?_
          refine s_iln l_Mo_makeTree_306 rfl ?_
          refine s_il l_Mo_makeTree_307 rfl ?_
          refine s_csi (As := [.int x2, .int v9]) (r := [.int 48, .ref r10, .int ((24 * x1) + x5), .ref a0]) l_Mo_makeTree_309 rfl ⟨rfl, rfl⟩ rfl (Nat.le_of_ble_eq_true rfl) rfl ⟨Nat.zero_le _, Nat.zero_le _⟩ h (fun v13 f12 h => ?_)
          refine s_imul l_Mo_makeTree_312 ?_
          exact h
        · refine s_ic 0 l_Mo_makeTree_300 rfl ?_
          refine s_goto l_Mo_makeTree_301 ?_
          exact h
def B_Mo_makeTree_313 (d : Nat) (E : Option Value → xH → Prop) (f : xH) (a0 : Nat) (x1 : Int32) (x2 : Int32) (x3 : Int32) (x4 : Int32) (x5 : Int32) (x6 : Int32) (x7 : Int32) (s0 : Int32) (s1 : Nat) (s2 : Int32) (s3 : Nat) : Prop :=
  (∃ fs, f s3 = some (xO 11 fs)) ∧ xSp xT0 d j_Mo_make [.ref s3, .int s2, .ref s1, .int s0, .int 0] f (fun w1 f2 => xvv w1 (xgr f2 a0 11 12 (fun r3 => xgr f2 a0 11 13 (fun r4 => xal f2 r4 0 x6 (fun v5 => xgr f2 a0 11 35 (fun r6 => xgr f2 a0 11 18 (fun r7 => xal f2 r7 0 x6 (fun v8 => (∃ fs, f2 a0 = some (xO 11 fs)) ∧ xSp xT0 d j_Mo_addFile [.ref a0, .int x3, .ref r3, .int (18 * x6), .int v5, .ref r6, .int 0, .int v8] f2 (fun w9 f10 => xvv w9 (xWp (xT0, xSp xT0 d, none, m_Mo_makeTree, E) 236 [some (.ref a0), some (.int x1), some (.int x2), some (.int x3), some (.int x4), some (.int (x5 + 1)), some (.int x6), some (.int x7)] [] f10 0 0))))))))))
theorem b_Mo_makeTree_313 {d : Nat} {E : Option Value → xH → Prop} {f : xH} {a0 : Nat} {x1 : Int32} {x2 : Int32} {x3 : Int32} {x4 : Int32} {x5 : Int32} {x6 : Int32} {x7 : Int32} {s0 : Int32} {s1 : Nat} {s2 : Int32} {s3 : Nat} (h : B_Mo_makeTree_313 d E f a0 x1 x2 x3 x4 x5 x6 x7 s0 s1 s2 s3) : xWp (xT0, xSp xT0 d, none, m_Mo_makeTree, E) 313 [some (.ref a0), some (.int x1), some (.int x2), some (.int x3), some (.int x4), some (.int x5), some (.int x6), some (.int x7)] [.int s0, .ref s1, .int s2, .ref s3] f 0 0 := by
  unfold B_Mo_makeTree_313 at h
  refine s_ic 0 l_Mo_makeTree_313 rfl ?_
  refine s_cvv (As := [.int s2, .ref s1, .int s0, .int 0]) (r := []) l_Mo_makeTree_314 rfl ⟨rfl, rfl⟩ rfl (Nat.le_of_ble_eq_true rfl) rfl ⟨Nat.zero_le _, Nat.zero_le _⟩ h (fun f2 h => ?_)
  refine s_aln l_Mo_makeTree_317 rfl ?_
  refine s_iln l_Mo_makeTree_318 rfl ?_
  refine s_aln l_Mo_makeTree_319 rfl ?_
  refine s_gr l_Mo_makeTree_320 h (fun r3 h => ?_)
  refine s_bp 18 l_Mo_makeTree_323 rfl ?_
  refine s_il l_Mo_makeTree_325 rfl ?_
  refine s_imul l_Mo_makeTree_327 ?_
  refine s_aln l_Mo_makeTree_328 rfl ?_
  refine s_gr l_Mo_makeTree_329 h (fun r4 h => ?_)
  refine s_il l_Mo_makeTree_332 rfl ?_
  refine s_ial l_Mo_makeTree_334 rfl h (fun v5 h => ?_)
  refine s_aln l_Mo_makeTree_335 rfl ?_
  refine s_gr l_Mo_makeTree_336 h (fun r6 h => ?_)
  refine s_ic 0 l_Mo_makeTree_339 rfl ?_
  refine s_aln l_Mo_makeTree_340 rfl ?_
  refine s_gr l_Mo_makeTree_341 h (fun r7 h => ?_)
  refine s_il l_Mo_makeTree_344 rfl ?_
  refine s_ial l_Mo_makeTree_346 rfl h (fun v8 h => ?_)
  refine s_cvv (As := [.int x3, .ref r3, .int (18 * x6), .int v5, .ref r6, .int 0, .int v8]) (r := []) l_Mo_makeTree_347 rfl ⟨rfl, rfl⟩ rfl (Nat.le_of_ble_eq_true rfl) rfl ⟨Nat.zero_le _, Nat.zero_le _⟩ h (fun f10 h => ?_)
  refine s_inc 1 l_Mo_makeTree_350 rfl rfl ?_
  refine s_goto l_Mo_makeTree_353 ?_
  exact h
def B_Mo_makeTree_362 (d : Nat) (E : Option Value → xH → Prop) (f : xH) (a0 : Nat) (x1 : Int32) (x2 : Int32) (x3 : Int32) (x4 : Int32) (x5 : Int32) (x6 : Int32) (u7 : Option Value) : Prop :=
  xgr f a0 11 9 (fun r1 => xal f r1 0 x3 (fun v2 => xbr (v2 ≤ x6) ((x5 = 0 ∨ x5 = 1) ∧ E (some (.int x5)) f) (xSp xT0 d j_Mo_at [.int x3, .int x6] f (fun w3 f4 => xvi w3 (fun v5 => xbr (x5 = 0) (xWp (xT0, xSp xT0 d, none, m_Mo_makeTree, E) 362 [some (.ref a0), some (.int x1), some (.int x2), some (.int x3), some (.int x4), some (.int 0), some (.int (x6 + 1)), some (.int v5)] [] f4 0 0) (xgr f4 a0 11 5 (fun r6 => xgr f4 a0 11 6 (fun r7 => xal f4 r7 0 v5 (fun v8 => (∃ fs, f4 a0 = some (xO 11 fs)) ∧ xSp xT0 d j_Mo_isBlocked [.ref a0, .int x3, .ref r6, .int (18 * v5), .int v8] f4 (fun w9 f10 => xvi w9 (fun v11 => xbr (¬ v11 = 0) (xWp (xT0, xSp xT0 d, none, m_Mo_makeTree, E) 362 [some (.ref a0), some (.int x1), some (.int x2), some (.int x3), some (.int x4), some (.int 0), some (.int (x6 + 1)), some (.int v5)] [] f10 0 0) (xWp (xT0, xSp xT0 d, none, m_Mo_makeTree, E) 362 [some (.ref a0), some (.int x1), some (.int x2), some (.int x3), some (.int x4), some (.int 1), some (.int (x6 + 1)), some (.int v5)] [] f10 0 0))))))))))))
theorem b_Mo_makeTree_362 {d : Nat} {E : Option Value → xH → Prop} {f : xH} {a0 : Nat} {x1 : Int32} {x2 : Int32} {x3 : Int32} {x4 : Int32} {x5 : Int32} {x6 : Int32} {u7 : Option Value} (h : B_Mo_makeTree_362 d E f a0 x1 x2 x3 x4 x5 x6 u7) : xWp (xT0, xSp xT0 d, none, m_Mo_makeTree, E) 362 [some (.ref a0), some (.int x1), some (.int x2), some (.int x3), some (.int x4), some (.int x5), some (.int x6), u7] [] f 0 0 := by
  unfold B_Mo_makeTree_362 at h
  refine s_il l_Mo_makeTree_362 rfl ?_
  refine s_aln l_Mo_makeTree_364 rfl ?_
  refine s_gr l_Mo_makeTree_365 h (fun r1 h => ?_)
  refine s_iln l_Mo_makeTree_368 rfl ?_
  refine s_ial l_Mo_makeTree_369 rfl h (fun v2 h => ?_)
  refine s_ifc l_Mo_makeTree_370 h (fun h => ?_) (fun h => ?_)
  · refine s_il l_Mo_makeTree_423 rfl ?_
    exact s_zret l_Mo_makeTree_425 rfl ⟨Nat.zero_le _, Nat.zero_le _⟩ h
  · refine s_iln l_Mo_makeTree_373 rfl ?_
    refine s_il l_Mo_makeTree_374 rfl ?_
    refine s_csi (As := [.int x3, .int x6]) (r := []) l_Mo_makeTree_376 rfl ⟨rfl, rfl⟩ rfl (Nat.le_of_ble_eq_true rfl) rfl ⟨Nat.zero_le _, Nat.zero_le _⟩ h (fun v5 f4 h => ?_)
    refine s_is l_Mo_makeTree_379 (Nat.le_of_ble_eq_true rfl) ?_
    refine s_il l_Mo_makeTree_381 rfl ?_
    refine s_if l_Mo_makeTree_383 h (fun h => ?_) (fun h => ?_)
    · refine s_ic 0 l_Mo_makeTree_414 rfl ?_
      refine s_is l_Mo_makeTree_415 (Nat.le_of_ble_eq_true rfl) ?_
      refine s_inc 1 l_Mo_makeTree_417 rfl rfl ?_
      refine s_goto l_Mo_makeTree_420 ?_
      exact h
    · refine s_aln l_Mo_makeTree_386 rfl ?_
      refine s_iln l_Mo_makeTree_387 rfl ?_
      refine s_aln l_Mo_makeTree_388 rfl ?_
      refine s_gr l_Mo_makeTree_389 h (fun r6 h => ?_)
      refine s_bp 18 l_Mo_makeTree_392 rfl ?_
      refine s_il l_Mo_makeTree_394 rfl ?_
      refine s_imul l_Mo_makeTree_396 ?_
      refine s_aln l_Mo_makeTree_397 rfl ?_
      refine s_gr l_Mo_makeTree_398 h (fun r7 h => ?_)
      refine s_il l_Mo_makeTree_401 rfl ?_
      refine s_ial l_Mo_makeTree_403 rfl h (fun v8 h => ?_)
      refine s_cvi (As := [.int x3, .ref r6, .int (18 * v5), .int v8]) (r := []) l_Mo_makeTree_404 rfl ⟨rfl, rfl⟩ rfl (Nat.le_of_ble_eq_true rfl) rfl ⟨Nat.zero_le _, Nat.zero_le _⟩ h (fun v11 f10 h => ?_)
      refine s_if l_Mo_makeTree_407 h (fun h => ?_) (fun h => ?_)
      · refine s_ic 0 l_Mo_makeTree_414 rfl ?_
        refine s_is l_Mo_makeTree_415 (Nat.le_of_ble_eq_true rfl) ?_
        refine s_inc 1 l_Mo_makeTree_417 rfl rfl ?_
        refine s_goto l_Mo_makeTree_420 ?_
        exact h
      · refine s_ic 1 l_Mo_makeTree_410 rfl ?_
        refine s_goto l_Mo_makeTree_411 ?_
        refine s_is l_Mo_makeTree_415 (Nat.le_of_ble_eq_true rfl) ?_
        refine s_inc 1 l_Mo_makeTree_417 rfl rfl ?_
        refine s_goto l_Mo_makeTree_420 ?_
        exact h
theorem l_Mo_conflict_0 : xlk (xm_cd m_Mo_conflict) 0 = some (.aload_n 0, 1, (0, 0, 0, [])) := rfl
theorem l_Mo_conflict_1 : xlk (xm_cd m_Mo_conflict) 1 = some (.iconst 0, 1, (0, 0, 0, [])) := rfl
theorem l_Mo_conflict_2 : xlk (xm_cd m_Mo_conflict) 2 = some (.putfield 1, 3, (849, 11, 0, [(0, 0)])) := rfl
theorem l_Mo_conflict_5 : xlk (xm_cd m_Mo_conflict) 5 = some (.iload_n 1, 1, (0, 0, 0, [])) := rfl
theorem l_Mo_conflict_6 : xlk (xm_cd m_Mo_conflict) 6 = some (.iconst (-1), 1, (0, 0, 0, [])) := rfl
theorem l_Mo_conflict_7 : xlk (xm_cd m_Mo_conflict) 7 = some (.if_icmp .ne 12, 3, (0, 19, 0, [])) := rfl
theorem l_Mo_conflict_10 : xlk (xm_cd m_Mo_conflict) 10 = some (.iload_n 2, 1, (0, 0, 0, [])) := rfl
theorem l_Mo_conflict_11 : xlk (xm_cd m_Mo_conflict) 11 = some (.ifCond .ne 8, 3, (0, 19, 0, [])) := rfl
theorem l_Mo_conflict_14 : xlk (xm_cd m_Mo_conflict) 14 = some (.aload_n 0, 1, (0, 0, 0, [])) := rfl
theorem l_Mo_conflict_15 : xlk (xm_cd m_Mo_conflict) 15 = some (.getfield 282, 3, (883, 11, 34, [])) := rfl
theorem l_Mo_conflict_18 : xlk (xm_cd m_Mo_conflict) 18 = some (.ireturn, 1, (0, 0, 0, [])) := rfl
theorem l_Mo_conflict_19 : xlk (xm_cd m_Mo_conflict) 19 = some (.iload_n 1, 1, (0, 0, 0, [])) := rfl
theorem l_Mo_conflict_20 : xlk (xm_cd m_Mo_conflict) 20 = some (.i2l, 1, (0, 0, 0, [])) := rfl
theorem l_Mo_conflict_21 : xlk (xm_cd m_Mo_conflict) 21 = some (.lconst 0, 1, (0, 0, 0, [])) := rfl
theorem l_Mo_conflict_22 : xlk (xm_cd m_Mo_conflict) 22 = some (.aload_n 0, 1, (0, 0, 0, [])) := rfl
theorem l_Mo_conflict_23 : xlk (xm_cd m_Mo_conflict) 23 = some (.getfield 282, 3, (883, 11, 34, [])) := rfl
theorem l_Mo_conflict_26 : xlk (xm_cd m_Mo_conflict) 26 = some (.iconst 1, 1, (0, 0, 0, [])) := rfl
theorem l_Mo_conflict_27 : xlk (xm_cd m_Mo_conflict) 27 = some (.isub, 1, (0, 0, 0, [])) := rfl
theorem l_Mo_conflict_28 : xlk (xm_cd m_Mo_conflict) 28 = some (.i2l, 1, (0, 0, 0, [])) := rfl
theorem l_Mo_conflict_29 : xlk (xm_cd m_Mo_conflict) 29 = some (.invokestatic 132, 3, (955, 0, 0, [(2, 2)])) := rfl
theorem l_Mo_conflict_32 : xlk (xm_cd m_Mo_conflict) 32 = some (.ifCond .eq 35, 3, (0, 67, 0, [])) := rfl
theorem l_Mo_conflict_35 : xlk (xm_cd m_Mo_conflict) 35 = some (.iload_n 2, 1, (0, 0, 0, [])) := rfl
theorem l_Mo_conflict_36 : xlk (xm_cd m_Mo_conflict) 36 = some (.i2l, 1, (0, 0, 0, [])) := rfl
theorem l_Mo_conflict_37 : xlk (xm_cd m_Mo_conflict) 37 = some (.lconst 0, 1, (0, 0, 0, [])) := rfl
theorem l_Mo_conflict_38 : xlk (xm_cd m_Mo_conflict) 38 = some (.lconst 1, 1, (0, 0, 0, [])) := rfl
theorem l_Mo_conflict_39 : xlk (xm_cd m_Mo_conflict) 39 = some (.invokestatic 132, 3, (955, 0, 0, [(2, 2)])) := rfl
theorem l_Mo_conflict_42 : xlk (xm_cd m_Mo_conflict) 42 = some (.ifCond .eq 25, 3, (0, 67, 0, [])) := rfl
theorem l_Mo_conflict_45 : xlk (xm_cd m_Mo_conflict) 45 = some (.iload_n 2, 1, (0, 0, 0, [])) := rfl
theorem l_Mo_conflict_46 : xlk (xm_cd m_Mo_conflict) 46 = some (.ifCond .ne 12, 3, (0, 58, 0, [])) := rfl
theorem l_Mo_conflict_49 : xlk (xm_cd m_Mo_conflict) 49 = some (.aload_n 0, 1, (0, 0, 0, [])) := rfl
theorem l_Mo_conflict_50 : xlk (xm_cd m_Mo_conflict) 50 = some (.getfield 91, 3, (881, 11, 32, [])) := rfl
theorem l_Mo_conflict_53 : xlk (xm_cd m_Mo_conflict) 53 = some (.iload_n 1, 1, (0, 0, 0, [])) := rfl
theorem l_Mo_conflict_54 : xlk (xm_cd m_Mo_conflict) 54 = some (.iaload, 1, (0, 0, 0, [])) := rfl
theorem l_Mo_conflict_55 : xlk (xm_cd m_Mo_conflict) 55 = some (.goto 13, 3, (0, 68, 0, [])) := rfl
theorem l_Mo_conflict_58 : xlk (xm_cd m_Mo_conflict) 58 = some (.aload_n 0, 1, (0, 0, 0, [])) := rfl
theorem l_Mo_conflict_59 : xlk (xm_cd m_Mo_conflict) 59 = some (.getfield 94, 3, (882, 11, 33, [])) := rfl
theorem l_Mo_conflict_62 : xlk (xm_cd m_Mo_conflict) 62 = some (.iload_n 1, 1, (0, 0, 0, [])) := rfl
theorem l_Mo_conflict_63 : xlk (xm_cd m_Mo_conflict) 63 = some (.iaload, 1, (0, 0, 0, [])) := rfl
theorem l_Mo_conflict_64 : xlk (xm_cd m_Mo_conflict) 64 = some (.goto 4, 3, (0, 68, 0, [])) := rfl
theorem l_Mo_conflict_67 : xlk (xm_cd m_Mo_conflict) 67 = some (.iconst (-1), 1, (0, 0, 0, [])) := rfl
theorem l_Mo_conflict_68 : xlk (xm_cd m_Mo_conflict) 68 = some (.ireturn, 1, (0, 0, 0, [])) := rfl
def B_Mo_conflict_0 (d : Nat) (E : Option Value → xH → Prop) (f : xH) (a0 : Nat) (x1 : Int32) (x2 : Int32) : Prop :=
  xpf f a0 11 0 (.int 0) (fun f1 => xbr (¬ x1 = (-1)) (xWp (xT0, xSp xT0 d, none, m_Mo_conflict, E) 19 [some (.ref a0), some (.int x1), some (.int x2)] [] f1 0 0) (xbr (¬ x2 = 0) (xWp (xT0, xSp xT0 d, none, m_Mo_conflict, E) 19 [some (.ref a0), some (.int x1), some (.int x2)] [] f1 0 0) (xgi f1 a0 11 34 (fun v2 => E (some (.int v2)) f1))))
theorem b_Mo_conflict_0 {d : Nat} {E : Option Value → xH → Prop} {f : xH} {a0 : Nat} {x1 : Int32} {x2 : Int32} (h : B_Mo_conflict_0 d E f a0 x1 x2) : xWp (xT0, xSp xT0 d, none, m_Mo_conflict, E) 0 [some (.ref a0), some (.int x1), some (.int x2)] [] f 0 0 := by
  unfold B_Mo_conflict_0 at h
  refine s_aln l_Mo_conflict_0 rfl ?_
  refine s_ic 0 l_Mo_conflict_1 rfl ?_
  refine s_pf l_Mo_conflict_2 ⟨_, rfl⟩ h (fun f1 h => ?_)
  refine s_iln l_Mo_conflict_5 rfl ?_
  refine s_ic (-1) l_Mo_conflict_6 rfl ?_
  refine s_ifc l_Mo_conflict_7 h (fun h => ?_) (fun h => ?_)
  · exact h
  · refine s_iln l_Mo_conflict_10 rfl ?_
    refine s_if l_Mo_conflict_11 h (fun h => ?_) (fun h => ?_)
    · exact h
    · refine s_aln l_Mo_conflict_14 rfl ?_
      refine s_gi l_Mo_conflict_15 h (fun v2 h => ?_)
      exact s_iret l_Mo_conflict_18 rfl ⟨Nat.zero_le _, Nat.zero_le _⟩ h
def B_Mo_conflict_19 (d : Nat) (E : Option Value → xH → Prop) (f : xH) (a0 : Nat) (x1 : Int32) (x2 : Int32) : Prop :=
  xgi f a0 11 34 (fun v1 => xbr ((if (0 : Int64) ≤ x1.toInt64 ∧ x1.toInt64 ≤ (v1 - 1).toInt64 then 1 else 0) = 0) (E (some (.int (-1))) f) (xbr ((if (0 : Int64) ≤ x2.toInt64 ∧ x2.toInt64 ≤ 1 then 1 else 0) = 0) (E (some (.int (-1))) f) (xbr (¬ x2 = 0) (xgr f a0 11 33 (fun r2 => xal f r2 0 x1 (fun v3 => E (some (.int v3)) f))) (xgr f a0 11 32 (fun r4 => xal f r4 0 x1 (fun v5 => E (some (.int v5)) f))))))
theorem b_Mo_conflict_19 {d : Nat} {E : Option Value → xH → Prop} {f : xH} {a0 : Nat} {x1 : Int32} {x2 : Int32} (h : B_Mo_conflict_19 d E f a0 x1 x2) : xWp (xT0, xSp xT0 d, none, m_Mo_conflict, E) 19 [some (.ref a0), some (.int x1), some (.int x2)] [] f 0 0 := by
  unfold B_Mo_conflict_19 at h
  refine s_iln l_Mo_conflict_19 rfl ?_
  refine s_i2l l_Mo_conflict_20 ?_
  refine s_lc 0 l_Mo_conflict_21 rfl ?_
  refine s_aln l_Mo_conflict_22 rfl ?_
  refine s_gi l_Mo_conflict_23 h (fun v1 h => ?_)
  refine s_ic 1 l_Mo_conflict_26 rfl ?_
  refine s_isub l_Mo_conflict_27 ?_
  refine s_i2l l_Mo_conflict_28 ?_
  refine s_in l_Mo_conflict_29 (Nat.le_of_ble_eq_true rfl) ⟨Nat.zero_le _, Nat.zero_le _⟩ ?_
  refine s_if l_Mo_conflict_32 h (fun h => ?_) (fun h => ?_)
  · refine s_ic (-1) l_Mo_conflict_67 rfl ?_
    exact s_iret l_Mo_conflict_68 rfl ⟨Nat.zero_le _, Nat.zero_le _⟩ h
  · refine s_iln l_Mo_conflict_35 rfl ?_
    refine s_i2l l_Mo_conflict_36 ?_
    refine s_lc 0 l_Mo_conflict_37 rfl ?_
    refine s_lc 1 l_Mo_conflict_38 rfl ?_
    refine s_in l_Mo_conflict_39 (Nat.le_of_ble_eq_true rfl) ⟨Nat.zero_le _, Nat.zero_le _⟩ ?_
    refine s_if l_Mo_conflict_42 h (fun h => ?_) (fun h => ?_)
    · refine s_ic (-1) l_Mo_conflict_67 rfl ?_
      exact s_iret l_Mo_conflict_68 rfl ⟨Nat.zero_le _, Nat.zero_le _⟩ h
    · refine s_iln l_Mo_conflict_45 rfl ?_
      refine s_if l_Mo_conflict_46 h (fun h => ?_) (fun h => ?_)
      · refine s_aln l_Mo_conflict_58 rfl ?_
        refine s_gr l_Mo_conflict_59 h (fun r2 h => ?_)
        refine s_iln l_Mo_conflict_62 rfl ?_
        refine s_ial l_Mo_conflict_63 rfl h (fun v3 h => ?_)
        refine s_goto l_Mo_conflict_64 ?_
        exact s_iret l_Mo_conflict_68 rfl ⟨Nat.zero_le _, Nat.zero_le _⟩ h
      · refine s_aln l_Mo_conflict_49 rfl ?_
        refine s_gr l_Mo_conflict_50 h (fun r4 h => ?_)
        refine s_iln l_Mo_conflict_53 rfl ?_
        refine s_ial l_Mo_conflict_54 rfl h (fun v5 h => ?_)
        refine s_goto l_Mo_conflict_55 ?_
        exact s_iret l_Mo_conflict_68 rfl ⟨Nat.zero_le _, Nat.zero_le _⟩ h
theorem l_Mo_inverse_0 : xlk (xm_cd m_Mo_inverse) 0 = some (.aload_n 0, 1, (0, 0, 0, [])) := rfl
theorem l_Mo_inverse_1 : xlk (xm_cd m_Mo_inverse) 1 = some (.iconst 0, 1, (0, 0, 0, [])) := rfl
theorem l_Mo_inverse_2 : xlk (xm_cd m_Mo_inverse) 2 = some (.putfield 1, 3, (849, 11, 0, [(0, 0)])) := rfl
theorem l_Mo_inverse_5 : xlk (xm_cd m_Mo_inverse) 5 = some (.aload_n 0, 1, (0, 0, 0, [])) := rfl
theorem l_Mo_inverse_6 : xlk (xm_cd m_Mo_inverse) 6 = some (.iload_n 1, 1, (0, 0, 0, [])) := rfl
theorem l_Mo_inverse_7 : xlk (xm_cd m_Mo_inverse) 7 = some (.invokevirtual 257, 3, (1081, 185, 1, [])) := rfl
theorem l_Mo_inverse_10 : xlk (xm_cd m_Mo_inverse) 10 = some (.ifCond .eq 5, 3, (0, 15, 0, [])) := rfl
theorem l_Mo_inverse_13 : xlk (xm_cd m_Mo_inverse) 13 = some (.iconst (-1), 1, (0, 0, 0, [])) := rfl
theorem l_Mo_inverse_14 : xlk (xm_cd m_Mo_inverse) 14 = some (.ireturn, 1, (0, 0, 0, [])) := rfl
theorem l_Mo_inverse_15 : xlk (xm_cd m_Mo_inverse) 15 = some (.aload_n 0, 1, (0, 0, 0, [])) := rfl
theorem l_Mo_inverse_16 : xlk (xm_cd m_Mo_inverse) 16 = some (.getfield 198, 3, (872, 11, 23, [])) := rfl
theorem l_Mo_inverse_19 : xlk (xm_cd m_Mo_inverse) 19 = some (.bipush 8, 2, (0, 0, 0, [])) := rfl
theorem l_Mo_inverse_21 : xlk (xm_cd m_Mo_inverse) 21 = some (.if_icmp .ne 6, 3, (0, 27, 0, [])) := rfl
theorem l_Mo_inverse_24 : xlk (xm_cd m_Mo_inverse) 24 = some (.bipush (-3), 2, (0, 0, 0, [])) := rfl
theorem l_Mo_inverse_26 : xlk (xm_cd m_Mo_inverse) 26 = some (.ireturn, 1, (0, 0, 0, [])) := rfl
theorem l_Mo_inverse_27 : xlk (xm_cd m_Mo_inverse) 27 = some (.aload_n 0, 1, (0, 0, 0, [])) := rfl
theorem l_Mo_inverse_28 : xlk (xm_cd m_Mo_inverse) 28 = some (.getfield 198, 3, (872, 11, 23, [])) := rfl
theorem l_Mo_inverse_31 : xlk (xm_cd m_Mo_inverse) 31 = some (.istore_n 2, 1, (0, 0, 0, [])) := rfl
theorem l_Mo_inverse_32 : xlk (xm_cd m_Mo_inverse) 32 = some (.aload_n 0, 1, (0, 0, 0, [])) := rfl
theorem l_Mo_inverse_33 : xlk (xm_cd m_Mo_inverse) 33 = some (.getfield 69, 3, (871, 11, 22, [])) := rfl
theorem l_Mo_inverse_36 : xlk (xm_cd m_Mo_inverse) 36 = some (.iload_n 2, 1, (0, 0, 0, [])) := rfl
theorem l_Mo_inverse_37 : xlk (xm_cd m_Mo_inverse) 37 = some (.iconst 0, 1, (0, 0, 0, [])) := rfl
theorem l_Mo_inverse_38 : xlk (xm_cd m_Mo_inverse) 38 = some (.iastore, 1, (0, 0, 0, [])) := rfl
theorem l_Mo_inverse_39 : xlk (xm_cd m_Mo_inverse) 39 = some (.iconst 0, 1, (0, 0, 0, [])) := rfl
theorem l_Mo_inverse_40 : xlk (xm_cd m_Mo_inverse) 40 = some (.istore_n 3, 1, (0, 0, 0, [])) := rfl
theorem l_Mo_inverse_41 : xlk (xm_cd m_Mo_inverse) 41 = some (.iload_n 3, 1, (0, 0, 0, [])) := rfl
theorem l_Mo_inverse_42 : xlk (xm_cd m_Mo_inverse) 42 = some (.aload_n 0, 1, (0, 0, 0, [])) := rfl
theorem l_Mo_inverse_43 : xlk (xm_cd m_Mo_inverse) 43 = some (.getfield 69, 3, (871, 11, 22, [])) := rfl
theorem l_Mo_inverse_46 : xlk (xm_cd m_Mo_inverse) 46 = some (.iload_n 1, 1, (0, 0, 0, [])) := rfl
theorem l_Mo_inverse_47 : xlk (xm_cd m_Mo_inverse) 47 = some (.iaload, 1, (0, 0, 0, [])) := rfl
theorem l_Mo_inverse_48 : xlk (xm_cd m_Mo_inverse) 48 = some (.if_icmp .ge 70, 3, (0, 118, 0, [])) := rfl
theorem l_Mo_inverse_51 : xlk (xm_cd m_Mo_inverse) 51 = some (.aload_n 0, 1, (0, 0, 0, [])) := rfl
theorem l_Mo_inverse_52 : xlk (xm_cd m_Mo_inverse) 52 = some (.bipush 24, 2, (0, 0, 0, [])) := rfl
theorem l_Mo_inverse_54 : xlk (xm_cd m_Mo_inverse) 54 = some (.iload_n 1, 1, (0, 0, 0, [])) := rfl
theorem l_Mo_inverse_55 : xlk (xm_cd m_Mo_inverse) 55 = some (.imul, 1, (0, 0, 0, [])) := rfl
theorem l_Mo_inverse_56 : xlk (xm_cd m_Mo_inverse) 56 = some (.iload_n 3, 1, (0, 0, 0, [])) := rfl
theorem l_Mo_inverse_57 : xlk (xm_cd m_Mo_inverse) 57 = some (.iadd, 1, (0, 0, 0, [])) := rfl
theorem l_Mo_inverse_58 : xlk (xm_cd m_Mo_inverse) 58 = some (.sipush 217, 3, (0, 0, 0, [])) := rfl
theorem l_Mo_inverse_61 : xlk (xm_cd m_Mo_inverse) 61 = some (.invokevirtual 204, 3, (1062, 179, 2, [])) := rfl
theorem l_Mo_inverse_64 : xlk (xm_cd m_Mo_inverse) 64 = some (.aload_n 0, 1, (0, 0, 0, [])) := rfl
theorem l_Mo_inverse_65 : xlk (xm_cd m_Mo_inverse) 65 = some (.invokevirtual 292, 3, (1127, 198, 0, [])) := rfl
theorem l_Mo_inverse_68 : xlk (xm_cd m_Mo_inverse) 68 = some (.aload_n 0, 1, (0, 0, 0, [])) := rfl
theorem l_Mo_inverse_69 : xlk (xm_cd m_Mo_inverse) 69 = some (.getfield 36, 3, (860, 11, 11, [])) := rfl
theorem l_Mo_inverse_72 : xlk (xm_cd m_Mo_inverse) 72 = some (.sipush 217, 3, (0, 0, 0, [])) := rfl
theorem l_Mo_inverse_75 : xlk (xm_cd m_Mo_inverse) 75 = some (.iaload, 1, (0, 0, 0, [])) := rfl
theorem l_Mo_inverse_76 : xlk (xm_cd m_Mo_inverse) 76 = some (.istore 4, 2, (0, 0, 0, [])) := rfl
theorem l_Mo_inverse_78 : xlk (xm_cd m_Mo_inverse) 78 = some (.aload_n 0, 1, (0, 0, 0, [])) := rfl
theorem l_Mo_inverse_79 : xlk (xm_cd m_Mo_inverse) 79 = some (.getfield 36, 3, (860, 11, 11, [])) := rfl
theorem l_Mo_inverse_82 : xlk (xm_cd m_Mo_inverse) 82 = some (.sipush 217, 3, (0, 0, 0, [])) := rfl
theorem l_Mo_inverse_85 : xlk (xm_cd m_Mo_inverse) 85 = some (.iload 4, 2, (0, 0, 0, [])) := rfl
theorem l_Mo_inverse_87 : xlk (xm_cd m_Mo_inverse) 87 = some (.ifCond .ne 7, 3, (0, 94, 0, [])) := rfl
theorem l_Mo_inverse_90 : xlk (xm_cd m_Mo_inverse) 90 = some (.iconst 1, 1, (0, 0, 0, [])) := rfl
theorem l_Mo_inverse_91 : xlk (xm_cd m_Mo_inverse) 91 = some (.goto 15, 3, (0, 106, 0, [])) := rfl
theorem l_Mo_inverse_94 : xlk (xm_cd m_Mo_inverse) 94 = some (.iload 4, 2, (0, 0, 0, [])) := rfl
theorem l_Mo_inverse_96 : xlk (xm_cd m_Mo_inverse) 96 = some (.iconst 1, 1, (0, 0, 0, [])) := rfl
theorem l_Mo_inverse_97 : xlk (xm_cd m_Mo_inverse) 97 = some (.if_icmp .ne 7, 3, (0, 104, 0, [])) := rfl
theorem l_Mo_inverse_100 : xlk (xm_cd m_Mo_inverse) 100 = some (.iconst 0, 1, (0, 0, 0, [])) := rfl
theorem l_Mo_inverse_101 : xlk (xm_cd m_Mo_inverse) 101 = some (.goto 5, 3, (0, 106, 0, [])) := rfl
theorem l_Mo_inverse_104 : xlk (xm_cd m_Mo_inverse) 104 = some (.iload 4, 2, (0, 0, 0, [])) := rfl
theorem l_Mo_inverse_106 : xlk (xm_cd m_Mo_inverse) 106 = some (.iastore, 1, (0, 0, 0, [])) := rfl
theorem l_Mo_inverse_107 : xlk (xm_cd m_Mo_inverse) 107 = some (.aload_n 0, 1, (0, 0, 0, [])) := rfl
theorem l_Mo_inverse_108 : xlk (xm_cd m_Mo_inverse) 108 = some (.iload_n 2, 1, (0, 0, 0, [])) := rfl
theorem l_Mo_inverse_109 : xlk (xm_cd m_Mo_inverse) 109 = some (.invokevirtual 229, 3, (1056, 177, 1, [])) := rfl
theorem l_Mo_inverse_112 : xlk (xm_cd m_Mo_inverse) 112 = some (.iinc 3 1, 3, (0, 0, 0, [])) := rfl
theorem l_Mo_inverse_115 : xlk (xm_cd m_Mo_inverse) 115 = some (.goto (-74), 3, (0, 41, 0, [])) := rfl
theorem l_Mo_inverse_118 : xlk (xm_cd m_Mo_inverse) 118 = some (.aload_n 0, 1, (0, 0, 0, [])) := rfl
theorem l_Mo_inverse_119 : xlk (xm_cd m_Mo_inverse) 119 = some (.dup, 1, (0, 0, 0, [])) := rfl
theorem l_Mo_inverse_120 : xlk (xm_cd m_Mo_inverse) 120 = some (.getfield 198, 3, (872, 11, 23, [])) := rfl
theorem l_Mo_inverse_123 : xlk (xm_cd m_Mo_inverse) 123 = some (.iconst 1, 1, (0, 0, 0, [])) := rfl
theorem l_Mo_inverse_124 : xlk (xm_cd m_Mo_inverse) 124 = some (.iadd, 1, (0, 0, 0, [])) := rfl
theorem l_Mo_inverse_125 : xlk (xm_cd m_Mo_inverse) 125 = some (.putfield 198, 3, (872, 11, 23, [(0, 0)])) := rfl
theorem l_Mo_inverse_128 : xlk (xm_cd m_Mo_inverse) 128 = some (.iload_n 2, 1, (0, 0, 0, [])) := rfl
theorem l_Mo_inverse_129 : xlk (xm_cd m_Mo_inverse) 129 = some (.ireturn, 1, (0, 0, 0, [])) := rfl
def B_Mo_inverse_0 (d : Nat) (E : Option Value → xH → Prop) (f : xH) (a0 : Nat) (x1 : Int32) : Prop :=
  xpf f a0 11 0 (.int 0) (fun f1 => (∃ fs, f1 a0 = some (xO 11 fs)) ∧ xSp xT0 d j_Mo_noPatch [.ref a0, .int x1] f1 (fun w2 f3 => xvi w2 (fun v4 => xbr (v4 = 0) (xgi f3 a0 11 23 (fun v5 => xbr (¬ v5 = 8) (xgi f3 a0 11 23 (fun v6 => xgr f3 a0 11 22 (fun r7 => xas f3 r7 0 v6 0 (fun f8 => xWp (xT0, xSp xT0 d, none, m_Mo_inverse, E) 41 [some (.ref a0), some (.int x1), some (.int v6), some (.int 0), none] [] f8 0 0)))) (E (some (.int (-3))) f3))) (E (some (.int (-1))) f3))))
theorem b_Mo_inverse_0 {d : Nat} {E : Option Value → xH → Prop} {f : xH} {a0 : Nat} {x1 : Int32} (h : B_Mo_inverse_0 d E f a0 x1) : xWp (xT0, xSp xT0 d, none, m_Mo_inverse, E) 0 [some (.ref a0), some (.int x1), none, none, none] [] f 0 0 := by
  unfold B_Mo_inverse_0 at h
  refine s_aln l_Mo_inverse_0 rfl ?_
  refine s_ic 0 l_Mo_inverse_1 rfl ?_
  refine s_pf l_Mo_inverse_2 ⟨_, rfl⟩ h (fun f1 h => ?_)
  refine s_aln l_Mo_inverse_5 rfl ?_
  refine s_iln l_Mo_inverse_6 rfl ?_
  refine s_cvi (As := [.int x1]) (r := []) l_Mo_inverse_7 rfl ⟨rfl, rfl⟩ rfl (Nat.le_of_ble_eq_true rfl) rfl ⟨Nat.zero_le _, Nat.zero_le _⟩ h (fun v4 f3 h => ?_)
  refine s_if l_Mo_inverse_10 h (fun h => ?_) (fun h => ?_)
  · refine s_aln l_Mo_inverse_15 rfl ?_
    refine s_gi l_Mo_inverse_16 h (fun v5 h => ?_)
    refine s_bp 8 l_Mo_inverse_19 rfl ?_
    refine s_ifc l_Mo_inverse_21 h (fun h => ?_) (fun h => ?_)
    · refine s_aln l_Mo_inverse_27 rfl ?_
      refine s_gi l_Mo_inverse_28 h (fun v6 h => ?_)
      refine s_isn l_Mo_inverse_31 (Nat.le_of_ble_eq_true rfl) ?_
      refine s_aln l_Mo_inverse_32 rfl ?_
      refine s_gr l_Mo_inverse_33 h (fun r7 h => ?_)
      refine s_iln l_Mo_inverse_36 rfl ?_
      refine s_ic 0 l_Mo_inverse_37 rfl ?_
      refine s_iast l_Mo_inverse_38 h (fun f8 h => ?_)
      refine s_ic 0 l_Mo_inverse_39 rfl ?_
      refine s_isn l_Mo_inverse_40 (Nat.le_of_ble_eq_true rfl) ?_
      exact h
    · refine s_bp (-3) l_Mo_inverse_24 rfl ?_
      exact s_iret l_Mo_inverse_26 rfl ⟨Nat.zero_le _, Nat.zero_le _⟩ h
  · refine s_ic (-1) l_Mo_inverse_13 rfl ?_
    exact s_iret l_Mo_inverse_14 rfl ⟨Nat.zero_le _, Nat.zero_le _⟩ h
def B_Mo_inverse_41 (d : Nat) (E : Option Value → xH → Prop) (f : xH) (a0 : Nat) (x1 : Int32) (x2 : Int32) (x3 : Int32) (u4 : Option Value) : Prop :=
  xgr f a0 11 22 (fun r1 => xal f r1 0 x1 (fun v2 => xbr (v2 ≤ x3) (xgi f a0 11 23 (fun v3 => xpf f a0 11 23 (.int (v3 + 1)) (fun f4 => E (some (.int x2)) f4))) ((∃ fs, f a0 = some (xO 11 fs)) ∧ xSp xT0 d j_Mo_moveStep [.ref a0, .int ((24 * x1) + x3), .int 217] f (fun w5 f6 => xvv w5 ((∃ fs, f6 a0 = some (xO 11 fs)) ∧ xSp xT0 d j_Mo_swapSides [.ref a0] f6 (fun w7 f8 => xvv w7 (xgr f8 a0 11 11 (fun r9 => xal f8 r9 0 217 (fun v10 => xgr f8 a0 11 11 (fun r11 => xbr (¬ v10 = 0) (xbr (¬ v10 = 1) (xas f8 r11 0 217 v10 (fun f12 => (∃ fs, f12 a0 = some (xO 11 fs)) ∧ xSp xT0 d j_Mo_addSpare [.ref a0, .int x2] f12 (fun w13 f14 => xvv w13 (xWp (xT0, xSp xT0 d, none, m_Mo_inverse, E) 41 [some (.ref a0), some (.int x1), some (.int x2), some (.int (x3 + 1)), some (.int v10)] [] f14 0 0)))) (xas f8 r11 0 217 0 (fun f15 => (∃ fs, f15 a0 = some (xO 11 fs)) ∧ xSp xT0 d j_Mo_addSpare [.ref a0, .int x2] f15 (fun w16 f17 => xvv w16 (xWp (xT0, xSp xT0 d, none, m_Mo_inverse, E) 41 [some (.ref a0), some (.int x1), some (.int x2), some (.int (x3 + 1)), some (.int v10)] [] f17 0 0))))) (xas f8 r11 0 217 1 (fun f18 => (∃ fs, f18 a0 = some (xO 11 fs)) ∧ xSp xT0 d j_Mo_addSpare [.ref a0, .int x2] f18 (fun w19 f20 => xvv w19 (xWp (xT0, xSp xT0 d, none, m_Mo_inverse, E) 41 [some (.ref a0), some (.int x1), some (.int x2), some (.int (x3 + 1)), some (.int v10)] [] f20 0 0))))))))))))))
theorem b_Mo_inverse_41 {d : Nat} {E : Option Value → xH → Prop} {f : xH} {a0 : Nat} {x1 : Int32} {x2 : Int32} {x3 : Int32} {u4 : Option Value} (h : B_Mo_inverse_41 d E f a0 x1 x2 x3 u4) : xWp (xT0, xSp xT0 d, none, m_Mo_inverse, E) 41 [some (.ref a0), some (.int x1), some (.int x2), some (.int x3), u4] [] f 0 0 := by
  unfold B_Mo_inverse_41 at h
  refine s_iln l_Mo_inverse_41 rfl ?_
  refine s_aln l_Mo_inverse_42 rfl ?_
  refine s_gr l_Mo_inverse_43 h (fun r1 h => ?_)
  refine s_iln l_Mo_inverse_46 rfl ?_
  refine s_ial l_Mo_inverse_47 rfl h (fun v2 h => ?_)
  refine s_ifc l_Mo_inverse_48 h (fun h => ?_) (fun h => ?_)
  · refine s_aln l_Mo_inverse_118 rfl ?_
    refine s_dup l_Mo_inverse_119 rfl ?_
    refine s_gi l_Mo_inverse_120 h (fun v3 h => ?_)
    refine s_ic 1 l_Mo_inverse_123 rfl ?_
    refine s_iadd l_Mo_inverse_124 ?_
    refine s_pf l_Mo_inverse_125 ⟨_, rfl⟩ h (fun f4 h => ?_)
    refine s_iln l_Mo_inverse_128 rfl ?_
    exact s_iret l_Mo_inverse_129 rfl ⟨Nat.zero_le _, Nat.zero_le _⟩ h
  · refine s_aln l_Mo_inverse_51 rfl ?_
    refine s_bp 24 l_Mo_inverse_52 rfl ?_
    refine s_iln l_Mo_inverse_54 rfl ?_
    refine s_imul l_Mo_inverse_55 ?_
    refine s_iln l_Mo_inverse_56 rfl ?_
    refine s_iadd l_Mo_inverse_57 ?_
    refine s_sp 217 l_Mo_inverse_58 rfl ?_
    refine s_cvv (As := [.int ((24 * x1) + x3), .int 217]) (r := []) l_Mo_inverse_61 rfl ⟨rfl, rfl⟩ rfl (Nat.le_of_ble_eq_true rfl) rfl ⟨Nat.zero_le _, Nat.zero_le _⟩ h (fun f6 h => ?_)
    refine s_aln l_Mo_inverse_64 rfl ?_
    refine s_cvv (As := []) (r := []) l_Mo_inverse_65 rfl ⟨rfl, rfl⟩ rfl (Nat.le_of_ble_eq_true rfl) rfl ⟨Nat.zero_le _, Nat.zero_le _⟩ h (fun f8 h => ?_)
    refine s_aln l_Mo_inverse_68 rfl ?_
    refine s_gr l_Mo_inverse_69 h (fun r9 h => ?_)
    refine s_sp 217 l_Mo_inverse_72 rfl ?_
    refine s_ial l_Mo_inverse_75 rfl h (fun v10 h => ?_)
    refine s_is l_Mo_inverse_76 (Nat.le_of_ble_eq_true rfl) ?_
    refine s_aln l_Mo_inverse_78 rfl ?_
    refine s_gr l_Mo_inverse_79 h (fun r11 h => ?_)
    refine s_sp 217 l_Mo_inverse_82 rfl ?_
    refine s_il l_Mo_inverse_85 rfl ?_
    refine s_if l_Mo_inverse_87 h (fun h => ?_) (fun h => ?_)
    · refine s_il l_Mo_inverse_94 rfl ?_
      refine s_ic 1 l_Mo_inverse_96 rfl ?_
      refine s_ifc l_Mo_inverse_97 h (fun h => ?_) (fun h => ?_)
      · refine s_il l_Mo_inverse_104 rfl ?_
        refine s_iast l_Mo_inverse_106 h (fun f12 h => ?_)
        refine s_aln l_Mo_inverse_107 rfl ?_
        refine s_iln l_Mo_inverse_108 rfl ?_
        refine s_cvv (As := [.int x2]) (r := []) l_Mo_inverse_109 rfl ⟨rfl, rfl⟩ rfl (Nat.le_of_ble_eq_true rfl) rfl ⟨Nat.zero_le _, Nat.zero_le _⟩ h (fun f14 h => ?_)
        refine s_inc 1 l_Mo_inverse_112 rfl rfl ?_
        refine s_goto l_Mo_inverse_115 ?_
        exact h
      · refine s_ic 0 l_Mo_inverse_100 rfl ?_
        refine s_goto l_Mo_inverse_101 ?_
        refine s_iast l_Mo_inverse_106 h (fun f15 h => ?_)
        refine s_aln l_Mo_inverse_107 rfl ?_
        refine s_iln l_Mo_inverse_108 rfl ?_
        refine s_cvv (As := [.int x2]) (r := []) l_Mo_inverse_109 rfl ⟨rfl, rfl⟩ rfl (Nat.le_of_ble_eq_true rfl) rfl ⟨Nat.zero_le _, Nat.zero_le _⟩ h (fun f17 h => ?_)
        refine s_inc 1 l_Mo_inverse_112 rfl rfl ?_
        refine s_goto l_Mo_inverse_115 ?_
        exact h
    · refine s_ic 1 l_Mo_inverse_90 rfl ?_
      refine s_goto l_Mo_inverse_91 ?_
      refine s_iast l_Mo_inverse_106 h (fun f18 h => ?_)
      refine s_aln l_Mo_inverse_107 rfl ?_
      refine s_iln l_Mo_inverse_108 rfl ?_
      refine s_cvv (As := [.int x2]) (r := []) l_Mo_inverse_109 rfl ⟨rfl, rfl⟩ rfl (Nat.le_of_ble_eq_true rfl) rfl ⟨Nat.zero_le _, Nat.zero_le _⟩ h (fun f20 h => ?_)
      refine s_inc 1 l_Mo_inverse_112 rfl rfl ?_
      refine s_goto l_Mo_inverse_115 ?_
      exact h
theorem l_Mo_swapSides_0 : xlk (xm_cd m_Mo_swapSides) 0 = some (.iconst 0, 1, (0, 0, 0, [])) := rfl
theorem l_Mo_swapSides_1 : xlk (xm_cd m_Mo_swapSides) 1 = some (.istore_n 1, 1, (0, 0, 0, [])) := rfl
theorem l_Mo_swapSides_2 : xlk (xm_cd m_Mo_swapSides) 2 = some (.iload_n 1, 1, (0, 0, 0, [])) := rfl
theorem l_Mo_swapSides_3 : xlk (xm_cd m_Mo_swapSides) 3 = some (.bipush 48, 2, (0, 0, 0, [])) := rfl
theorem l_Mo_swapSides_5 : xlk (xm_cd m_Mo_swapSides) 5 = some (.if_icmp .ge 51, 3, (0, 56, 0, [])) := rfl
theorem l_Mo_swapSides_8 : xlk (xm_cd m_Mo_swapSides) 8 = some (.aload_n 0, 1, (0, 0, 0, [])) := rfl
theorem l_Mo_swapSides_9 : xlk (xm_cd m_Mo_swapSides) 9 = some (.getfield 63, 3, (869, 11, 20, [])) := rfl
theorem l_Mo_swapSides_12 : xlk (xm_cd m_Mo_swapSides) 12 = some (.sipush 10416, 3, (0, 0, 0, [])) := rfl
theorem l_Mo_swapSides_15 : xlk (xm_cd m_Mo_swapSides) 15 = some (.iload_n 1, 1, (0, 0, 0, [])) := rfl
theorem l_Mo_swapSides_16 : xlk (xm_cd m_Mo_swapSides) 16 = some (.iadd, 1, (0, 0, 0, [])) := rfl
theorem l_Mo_swapSides_17 : xlk (xm_cd m_Mo_swapSides) 17 = some (.iaload, 1, (0, 0, 0, [])) := rfl
theorem l_Mo_swapSides_18 : xlk (xm_cd m_Mo_swapSides) 18 = some (.istore_n 2, 1, (0, 0, 0, [])) := rfl
theorem l_Mo_swapSides_19 : xlk (xm_cd m_Mo_swapSides) 19 = some (.aload_n 0, 1, (0, 0, 0, [])) := rfl
theorem l_Mo_swapSides_20 : xlk (xm_cd m_Mo_swapSides) 20 = some (.getfield 63, 3, (869, 11, 20, [])) := rfl
theorem l_Mo_swapSides_23 : xlk (xm_cd m_Mo_swapSides) 23 = some (.sipush 10416, 3, (0, 0, 0, [])) := rfl
theorem l_Mo_swapSides_26 : xlk (xm_cd m_Mo_swapSides) 26 = some (.iload_n 1, 1, (0, 0, 0, [])) := rfl
theorem l_Mo_swapSides_27 : xlk (xm_cd m_Mo_swapSides) 27 = some (.iadd, 1, (0, 0, 0, [])) := rfl
theorem l_Mo_swapSides_28 : xlk (xm_cd m_Mo_swapSides) 28 = some (.aload_n 0, 1, (0, 0, 0, [])) := rfl
theorem l_Mo_swapSides_29 : xlk (xm_cd m_Mo_swapSides) 29 = some (.getfield 66, 3, (870, 11, 21, [])) := rfl
theorem l_Mo_swapSides_32 : xlk (xm_cd m_Mo_swapSides) 32 = some (.sipush 10416, 3, (0, 0, 0, [])) := rfl
theorem l_Mo_swapSides_35 : xlk (xm_cd m_Mo_swapSides) 35 = some (.iload_n 1, 1, (0, 0, 0, [])) := rfl
theorem l_Mo_swapSides_36 : xlk (xm_cd m_Mo_swapSides) 36 = some (.iadd, 1, (0, 0, 0, [])) := rfl
theorem l_Mo_swapSides_37 : xlk (xm_cd m_Mo_swapSides) 37 = some (.iaload, 1, (0, 0, 0, [])) := rfl
theorem l_Mo_swapSides_38 : xlk (xm_cd m_Mo_swapSides) 38 = some (.iastore, 1, (0, 0, 0, [])) := rfl
theorem l_Mo_swapSides_39 : xlk (xm_cd m_Mo_swapSides) 39 = some (.aload_n 0, 1, (0, 0, 0, [])) := rfl
theorem l_Mo_swapSides_40 : xlk (xm_cd m_Mo_swapSides) 40 = some (.getfield 66, 3, (870, 11, 21, [])) := rfl
theorem l_Mo_swapSides_43 : xlk (xm_cd m_Mo_swapSides) 43 = some (.sipush 10416, 3, (0, 0, 0, [])) := rfl
theorem l_Mo_swapSides_46 : xlk (xm_cd m_Mo_swapSides) 46 = some (.iload_n 1, 1, (0, 0, 0, [])) := rfl
theorem l_Mo_swapSides_47 : xlk (xm_cd m_Mo_swapSides) 47 = some (.iadd, 1, (0, 0, 0, [])) := rfl
theorem l_Mo_swapSides_48 : xlk (xm_cd m_Mo_swapSides) 48 = some (.iload_n 2, 1, (0, 0, 0, [])) := rfl
theorem l_Mo_swapSides_49 : xlk (xm_cd m_Mo_swapSides) 49 = some (.iastore, 1, (0, 0, 0, [])) := rfl
theorem l_Mo_swapSides_50 : xlk (xm_cd m_Mo_swapSides) 50 = some (.iinc 1 1, 3, (0, 0, 0, [])) := rfl
theorem l_Mo_swapSides_53 : xlk (xm_cd m_Mo_swapSides) 53 = some (.goto (-51), 3, (0, 2, 0, [])) := rfl
theorem l_Mo_swapSides_56 : xlk (xm_cd m_Mo_swapSides) 56 = some (.iconst 0, 1, (0, 0, 0, [])) := rfl
theorem l_Mo_swapSides_57 : xlk (xm_cd m_Mo_swapSides) 57 = some (.istore_n 1, 1, (0, 0, 0, [])) := rfl
theorem l_Mo_swapSides_58 : xlk (xm_cd m_Mo_swapSides) 58 = some (.iload_n 1, 1, (0, 0, 0, [])) := rfl
theorem l_Mo_swapSides_59 : xlk (xm_cd m_Mo_swapSides) 59 = some (.bipush 18, 2, (0, 0, 0, [])) := rfl
theorem l_Mo_swapSides_61 : xlk (xm_cd m_Mo_swapSides) 61 = some (.if_icmp .ge 51, 3, (0, 112, 0, [])) := rfl
theorem l_Mo_swapSides_64 : xlk (xm_cd m_Mo_swapSides) 64 = some (.aload_n 0, 1, (0, 0, 0, [])) := rfl
theorem l_Mo_swapSides_65 : xlk (xm_cd m_Mo_swapSides) 65 = some (.getfield 39, 3, (861, 11, 12, [])) := rfl
theorem l_Mo_swapSides_68 : xlk (xm_cd m_Mo_swapSides) 68 = some (.sipush 3906, 3, (0, 0, 0, [])) := rfl
theorem l_Mo_swapSides_71 : xlk (xm_cd m_Mo_swapSides) 71 = some (.iload_n 1, 1, (0, 0, 0, [])) := rfl
theorem l_Mo_swapSides_72 : xlk (xm_cd m_Mo_swapSides) 72 = some (.iadd, 1, (0, 0, 0, [])) := rfl
theorem l_Mo_swapSides_73 : xlk (xm_cd m_Mo_swapSides) 73 = some (.baload, 1, (0, 0, 0, [])) := rfl
theorem l_Mo_swapSides_74 : xlk (xm_cd m_Mo_swapSides) 74 = some (.istore_n 2, 1, (0, 0, 0, [])) := rfl
theorem l_Mo_swapSides_75 : xlk (xm_cd m_Mo_swapSides) 75 = some (.aload_n 0, 1, (0, 0, 0, [])) := rfl
theorem l_Mo_swapSides_76 : xlk (xm_cd m_Mo_swapSides) 76 = some (.getfield 39, 3, (861, 11, 12, [])) := rfl
theorem l_Mo_swapSides_79 : xlk (xm_cd m_Mo_swapSides) 79 = some (.sipush 3906, 3, (0, 0, 0, [])) := rfl
theorem l_Mo_swapSides_82 : xlk (xm_cd m_Mo_swapSides) 82 = some (.iload_n 1, 1, (0, 0, 0, [])) := rfl
theorem l_Mo_swapSides_83 : xlk (xm_cd m_Mo_swapSides) 83 = some (.iadd, 1, (0, 0, 0, [])) := rfl
theorem l_Mo_swapSides_84 : xlk (xm_cd m_Mo_swapSides) 84 = some (.aload_n 0, 1, (0, 0, 0, [])) := rfl
theorem l_Mo_swapSides_85 : xlk (xm_cd m_Mo_swapSides) 85 = some (.getfield 45, 3, (863, 11, 14, [])) := rfl
theorem l_Mo_swapSides_88 : xlk (xm_cd m_Mo_swapSides) 88 = some (.sipush 3906, 3, (0, 0, 0, [])) := rfl
theorem l_Mo_swapSides_91 : xlk (xm_cd m_Mo_swapSides) 91 = some (.iload_n 1, 1, (0, 0, 0, [])) := rfl
theorem l_Mo_swapSides_92 : xlk (xm_cd m_Mo_swapSides) 92 = some (.iadd, 1, (0, 0, 0, [])) := rfl
theorem l_Mo_swapSides_93 : xlk (xm_cd m_Mo_swapSides) 93 = some (.baload, 1, (0, 0, 0, [])) := rfl
theorem l_Mo_swapSides_94 : xlk (xm_cd m_Mo_swapSides) 94 = some (.bastore, 1, (0, 0, 0, [])) := rfl
theorem l_Mo_swapSides_95 : xlk (xm_cd m_Mo_swapSides) 95 = some (.aload_n 0, 1, (0, 0, 0, [])) := rfl
theorem l_Mo_swapSides_96 : xlk (xm_cd m_Mo_swapSides) 96 = some (.getfield 45, 3, (863, 11, 14, [])) := rfl
theorem l_Mo_swapSides_99 : xlk (xm_cd m_Mo_swapSides) 99 = some (.sipush 3906, 3, (0, 0, 0, [])) := rfl
theorem l_Mo_swapSides_102 : xlk (xm_cd m_Mo_swapSides) 102 = some (.iload_n 1, 1, (0, 0, 0, [])) := rfl
theorem l_Mo_swapSides_103 : xlk (xm_cd m_Mo_swapSides) 103 = some (.iadd, 1, (0, 0, 0, [])) := rfl
theorem l_Mo_swapSides_104 : xlk (xm_cd m_Mo_swapSides) 104 = some (.iload_n 2, 1, (0, 0, 0, [])) := rfl
theorem l_Mo_swapSides_105 : xlk (xm_cd m_Mo_swapSides) 105 = some (.bastore, 1, (0, 0, 0, [])) := rfl
theorem l_Mo_swapSides_106 : xlk (xm_cd m_Mo_swapSides) 106 = some (.iinc 1 1, 3, (0, 0, 0, [])) := rfl
theorem l_Mo_swapSides_109 : xlk (xm_cd m_Mo_swapSides) 109 = some (.goto (-51), 3, (0, 58, 0, [])) := rfl
theorem l_Mo_swapSides_112 : xlk (xm_cd m_Mo_swapSides) 112 = some (.aload_n 0, 1, (0, 0, 0, [])) := rfl
theorem l_Mo_swapSides_113 : xlk (xm_cd m_Mo_swapSides) 113 = some (.getfield 42, 3, (862, 11, 13, [])) := rfl
theorem l_Mo_swapSides_116 : xlk (xm_cd m_Mo_swapSides) 116 = some (.sipush 217, 3, (0, 0, 0, [])) := rfl
theorem l_Mo_swapSides_119 : xlk (xm_cd m_Mo_swapSides) 119 = some (.iaload, 1, (0, 0, 0, [])) := rfl
theorem l_Mo_swapSides_120 : xlk (xm_cd m_Mo_swapSides) 120 = some (.istore_n 1, 1, (0, 0, 0, [])) := rfl
theorem l_Mo_swapSides_121 : xlk (xm_cd m_Mo_swapSides) 121 = some (.aload_n 0, 1, (0, 0, 0, [])) := rfl
theorem l_Mo_swapSides_122 : xlk (xm_cd m_Mo_swapSides) 122 = some (.getfield 42, 3, (862, 11, 13, [])) := rfl
theorem l_Mo_swapSides_125 : xlk (xm_cd m_Mo_swapSides) 125 = some (.sipush 217, 3, (0, 0, 0, [])) := rfl
theorem l_Mo_swapSides_128 : xlk (xm_cd m_Mo_swapSides) 128 = some (.aload_n 0, 1, (0, 0, 0, [])) := rfl
theorem l_Mo_swapSides_129 : xlk (xm_cd m_Mo_swapSides) 129 = some (.getfield 48, 3, (864, 11, 15, [])) := rfl
theorem l_Mo_swapSides_132 : xlk (xm_cd m_Mo_swapSides) 132 = some (.sipush 217, 3, (0, 0, 0, [])) := rfl
theorem l_Mo_swapSides_135 : xlk (xm_cd m_Mo_swapSides) 135 = some (.iaload, 1, (0, 0, 0, [])) := rfl
theorem l_Mo_swapSides_136 : xlk (xm_cd m_Mo_swapSides) 136 = some (.iastore, 1, (0, 0, 0, [])) := rfl
theorem l_Mo_swapSides_137 : xlk (xm_cd m_Mo_swapSides) 137 = some (.aload_n 0, 1, (0, 0, 0, [])) := rfl
theorem l_Mo_swapSides_138 : xlk (xm_cd m_Mo_swapSides) 138 = some (.getfield 48, 3, (864, 11, 15, [])) := rfl
theorem l_Mo_swapSides_141 : xlk (xm_cd m_Mo_swapSides) 141 = some (.sipush 217, 3, (0, 0, 0, [])) := rfl
theorem l_Mo_swapSides_144 : xlk (xm_cd m_Mo_swapSides) 144 = some (.iload_n 1, 1, (0, 0, 0, [])) := rfl
theorem l_Mo_swapSides_145 : xlk (xm_cd m_Mo_swapSides) 145 = some (.iastore, 1, (0, 0, 0, [])) := rfl
theorem l_Mo_swapSides_146 : xlk (xm_cd m_Mo_swapSides) 146 = some (.aload_n 0, 1, (0, 0, 0, [])) := rfl
theorem l_Mo_swapSides_147 : xlk (xm_cd m_Mo_swapSides) 147 = some (.getfield 51, 3, (865, 11, 16, [])) := rfl
theorem l_Mo_swapSides_150 : xlk (xm_cd m_Mo_swapSides) 150 = some (.sipush 217, 3, (0, 0, 0, [])) := rfl
theorem l_Mo_swapSides_153 : xlk (xm_cd m_Mo_swapSides) 153 = some (.iaload, 1, (0, 0, 0, [])) := rfl
theorem l_Mo_swapSides_154 : xlk (xm_cd m_Mo_swapSides) 154 = some (.istore_n 1, 1, (0, 0, 0, [])) := rfl
theorem l_Mo_swapSides_155 : xlk (xm_cd m_Mo_swapSides) 155 = some (.aload_n 0, 1, (0, 0, 0, [])) := rfl
theorem l_Mo_swapSides_156 : xlk (xm_cd m_Mo_swapSides) 156 = some (.getfield 51, 3, (865, 11, 16, [])) := rfl
theorem l_Mo_swapSides_159 : xlk (xm_cd m_Mo_swapSides) 159 = some (.sipush 217, 3, (0, 0, 0, [])) := rfl
theorem l_Mo_swapSides_162 : xlk (xm_cd m_Mo_swapSides) 162 = some (.aload_n 0, 1, (0, 0, 0, [])) := rfl
theorem l_Mo_swapSides_163 : xlk (xm_cd m_Mo_swapSides) 163 = some (.getfield 57, 3, (867, 11, 18, [])) := rfl
theorem l_Mo_swapSides_166 : xlk (xm_cd m_Mo_swapSides) 166 = some (.sipush 217, 3, (0, 0, 0, [])) := rfl
theorem l_Mo_swapSides_169 : xlk (xm_cd m_Mo_swapSides) 169 = some (.iaload, 1, (0, 0, 0, [])) := rfl
theorem l_Mo_swapSides_170 : xlk (xm_cd m_Mo_swapSides) 170 = some (.iastore, 1, (0, 0, 0, [])) := rfl
theorem l_Mo_swapSides_171 : xlk (xm_cd m_Mo_swapSides) 171 = some (.aload_n 0, 1, (0, 0, 0, [])) := rfl
theorem l_Mo_swapSides_172 : xlk (xm_cd m_Mo_swapSides) 172 = some (.getfield 57, 3, (867, 11, 18, [])) := rfl
theorem l_Mo_swapSides_175 : xlk (xm_cd m_Mo_swapSides) 175 = some (.sipush 217, 3, (0, 0, 0, [])) := rfl
theorem l_Mo_swapSides_178 : xlk (xm_cd m_Mo_swapSides) 178 = some (.iload_n 1, 1, (0, 0, 0, [])) := rfl
theorem l_Mo_swapSides_179 : xlk (xm_cd m_Mo_swapSides) 179 = some (.iastore, 1, (0, 0, 0, [])) := rfl
theorem l_Mo_swapSides_180 : xlk (xm_cd m_Mo_swapSides) 180 = some (.aload_n 0, 1, (0, 0, 0, [])) := rfl
theorem l_Mo_swapSides_181 : xlk (xm_cd m_Mo_swapSides) 181 = some (.getfield 54, 3, (866, 11, 17, [])) := rfl
theorem l_Mo_swapSides_184 : xlk (xm_cd m_Mo_swapSides) 184 = some (.sipush 217, 3, (0, 0, 0, [])) := rfl
theorem l_Mo_swapSides_187 : xlk (xm_cd m_Mo_swapSides) 187 = some (.iaload, 1, (0, 0, 0, [])) := rfl
theorem l_Mo_swapSides_188 : xlk (xm_cd m_Mo_swapSides) 188 = some (.istore_n 1, 1, (0, 0, 0, [])) := rfl
theorem l_Mo_swapSides_189 : xlk (xm_cd m_Mo_swapSides) 189 = some (.aload_n 0, 1, (0, 0, 0, [])) := rfl
theorem l_Mo_swapSides_190 : xlk (xm_cd m_Mo_swapSides) 190 = some (.getfield 54, 3, (866, 11, 17, [])) := rfl
theorem l_Mo_swapSides_193 : xlk (xm_cd m_Mo_swapSides) 193 = some (.sipush 217, 3, (0, 0, 0, [])) := rfl
theorem l_Mo_swapSides_196 : xlk (xm_cd m_Mo_swapSides) 196 = some (.aload_n 0, 1, (0, 0, 0, [])) := rfl
theorem l_Mo_swapSides_197 : xlk (xm_cd m_Mo_swapSides) 197 = some (.getfield 60, 3, (868, 11, 19, [])) := rfl
theorem l_Mo_swapSides_200 : xlk (xm_cd m_Mo_swapSides) 200 = some (.sipush 217, 3, (0, 0, 0, [])) := rfl
theorem l_Mo_swapSides_203 : xlk (xm_cd m_Mo_swapSides) 203 = some (.iaload, 1, (0, 0, 0, [])) := rfl
theorem l_Mo_swapSides_204 : xlk (xm_cd m_Mo_swapSides) 204 = some (.iastore, 1, (0, 0, 0, [])) := rfl
theorem l_Mo_swapSides_205 : xlk (xm_cd m_Mo_swapSides) 205 = some (.aload_n 0, 1, (0, 0, 0, [])) := rfl
theorem l_Mo_swapSides_206 : xlk (xm_cd m_Mo_swapSides) 206 = some (.getfield 60, 3, (868, 11, 19, [])) := rfl
theorem l_Mo_swapSides_209 : xlk (xm_cd m_Mo_swapSides) 209 = some (.sipush 217, 3, (0, 0, 0, [])) := rfl
theorem l_Mo_swapSides_212 : xlk (xm_cd m_Mo_swapSides) 212 = some (.iload_n 1, 1, (0, 0, 0, [])) := rfl
theorem l_Mo_swapSides_213 : xlk (xm_cd m_Mo_swapSides) 213 = some (.iastore, 1, (0, 0, 0, [])) := rfl
theorem l_Mo_swapSides_214 : xlk (xm_cd m_Mo_swapSides) 214 = some (.return_, 1, (0, 0, 0, [])) := rfl
def B_Mo_swapSides_0 (d : Nat) (E : Option Value → xH → Prop) (f : xH) (a0 : Nat) : Prop :=
  xWp (xT0, xSp xT0 d, none, m_Mo_swapSides, E) 2 [some (.ref a0), some (.int 0), none] [] f 0 0
theorem b_Mo_swapSides_0 {d : Nat} {E : Option Value → xH → Prop} {f : xH} {a0 : Nat} (h : B_Mo_swapSides_0 d E f a0) : xWp (xT0, xSp xT0 d, none, m_Mo_swapSides, E) 0 [some (.ref a0), none, none] [] f 0 0 := by
  unfold B_Mo_swapSides_0 at h
  refine s_ic 0 l_Mo_swapSides_0 rfl ?_
  refine s_isn l_Mo_swapSides_1 (Nat.le_of_ble_eq_true rfl) ?_
  exact h
def B_Mo_swapSides_2 (d : Nat) (E : Option Value → xH → Prop) (f : xH) (a0 : Nat) (x1 : Int32) (u2 : Option Value) : Prop :=
  xbr ((48 : Int32) ≤ x1) (xWp (xT0, xSp xT0 d, none, m_Mo_swapSides, E) 58 [some (.ref a0), some (.int 0), u2] [] f 0 0) (xgr f a0 11 20 (fun r1 => xal f r1 0 (10416 + x1) (fun v2 => xgr f a0 11 20 (fun r3 => xgr f a0 11 21 (fun r4 => xal f r4 0 (10416 + x1) (fun v5 => xas f r3 0 (10416 + x1) v5 (fun f6 => xgr f6 a0 11 21 (fun r7 => xas f6 r7 0 (10416 + x1) v2 (fun f8 => xWp (xT0, xSp xT0 d, none, m_Mo_swapSides, E) 2 [some (.ref a0), some (.int (x1 + 1)), some (.int v2)] [] f8 0 0)))))))))
theorem b_Mo_swapSides_2 {d : Nat} {E : Option Value → xH → Prop} {f : xH} {a0 : Nat} {x1 : Int32} {u2 : Option Value} (h : B_Mo_swapSides_2 d E f a0 x1 u2) : xWp (xT0, xSp xT0 d, none, m_Mo_swapSides, E) 2 [some (.ref a0), some (.int x1), u2] [] f 0 0 := by
  unfold B_Mo_swapSides_2 at h
  refine s_iln l_Mo_swapSides_2 rfl ?_
  refine s_bp 48 l_Mo_swapSides_3 rfl ?_
  refine s_ifc l_Mo_swapSides_5 h (fun h => ?_) (fun h => ?_)
  · refine s_ic 0 l_Mo_swapSides_56 rfl ?_
    refine s_isn l_Mo_swapSides_57 (Nat.le_of_ble_eq_true rfl) ?_
    exact h
  · refine s_aln l_Mo_swapSides_8 rfl ?_
    refine s_gr l_Mo_swapSides_9 h (fun r1 h => ?_)
    refine s_sp 10416 l_Mo_swapSides_12 rfl ?_
    refine s_iln l_Mo_swapSides_15 rfl ?_
    refine s_iadd l_Mo_swapSides_16 ?_
    refine s_ial l_Mo_swapSides_17 rfl h (fun v2 h => ?_)
    refine s_isn l_Mo_swapSides_18 (Nat.le_of_ble_eq_true rfl) ?_
    refine s_aln l_Mo_swapSides_19 rfl ?_
    refine s_gr l_Mo_swapSides_20 h (fun r3 h => ?_)
    refine s_sp 10416 l_Mo_swapSides_23 rfl ?_
    refine s_iln l_Mo_swapSides_26 rfl ?_
    refine s_iadd l_Mo_swapSides_27 ?_
    refine s_aln l_Mo_swapSides_28 rfl ?_
    refine s_gr l_Mo_swapSides_29 h (fun r4 h => ?_)
    refine s_sp 10416 l_Mo_swapSides_32 rfl ?_
    refine s_iln l_Mo_swapSides_35 rfl ?_
    refine s_iadd l_Mo_swapSides_36 ?_
    refine s_ial l_Mo_swapSides_37 rfl h (fun v5 h => ?_)
    refine s_iast l_Mo_swapSides_38 h (fun f6 h => ?_)
    refine s_aln l_Mo_swapSides_39 rfl ?_
    refine s_gr l_Mo_swapSides_40 h (fun r7 h => ?_)
    refine s_sp 10416 l_Mo_swapSides_43 rfl ?_
    refine s_iln l_Mo_swapSides_46 rfl ?_
    refine s_iadd l_Mo_swapSides_47 ?_
    refine s_iln l_Mo_swapSides_48 rfl ?_
    refine s_iast l_Mo_swapSides_49 h (fun f8 h => ?_)
    refine s_inc 1 l_Mo_swapSides_50 rfl rfl ?_
    refine s_goto l_Mo_swapSides_53 ?_
    exact h
def B_Mo_swapSides_58 (d : Nat) (E : Option Value → xH → Prop) (f : xH) (a0 : Nat) (x1 : Int32) (u2 : Option Value) : Prop :=
  xbr ((18 : Int32) ≤ x1) (xgr f a0 11 13 (fun r1 => xal f r1 0 217 (fun v2 => xgr f a0 11 13 (fun r3 => xgr f a0 11 15 (fun r4 => xal f r4 0 217 (fun v5 => xas f r3 0 217 v5 (fun f6 => xgr f6 a0 11 15 (fun r7 => xas f6 r7 0 217 v2 (fun f8 => xgr f8 a0 11 16 (fun r9 => xal f8 r9 0 217 (fun v10 => xgr f8 a0 11 16 (fun r11 => xgr f8 a0 11 18 (fun r12 => xal f8 r12 0 217 (fun v13 => xas f8 r11 0 217 v13 (fun f14 => xgr f14 a0 11 18 (fun r15 => xas f14 r15 0 217 v10 (fun f16 => xgr f16 a0 11 17 (fun r17 => xal f16 r17 0 217 (fun v18 => xgr f16 a0 11 17 (fun r19 => xgr f16 a0 11 19 (fun r20 => xal f16 r20 0 217 (fun v21 => xas f16 r19 0 217 v21 (fun f22 => xgr f22 a0 11 19 (fun r23 => xas f22 r23 0 217 v18 (fun f24 => E none f24))))))))))))))))))))))))) (xgr f a0 11 12 (fun r25 => xal f r25 2 (3906 + x1) (fun v26 => xgr f a0 11 12 (fun r27 => xgr f a0 11 14 (fun r28 => xal f r28 2 (3906 + x1) (fun v29 => xas f r27 2 (3906 + x1) v29.toInt8.toInt32 (fun f30 => xgr f30 a0 11 14 (fun r31 => xas f30 r31 2 (3906 + x1) v26.toInt8.toInt32 (fun f32 => xWp (xT0, xSp xT0 d, none, m_Mo_swapSides, E) 58 [some (.ref a0), some (.int (x1 + 1)), some (.int v26)] [] f32 0 0)))))))))
theorem b_Mo_swapSides_58 {d : Nat} {E : Option Value → xH → Prop} {f : xH} {a0 : Nat} {x1 : Int32} {u2 : Option Value} (h : B_Mo_swapSides_58 d E f a0 x1 u2) : xWp (xT0, xSp xT0 d, none, m_Mo_swapSides, E) 58 [some (.ref a0), some (.int x1), u2] [] f 0 0 := by
  unfold B_Mo_swapSides_58 at h
  refine s_iln l_Mo_swapSides_58 rfl ?_
  refine s_bp 18 l_Mo_swapSides_59 rfl ?_
  refine s_ifc l_Mo_swapSides_61 h (fun h => ?_) (fun h => ?_)
  · refine s_aln l_Mo_swapSides_112 rfl ?_
    refine s_gr l_Mo_swapSides_113 h (fun r1 h => ?_)
    refine s_sp 217 l_Mo_swapSides_116 rfl ?_
    refine s_ial l_Mo_swapSides_119 rfl h (fun v2 h => ?_)
    refine s_isn l_Mo_swapSides_120 (Nat.le_of_ble_eq_true rfl) ?_
    refine s_aln l_Mo_swapSides_121 rfl ?_
    refine s_gr l_Mo_swapSides_122 h (fun r3 h => ?_)
    refine s_sp 217 l_Mo_swapSides_125 rfl ?_
    refine s_aln l_Mo_swapSides_128 rfl ?_
    refine s_gr l_Mo_swapSides_129 h (fun r4 h => ?_)
    refine s_sp 217 l_Mo_swapSides_132 rfl ?_
    refine s_ial l_Mo_swapSides_135 rfl h (fun v5 h => ?_)
    refine s_iast l_Mo_swapSides_136 h (fun f6 h => ?_)
    refine s_aln l_Mo_swapSides_137 rfl ?_
    refine s_gr l_Mo_swapSides_138 h (fun r7 h => ?_)
    refine s_sp 217 l_Mo_swapSides_141 rfl ?_
    refine s_iln l_Mo_swapSides_144 rfl ?_
    refine s_iast l_Mo_swapSides_145 h (fun f8 h => ?_)
    refine s_aln l_Mo_swapSides_146 rfl ?_
    refine s_gr l_Mo_swapSides_147 h (fun r9 h => ?_)
    refine s_sp 217 l_Mo_swapSides_150 rfl ?_
    refine s_ial l_Mo_swapSides_153 rfl h (fun v10 h => ?_)
    refine s_isn l_Mo_swapSides_154 (Nat.le_of_ble_eq_true rfl) ?_
    refine s_aln l_Mo_swapSides_155 rfl ?_
    refine s_gr l_Mo_swapSides_156 h (fun r11 h => ?_)
    refine s_sp 217 l_Mo_swapSides_159 rfl ?_
    refine s_aln l_Mo_swapSides_162 rfl ?_
    refine s_gr l_Mo_swapSides_163 h (fun r12 h => ?_)
    refine s_sp 217 l_Mo_swapSides_166 rfl ?_
    refine s_ial l_Mo_swapSides_169 rfl h (fun v13 h => ?_)
    refine s_iast l_Mo_swapSides_170 h (fun f14 h => ?_)
    refine s_aln l_Mo_swapSides_171 rfl ?_
    refine s_gr l_Mo_swapSides_172 h (fun r15 h => ?_)
    refine s_sp 217 l_Mo_swapSides_175 rfl ?_
    refine s_iln l_Mo_swapSides_178 rfl ?_
    refine s_iast l_Mo_swapSides_179 h (fun f16 h => ?_)
    refine s_aln l_Mo_swapSides_180 rfl ?_
    refine s_gr l_Mo_swapSides_181 h (fun r17 h => ?_)
    refine s_sp 217 l_Mo_swapSides_184 rfl ?_
    refine s_ial l_Mo_swapSides_187 rfl h (fun v18 h => ?_)
    refine s_isn l_Mo_swapSides_188 (Nat.le_of_ble_eq_true rfl) ?_
    refine s_aln l_Mo_swapSides_189 rfl ?_
    refine s_gr l_Mo_swapSides_190 h (fun r19 h => ?_)
    refine s_sp 217 l_Mo_swapSides_193 rfl ?_
    refine s_aln l_Mo_swapSides_196 rfl ?_
    refine s_gr l_Mo_swapSides_197 h (fun r20 h => ?_)
    refine s_sp 217 l_Mo_swapSides_200 rfl ?_
    refine s_ial l_Mo_swapSides_203 rfl h (fun v21 h => ?_)
    refine s_iast l_Mo_swapSides_204 h (fun f22 h => ?_)
    refine s_aln l_Mo_swapSides_205 rfl ?_
    refine s_gr l_Mo_swapSides_206 h (fun r23 h => ?_)
    refine s_sp 217 l_Mo_swapSides_209 rfl ?_
    refine s_iln l_Mo_swapSides_212 rfl ?_
    refine s_iast l_Mo_swapSides_213 h (fun f24 h => ?_)
    exact s_ret l_Mo_swapSides_214 ⟨Nat.zero_le _, Nat.zero_le _⟩ h
  · refine s_aln l_Mo_swapSides_64 rfl ?_
    refine s_gr l_Mo_swapSides_65 h (fun r25 h => ?_)
    refine s_sp 3906 l_Mo_swapSides_68 rfl ?_
    refine s_iln l_Mo_swapSides_71 rfl ?_
    refine s_iadd l_Mo_swapSides_72 ?_
    refine s_bal l_Mo_swapSides_73 (Or.inr rfl) h (fun v26 h => ?_)
    refine s_isn l_Mo_swapSides_74 (Nat.le_of_ble_eq_true rfl) ?_
    refine s_aln l_Mo_swapSides_75 rfl ?_
    refine s_gr l_Mo_swapSides_76 h (fun r27 h => ?_)
    refine s_sp 3906 l_Mo_swapSides_79 rfl ?_
    refine s_iln l_Mo_swapSides_82 rfl ?_
    refine s_iadd l_Mo_swapSides_83 ?_
    refine s_aln l_Mo_swapSides_84 rfl ?_
    refine s_gr l_Mo_swapSides_85 h (fun r28 h => ?_)
    refine s_sp 3906 l_Mo_swapSides_88 rfl ?_
    refine s_iln l_Mo_swapSides_91 rfl ?_
    refine s_iadd l_Mo_swapSides_92 ?_
    refine s_bal l_Mo_swapSides_93 (Or.inr rfl) h (fun v29 h => ?_)
    refine s_bast l_Mo_swapSides_94 h (fun f30 h => ?_)
    refine s_aln l_Mo_swapSides_95 rfl ?_
    refine s_gr l_Mo_swapSides_96 h (fun r31 h => ?_)
    refine s_sp 3906 l_Mo_swapSides_99 rfl ?_
    refine s_iln l_Mo_swapSides_102 rfl ?_
    refine s_iadd l_Mo_swapSides_103 ?_
    refine s_iln l_Mo_swapSides_104 rfl ?_
    refine s_bast l_Mo_swapSides_105 h (fun f32 h => ?_)
    refine s_inc 1 l_Mo_swapSides_106 rfl rfl ?_
    refine s_goto l_Mo_swapSides_109 ?_
    exact h
