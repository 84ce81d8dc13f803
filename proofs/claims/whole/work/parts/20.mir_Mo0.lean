/-! blocks of Mo, 0 -/
theorem l_Mo_feed_0 : xlk (xm_cd m_Mo_feed) 0 = some (.aload_n 0, 1, (0, 0, 0, [])) := rfl
theorem l_Mo_feed_1 : xlk (xm_cd m_Mo_feed) 1 = some (.iconst 0, 1, (0, 0, 0, [])) := rfl
theorem l_Mo_feed_2 : xlk (xm_cd m_Mo_feed) 2 = some (.putfield 1, 3, (849, 11, 0, [(0, 0)])) := rfl
theorem l_Mo_feed_5 : xlk (xm_cd m_Mo_feed) 5 = some (.aload_n 0, 1, (0, 0, 0, [])) := rfl
theorem l_Mo_feed_6 : xlk (xm_cd m_Mo_feed) 6 = some (.getfield 127, 3, (851, 11, 2, [])) := rfl
theorem l_Mo_feed_9 : xlk (xm_cd m_Mo_feed) 9 = some (.bipush 20, 2, (0, 0, 0, [])) := rfl
theorem l_Mo_feed_11 : xlk (xm_cd m_Mo_feed) 11 = some (.iadd, 1, (0, 0, 0, [])) := rfl
theorem l_Mo_feed_12 : xlk (xm_cd m_Mo_feed) 12 = some (.bipush 80, 2, (0, 0, 0, [])) := rfl
theorem l_Mo_feed_14 : xlk (xm_cd m_Mo_feed) 14 = some (.if_icmp .le 6, 3, (0, 20, 0, [])) := rfl
theorem l_Mo_feed_17 : xlk (xm_cd m_Mo_feed) 17 = some (.bipush (-3), 2, (0, 0, 0, [])) := rfl
theorem l_Mo_feed_19 : xlk (xm_cd m_Mo_feed) 19 = some (.ireturn, 1, (0, 0, 0, [])) := rfl
theorem l_Mo_feed_20 : xlk (xm_cd m_Mo_feed) 20 = some (.iconst 0, 1, (0, 0, 0, [])) := rfl
theorem l_Mo_feed_21 : xlk (xm_cd m_Mo_feed) 21 = some (.istore 6, 2, (0, 0, 0, [])) := rfl
theorem l_Mo_feed_23 : xlk (xm_cd m_Mo_feed) 23 = some (.iload 6, 2, (0, 0, 0, [])) := rfl
theorem l_Mo_feed_25 : xlk (xm_cd m_Mo_feed) 25 = some (.bipush 20, 2, (0, 0, 0, [])) := rfl
theorem l_Mo_feed_27 : xlk (xm_cd m_Mo_feed) 27 = some (.if_icmp .ge 83, 3, (0, 110, 0, [])) := rfl
theorem l_Mo_feed_30 : xlk (xm_cd m_Mo_feed) 30 = some (.iload 6, 2, (0, 0, 0, [])) := rfl
theorem l_Mo_feed_32 : xlk (xm_cd m_Mo_feed) 32 = some (.iconst 4, 1, (0, 0, 0, [])) := rfl
theorem l_Mo_feed_33 : xlk (xm_cd m_Mo_feed) 33 = some (.if_icmp .ge 7, 3, (0, 40, 0, [])) := rfl
theorem l_Mo_feed_36 : xlk (xm_cd m_Mo_feed) 36 = some (.iload_n 1, 1, (0, 0, 0, [])) := rfl
theorem l_Mo_feed_37 : xlk (xm_cd m_Mo_feed) 37 = some (.goto 39, 3, (0, 76, 0, [])) := rfl
theorem l_Mo_feed_40 : xlk (xm_cd m_Mo_feed) 40 = some (.iload 6, 2, (0, 0, 0, [])) := rfl
theorem l_Mo_feed_42 : xlk (xm_cd m_Mo_feed) 42 = some (.bipush 8, 2, (0, 0, 0, [])) := rfl
theorem l_Mo_feed_44 : xlk (xm_cd m_Mo_feed) 44 = some (.if_icmp .ge 7, 3, (0, 51, 0, [])) := rfl
theorem l_Mo_feed_47 : xlk (xm_cd m_Mo_feed) 47 = some (.iload_n 2, 1, (0, 0, 0, [])) := rfl
theorem l_Mo_feed_48 : xlk (xm_cd m_Mo_feed) 48 = some (.goto 28, 3, (0, 76, 0, [])) := rfl
theorem l_Mo_feed_51 : xlk (xm_cd m_Mo_feed) 51 = some (.iload 6, 2, (0, 0, 0, [])) := rfl
theorem l_Mo_feed_53 : xlk (xm_cd m_Mo_feed) 53 = some (.bipush 12, 2, (0, 0, 0, [])) := rfl
theorem l_Mo_feed_55 : xlk (xm_cd m_Mo_feed) 55 = some (.if_icmp .ge 7, 3, (0, 62, 0, [])) := rfl
theorem l_Mo_feed_58 : xlk (xm_cd m_Mo_feed) 58 = some (.iload_n 3, 1, (0, 0, 0, [])) := rfl
theorem l_Mo_feed_59 : xlk (xm_cd m_Mo_feed) 59 = some (.goto 17, 3, (0, 76, 0, [])) := rfl
theorem l_Mo_feed_62 : xlk (xm_cd m_Mo_feed) 62 = some (.iload 6, 2, (0, 0, 0, [])) := rfl
theorem l_Mo_feed_64 : xlk (xm_cd m_Mo_feed) 64 = some (.bipush 16, 2, (0, 0, 0, [])) := rfl
theorem l_Mo_feed_66 : xlk (xm_cd m_Mo_feed) 66 = some (.if_icmp .ge 8, 3, (0, 74, 0, [])) := rfl
theorem l_Mo_feed_69 : xlk (xm_cd m_Mo_feed) 69 = some (.iload 4, 2, (0, 0, 0, [])) := rfl
theorem l_Mo_feed_71 : xlk (xm_cd m_Mo_feed) 71 = some (.goto 5, 3, (0, 76, 0, [])) := rfl
theorem l_Mo_feed_74 : xlk (xm_cd m_Mo_feed) 74 = some (.iload 5, 2, (0, 0, 0, [])) := rfl
theorem l_Mo_feed_76 : xlk (xm_cd m_Mo_feed) 76 = some (.istore 7, 2, (0, 0, 0, [])) := rfl
theorem l_Mo_feed_78 : xlk (xm_cd m_Mo_feed) 78 = some (.aload_n 0, 1, (0, 0, 0, [])) := rfl
theorem l_Mo_feed_79 : xlk (xm_cd m_Mo_feed) 79 = some (.getfield 13, 3, (850, 11, 1, [])) := rfl
theorem l_Mo_feed_82 : xlk (xm_cd m_Mo_feed) 82 = some (.aload_n 0, 1, (0, 0, 0, [])) := rfl
theorem l_Mo_feed_83 : xlk (xm_cd m_Mo_feed) 83 = some (.getfield 127, 3, (851, 11, 2, [])) := rfl
theorem l_Mo_feed_86 : xlk (xm_cd m_Mo_feed) 86 = some (.iload 6, 2, (0, 0, 0, [])) := rfl
theorem l_Mo_feed_88 : xlk (xm_cd m_Mo_feed) 88 = some (.iadd, 1, (0, 0, 0, [])) := rfl
theorem l_Mo_feed_89 : xlk (xm_cd m_Mo_feed) 89 = some (.iload 7, 2, (0, 0, 0, [])) := rfl
theorem l_Mo_feed_91 : xlk (xm_cd m_Mo_feed) 91 = some (.bipush 24, 2, (0, 0, 0, [])) := rfl
theorem l_Mo_feed_93 : xlk (xm_cd m_Mo_feed) 93 = some (.bipush 8, 2, (0, 0, 0, [])) := rfl
theorem l_Mo_feed_95 : xlk (xm_cd m_Mo_feed) 95 = some (.iload 6, 2, (0, 0, 0, [])) := rfl
theorem l_Mo_feed_97 : xlk (xm_cd m_Mo_feed) 97 = some (.iconst 4, 1, (0, 0, 0, [])) := rfl
theorem l_Mo_feed_98 : xlk (xm_cd m_Mo_feed) 98 = some (.irem, 1, (0, 0, 0, [])) := rfl
theorem l_Mo_feed_99 : xlk (xm_cd m_Mo_feed) 99 = some (.imul, 1, (0, 0, 0, [])) := rfl
theorem l_Mo_feed_100 : xlk (xm_cd m_Mo_feed) 100 = some (.isub, 1, (0, 0, 0, [])) := rfl
theorem l_Mo_feed_101 : xlk (xm_cd m_Mo_feed) 101 = some (.iushr, 1, (0, 0, 0, [])) := rfl
theorem l_Mo_feed_102 : xlk (xm_cd m_Mo_feed) 102 = some (.i2b, 1, (0, 0, 0, [])) := rfl
theorem l_Mo_feed_103 : xlk (xm_cd m_Mo_feed) 103 = some (.bastore, 1, (0, 0, 0, [])) := rfl
theorem l_Mo_feed_104 : xlk (xm_cd m_Mo_feed) 104 = some (.iinc 6 1, 3, (0, 0, 0, [])) := rfl
theorem l_Mo_feed_107 : xlk (xm_cd m_Mo_feed) 107 = some (.goto (-84), 3, (0, 23, 0, [])) := rfl
theorem l_Mo_feed_110 : xlk (xm_cd m_Mo_feed) 110 = some (.aload_n 0, 1, (0, 0, 0, [])) := rfl
theorem l_Mo_feed_111 : xlk (xm_cd m_Mo_feed) 111 = some (.aload_n 0, 1, (0, 0, 0, [])) := rfl
theorem l_Mo_feed_112 : xlk (xm_cd m_Mo_feed) 112 = some (.getfield 127, 3, (851, 11, 2, [])) := rfl
theorem l_Mo_feed_115 : xlk (xm_cd m_Mo_feed) 115 = some (.bipush 20, 2, (0, 0, 0, [])) := rfl
theorem l_Mo_feed_117 : xlk (xm_cd m_Mo_feed) 117 = some (.iadd, 1, (0, 0, 0, [])) := rfl
theorem l_Mo_feed_118 : xlk (xm_cd m_Mo_feed) 118 = some (.putfield 127, 3, (851, 11, 2, [(0, 0)])) := rfl
theorem l_Mo_feed_121 : xlk (xm_cd m_Mo_feed) 121 = some (.aload_n 0, 1, (0, 0, 0, [])) := rfl
theorem l_Mo_feed_122 : xlk (xm_cd m_Mo_feed) 122 = some (.getfield 127, 3, (851, 11, 2, [])) := rfl
theorem l_Mo_feed_125 : xlk (xm_cd m_Mo_feed) 125 = some (.ireturn, 1, (0, 0, 0, [])) := rfl
def B_Mo_feed_0 (d : Nat) (E : Option Value → xH → Prop) (f : xH) (a0 : Nat) (x1 : Int32) (x2 : Int32) (x3 : Int32) (x4 : Int32) (x5 : Int32) : Prop :=
  xpf f a0 11 0 (.int 0) (fun f1 => xgi f1 a0 11 2 (fun v2 => xbr ((v2 + 20) ≤ 80) (xWp (xT0, xSp xT0 d, none, m_Mo_feed, E) 23 [some (.ref a0), some (.int x1), some (.int x2), some (.int x3), some (.int x4), some (.int x5), some (.int 0), none] [] f1 0 0) (E (some (.int (-3))) f1)))
theorem b_Mo_feed_0 {d : Nat} {E : Option Value → xH → Prop} {f : xH} {a0 : Nat} {x1 : Int32} {x2 : Int32} {x3 : Int32} {x4 : Int32} {x5 : Int32} (h : B_Mo_feed_0 d E f a0 x1 x2 x3 x4 x5) : xWp (xT0, xSp xT0 d, none, m_Mo_feed, E) 0 [some (.ref a0), some (.int x1), some (.int x2), some (.int x3), some (.int x4), some (.int x5), none, none] [] f 0 0 := by
  unfold B_Mo_feed_0 at h
  refine s_aln l_Mo_feed_0 rfl ?_
  refine s_ic 0 l_Mo_feed_1 rfl ?_
  refine s_pf l_Mo_feed_2 ⟨_, rfl⟩ h (fun f1 h => ?_)
  refine s_aln l_Mo_feed_5 rfl ?_
  refine s_gi l_Mo_feed_6 h (fun v2 h => ?_)
  refine s_bp 20 l_Mo_feed_9 rfl ?_
  refine s_iadd l_Mo_feed_11 ?_
  refine s_bp 80 l_Mo_feed_12 rfl ?_
  refine s_ifc l_Mo_feed_14 h (fun h => ?_) (fun h => ?_)
  · refine s_ic 0 l_Mo_feed_20 rfl ?_
    refine s_is l_Mo_feed_21 (Nat.le_of_ble_eq_true rfl) ?_
    exact h
  · refine s_bp (-3) l_Mo_feed_17 rfl ?_
    exact s_iret l_Mo_feed_19 rfl ⟨Nat.zero_le _, Nat.zero_le _⟩ h
def B_Mo_feed_23 (d : Nat) (E : Option Value → xH → Prop) (f : xH) (a0 : Nat) (x1 : Int32) (x2 : Int32) (x3 : Int32) (x4 : Int32) (x5 : Int32) (x6 : Int32) (u7 : Option Value) : Prop :=
  xbr ((20 : Int32) ≤ x6) (xgi f a0 11 2 (fun v1 => xpf f a0 11 2 (.int (v1 + 20)) (fun f2 => xgi f2 a0 11 2 (fun v3 => E (some (.int v3)) f2)))) (xbr ((4 : Int32) ≤ x6) (xbr ((8 : Int32) ≤ x6) (xbr ((12 : Int32) ≤ x6) (xbr ((16 : Int32) ≤ x6) (xWp (xT0, xSp xT0 d, none, m_Mo_feed, E) 76 [some (.ref a0), some (.int x1), some (.int x2), some (.int x3), some (.int x4), some (.int x5), some (.int x6), u7] [.int x5] f 0 0) (xWp (xT0, xSp xT0 d, none, m_Mo_feed, E) 76 [some (.ref a0), some (.int x1), some (.int x2), some (.int x3), some (.int x4), some (.int x5), some (.int x6), u7] [.int x4] f 0 0)) (xWp (xT0, xSp xT0 d, none, m_Mo_feed, E) 76 [some (.ref a0), some (.int x1), some (.int x2), some (.int x3), some (.int x4), some (.int x5), some (.int x6), u7] [.int x3] f 0 0)) (xWp (xT0, xSp xT0 d, none, m_Mo_feed, E) 76 [some (.ref a0), some (.int x1), some (.int x2), some (.int x3), some (.int x4), some (.int x5), some (.int x6), u7] [.int x2] f 0 0)) (xWp (xT0, xSp xT0 d, none, m_Mo_feed, E) 76 [some (.ref a0), some (.int x1), some (.int x2), some (.int x3), some (.int x4), some (.int x5), some (.int x6), u7] [.int x1] f 0 0))
theorem b_Mo_feed_23 {d : Nat} {E : Option Value → xH → Prop} {f : xH} {a0 : Nat} {x1 : Int32} {x2 : Int32} {x3 : Int32} {x4 : Int32} {x5 : Int32} {x6 : Int32} {u7 : Option Value} (h : B_Mo_feed_23 d E f a0 x1 x2 x3 x4 x5 x6 u7) : xWp (xT0, xSp xT0 d, none, m_Mo_feed, E) 23 [some (.ref a0), some (.int x1), some (.int x2), some (.int x3), some (.int x4), some (.int x5), some (.int x6), u7] [] f 0 0 := by
  unfold B_Mo_feed_23 at h
  refine s_il l_Mo_feed_23 rfl ?_
  refine s_bp 20 l_Mo_feed_25 rfl ?_
  refine s_ifc l_Mo_feed_27 h (fun h => ?_) (fun h => ?_)
  · refine s_aln l_Mo_feed_110 rfl ?_
    refine s_aln l_Mo_feed_111 rfl ?_
    refine s_gi l_Mo_feed_112 h (fun v1 h => ?_)
    refine s_bp 20 l_Mo_feed_115 rfl ?_
    refine s_iadd l_Mo_feed_117 ?_
    refine s_pf l_Mo_feed_118 ⟨_, rfl⟩ h (fun f2 h => ?_)
    refine s_aln l_Mo_feed_121 rfl ?_
    refine s_gi l_Mo_feed_122 h (fun v3 h => ?_)
    exact s_iret l_Mo_feed_125 rfl ⟨Nat.zero_le _, Nat.zero_le _⟩ h
  · refine s_il l_Mo_feed_30 rfl ?_
    refine s_ic 4 l_Mo_feed_32 rfl ?_
    refine s_ifc l_Mo_feed_33 h (fun h => ?_) (fun h => ?_)
    · refine s_il l_Mo_feed_40 rfl ?_
      refine s_bp 8 l_Mo_feed_42 rfl ?_
      refine s_ifc l_Mo_feed_44 h (fun h => ?_) (fun h => ?_)
      · refine s_il l_Mo_feed_51 rfl ?_
        refine s_bp 12 l_Mo_feed_53 rfl ?_
        refine s_ifc l_Mo_feed_55 h (fun h => ?_) (fun h => ?_)
        · refine s_il l_Mo_feed_62 rfl ?_
          refine s_bp 16 l_Mo_feed_64 rfl ?_
          refine s_ifc l_Mo_feed_66 h (fun h => ?_) (fun h => ?_)
          · refine s_il l_Mo_feed_74 rfl ?_
            exact h
          · refine s_il l_Mo_feed_69 rfl ?_
            refine s_goto l_Mo_feed_71 ?_
            exact h
        · refine s_iln l_Mo_feed_58 rfl ?_
          refine s_goto l_Mo_feed_59 ?_
          exact h
      · refine s_iln l_Mo_feed_47 rfl ?_
        refine s_goto l_Mo_feed_48 ?_
        exact h
    · refine s_iln l_Mo_feed_36 rfl ?_
      refine s_goto l_Mo_feed_37 ?_
      exact h
def B_Mo_feed_76 (d : Nat) (E : Option Value → xH → Prop) (f : xH) (a0 : Nat) (x1 : Int32) (x2 : Int32) (x3 : Int32) (x4 : Int32) (x5 : Int32) (x6 : Int32) (u7 : Option Value) (s0 : Int32) : Prop :=
  xgr f a0 11 1 (fun r1 => xgi f a0 11 2 (fun v2 => (¬ 4 = (0 : Int32)) ∧ (xas f r1 2 (v2 + x6) (((s0.toUInt32 >>> ((24 - (8 * (x6 - x6 / 4 * 4))).toUInt32 &&& Int32.toUInt32 31)).toInt32).toInt8.toInt32).toInt8.toInt32 (fun f3 => xWp (xT0, xSp xT0 d, none, m_Mo_feed, E) 23 [some (.ref a0), some (.int x1), some (.int x2), some (.int x3), some (.int x4), some (.int x5), some (.int (x6 + 1)), some (.int s0)] [] f3 0 0))))
theorem b_Mo_feed_76 {d : Nat} {E : Option Value → xH → Prop} {f : xH} {a0 : Nat} {x1 : Int32} {x2 : Int32} {x3 : Int32} {x4 : Int32} {x5 : Int32} {x6 : Int32} {u7 : Option Value} {s0 : Int32} (h : B_Mo_feed_76 d E f a0 x1 x2 x3 x4 x5 x6 u7 s0) : xWp (xT0, xSp xT0 d, none, m_Mo_feed, E) 76 [some (.ref a0), some (.int x1), some (.int x2), some (.int x3), some (.int x4), some (.int x5), some (.int x6), u7] [.int s0] f 0 0 := by
  unfold B_Mo_feed_76 at h
  refine s_is l_Mo_feed_76 (Nat.le_of_ble_eq_true rfl) ?_
  refine s_aln l_Mo_feed_78 rfl ?_
  refine s_gr l_Mo_feed_79 h (fun r1 h => ?_)
  refine s_aln l_Mo_feed_82 rfl ?_
  refine s_gi l_Mo_feed_83 h (fun v2 h => ?_)
  refine s_il l_Mo_feed_86 rfl ?_
  refine s_iadd l_Mo_feed_88 ?_
  refine s_il l_Mo_feed_89 rfl ?_
  refine s_bp 24 l_Mo_feed_91 rfl ?_
  refine s_bp 8 l_Mo_feed_93 rfl ?_
  refine s_il l_Mo_feed_95 rfl ?_
  refine s_ic 4 l_Mo_feed_97 rfl ?_
  refine s_rem l_Mo_feed_98 ⟨h.1, ?_⟩
  have h := h.2
  refine s_imul l_Mo_feed_99 ?_
  refine s_isub l_Mo_feed_100 ?_
  refine s_iushr l_Mo_feed_101 ?_
  refine s_i2b l_Mo_feed_102 ?_
  refine s_bast l_Mo_feed_103 h (fun f3 h => ?_)
  refine s_inc 1 l_Mo_feed_104 rfl rfl ?_
  refine s_goto l_Mo_feed_107 ?_
  exact h
theorem l_Mo_end_0 : xlk (xm_cd m_Mo_end) 0 = some (.aload_n 0, 1, (0, 0, 0, [])) := rfl
theorem l_Mo_end_1 : xlk (xm_cd m_Mo_end) 1 = some (.iconst 0, 1, (0, 0, 0, [])) := rfl
theorem l_Mo_end_2 : xlk (xm_cd m_Mo_end) 2 = some (.putfield 1, 3, (849, 11, 0, [(0, 0)])) := rfl
theorem l_Mo_end_5 : xlk (xm_cd m_Mo_end) 5 = some (.iload_n 1, 1, (0, 0, 0, [])) := rfl
theorem l_Mo_end_6 : xlk (xm_cd m_Mo_end) 6 = some (.i2l, 1, (0, 0, 0, [])) := rfl
theorem l_Mo_end_7 : xlk (xm_cd m_Mo_end) 7 = some (.lconst 0, 1, (0, 0, 0, [])) := rfl
theorem l_Mo_end_8 : xlk (xm_cd m_Mo_end) 8 = some (.ldc2_w 130, 3, (954, 0, 0, [(20, 0)])) := rfl
theorem l_Mo_end_11 : xlk (xm_cd m_Mo_end) 11 = some (.invokestatic 132, 3, (955, 0, 0, [(2, 2)])) := rfl
theorem l_Mo_end_14 : xlk (xm_cd m_Mo_end) 14 = some (.ifCond .eq 12, 3, (0, 26, 0, [])) := rfl
theorem l_Mo_end_17 : xlk (xm_cd m_Mo_end) 17 = some (.aload_n 0, 1, (0, 0, 0, [])) := rfl
theorem l_Mo_end_18 : xlk (xm_cd m_Mo_end) 18 = some (.getfield 127, 3, (851, 11, 2, [])) := rfl
theorem l_Mo_end_21 : xlk (xm_cd m_Mo_end) 21 = some (.bipush 20, 2, (0, 0, 0, [])) := rfl
theorem l_Mo_end_23 : xlk (xm_cd m_Mo_end) 23 = some (.if_icmp .ge 5, 3, (0, 28, 0, [])) := rfl
theorem l_Mo_end_26 : xlk (xm_cd m_Mo_end) 26 = some (.iconst (-1), 1, (0, 0, 0, [])) := rfl
theorem l_Mo_end_27 : xlk (xm_cd m_Mo_end) 27 = some (.ireturn, 1, (0, 0, 0, [])) := rfl
theorem l_Mo_end_28 : xlk (xm_cd m_Mo_end) 28 = some (.aload_n 0, 1, (0, 0, 0, [])) := rfl
theorem l_Mo_end_29 : xlk (xm_cd m_Mo_end) 29 = some (.aload_n 0, 1, (0, 0, 0, [])) := rfl
theorem l_Mo_end_30 : xlk (xm_cd m_Mo_end) 30 = some (.getfield 127, 3, (851, 11, 2, [])) := rfl
theorem l_Mo_end_33 : xlk (xm_cd m_Mo_end) 33 = some (.iload_n 1, 1, (0, 0, 0, [])) := rfl
theorem l_Mo_end_34 : xlk (xm_cd m_Mo_end) 34 = some (.iadd, 1, (0, 0, 0, [])) := rfl
theorem l_Mo_end_35 : xlk (xm_cd m_Mo_end) 35 = some (.bipush 20, 2, (0, 0, 0, [])) := rfl
theorem l_Mo_end_37 : xlk (xm_cd m_Mo_end) 37 = some (.isub, 1, (0, 0, 0, [])) := rfl
theorem l_Mo_end_38 : xlk (xm_cd m_Mo_end) 38 = some (.putfield 127, 3, (851, 11, 2, [(0, 0)])) := rfl
theorem l_Mo_end_41 : xlk (xm_cd m_Mo_end) 41 = some (.aload_n 0, 1, (0, 0, 0, [])) := rfl
theorem l_Mo_end_42 : xlk (xm_cd m_Mo_end) 42 = some (.getfield 127, 3, (851, 11, 2, [])) := rfl
theorem l_Mo_end_45 : xlk (xm_cd m_Mo_end) 45 = some (.ireturn, 1, (0, 0, 0, [])) := rfl
def B_Mo_end_0 (d : Nat) (E : Option Value → xH → Prop) (f : xH) (a0 : Nat) (x1 : Int32) : Prop :=
  xpf f a0 11 0 (.int 0) (fun f1 => xbr ((if (0 : Int64) ≤ x1.toInt64 ∧ x1.toInt64 ≤ 20 then (1 : Int32) else 0) = 0) (E (some (.int (-1))) f1) (xgi f1 a0 11 2 (fun v2 => xbr ((20 : Int32) ≤ v2) (xgi f1 a0 11 2 (fun v3 => xpf f1 a0 11 2 (.int ((v3 + x1) - 20)) (fun f4 => xgi f4 a0 11 2 (fun v5 => E (some (.int v5)) f4)))) (E (some (.int (-1))) f1))))
theorem b_Mo_end_0 {d : Nat} {E : Option Value → xH → Prop} {f : xH} {a0 : Nat} {x1 : Int32} (h : B_Mo_end_0 d E f a0 x1) : xWp (xT0, xSp xT0 d, none, m_Mo_end, E) 0 [some (.ref a0), some (.int x1)] [] f 0 0 := by
  unfold B_Mo_end_0 at h
  refine s_aln l_Mo_end_0 rfl ?_
  refine s_ic 0 l_Mo_end_1 rfl ?_
  refine s_pf l_Mo_end_2 ⟨_, rfl⟩ h (fun f1 h => ?_)
  refine s_iln l_Mo_end_5 rfl ?_
  refine s_i2l l_Mo_end_6 ?_
  refine s_lc 0 l_Mo_end_7 rfl ?_
  refine s_ldc2 20 l_Mo_end_8 rfl ?_
  refine s_in l_Mo_end_11 (Nat.le_of_ble_eq_true rfl) ⟨Nat.zero_le _, Nat.zero_le _⟩ ?_
  refine s_if l_Mo_end_14 h (fun h => ?_) (fun h => ?_)
  · refine s_ic (-1) l_Mo_end_26 rfl ?_
    exact s_iret l_Mo_end_27 rfl ⟨Nat.zero_le _, Nat.zero_le _⟩ h
  · refine s_aln l_Mo_end_17 rfl ?_
    refine s_gi l_Mo_end_18 h (fun v2 h => ?_)
    refine s_bp 20 l_Mo_end_21 rfl ?_
    refine s_ifc l_Mo_end_23 h (fun h => ?_) (fun h => ?_)
    · refine s_aln l_Mo_end_28 rfl ?_
      refine s_aln l_Mo_end_29 rfl ?_
      refine s_gi l_Mo_end_30 h (fun v3 h => ?_)
      refine s_iln l_Mo_end_33 rfl ?_
      refine s_iadd l_Mo_end_34 ?_
      refine s_bp 20 l_Mo_end_35 rfl ?_
      refine s_isub l_Mo_end_37 ?_
      refine s_pf l_Mo_end_38 ⟨_, rfl⟩ h (fun f4 h => ?_)
      refine s_aln l_Mo_end_41 rfl ?_
      refine s_gi l_Mo_end_42 h (fun v5 h => ?_)
      exact s_iret l_Mo_end_45 rfl ⟨Nat.zero_le _, Nat.zero_le _⟩ h
    · refine s_ic (-1) l_Mo_end_26 rfl ?_
      exact s_iret l_Mo_end_27 rfl ⟨Nat.zero_le _, Nat.zero_le _⟩ h
theorem l_Mo_path_0 : xlk (xm_cd m_Mo_path) 0 = some (.aload_n 0, 1, (0, 0, 0, [])) := rfl
theorem l_Mo_path_1 : xlk (xm_cd m_Mo_path) 1 = some (.iconst 0, 1, (0, 0, 0, [])) := rfl
theorem l_Mo_path_2 : xlk (xm_cd m_Mo_path) 2 = some (.putfield 1, 3, (849, 11, 0, [(0, 0)])) := rfl
theorem l_Mo_path_5 : xlk (xm_cd m_Mo_path) 5 = some (.aload_n 0, 1, (0, 0, 0, [])) := rfl
theorem l_Mo_path_6 : xlk (xm_cd m_Mo_path) 6 = some (.getfield 127, 3, (851, 11, 2, [])) := rfl
theorem l_Mo_path_9 : xlk (xm_cd m_Mo_path) 9 = some (.istore_n 1, 1, (0, 0, 0, [])) := rfl
theorem l_Mo_path_10 : xlk (xm_cd m_Mo_path) 10 = some (.aload_n 0, 1, (0, 0, 0, [])) := rfl
theorem l_Mo_path_11 : xlk (xm_cd m_Mo_path) 11 = some (.iconst 0, 1, (0, 0, 0, [])) := rfl
theorem l_Mo_path_12 : xlk (xm_cd m_Mo_path) 12 = some (.putfield 127, 3, (851, 11, 2, [(0, 0)])) := rfl
theorem l_Mo_path_15 : xlk (xm_cd m_Mo_path) 15 = some (.iconst 1, 1, (0, 0, 0, [])) := rfl
theorem l_Mo_path_16 : xlk (xm_cd m_Mo_path) 16 = some (.istore_n 2, 1, (0, 0, 0, [])) := rfl
theorem l_Mo_path_17 : xlk (xm_cd m_Mo_path) 17 = some (.iconst 0, 1, (0, 0, 0, [])) := rfl
theorem l_Mo_path_18 : xlk (xm_cd m_Mo_path) 18 = some (.istore_n 3, 1, (0, 0, 0, [])) := rfl
theorem l_Mo_path_19 : xlk (xm_cd m_Mo_path) 19 = some (.iload_n 1, 1, (0, 0, 0, [])) := rfl
theorem l_Mo_path_20 : xlk (xm_cd m_Mo_path) 20 = some (.ifCond .le 13, 3, (0, 33, 0, [])) := rfl
theorem l_Mo_path_23 : xlk (xm_cd m_Mo_path) 23 = some (.iload_n 1, 1, (0, 0, 0, [])) := rfl
theorem l_Mo_path_24 : xlk (xm_cd m_Mo_path) 24 = some (.bipush 17, 2, (0, 0, 0, [])) := rfl
theorem l_Mo_path_26 : xlk (xm_cd m_Mo_path) 26 = some (.if_icmp .gt 7, 3, (0, 33, 0, [])) := rfl
theorem l_Mo_path_29 : xlk (xm_cd m_Mo_path) 29 = some (.iconst 1, 1, (0, 0, 0, [])) := rfl
theorem l_Mo_path_30 : xlk (xm_cd m_Mo_path) 30 = some (.goto 4, 3, (0, 34, 0, [])) := rfl
theorem l_Mo_path_33 : xlk (xm_cd m_Mo_path) 33 = some (.iconst 0, 1, (0, 0, 0, [])) := rfl
theorem l_Mo_path_34 : xlk (xm_cd m_Mo_path) 34 = some (.istore 4, 2, (0, 0, 0, [])) := rfl
theorem l_Mo_path_36 : xlk (xm_cd m_Mo_path) 36 = some (.iconst 0, 1, (0, 0, 0, [])) := rfl
theorem l_Mo_path_37 : xlk (xm_cd m_Mo_path) 37 = some (.istore 5, 2, (0, 0, 0, [])) := rfl
theorem l_Mo_path_39 : xlk (xm_cd m_Mo_path) 39 = some (.iload 5, 2, (0, 0, 0, [])) := rfl
theorem l_Mo_path_41 : xlk (xm_cd m_Mo_path) 41 = some (.iload_n 1, 1, (0, 0, 0, [])) := rfl
theorem l_Mo_path_42 : xlk (xm_cd m_Mo_path) 42 = some (.if_icmp .ge 80, 3, (0, 122, 0, [])) := rfl
theorem l_Mo_path_45 : xlk (xm_cd m_Mo_path) 45 = some (.iload 4, 2, (0, 0, 0, [])) := rfl
theorem l_Mo_path_47 : xlk (xm_cd m_Mo_path) 47 = some (.ifCond .eq 75, 3, (0, 122, 0, [])) := rfl
theorem l_Mo_path_50 : xlk (xm_cd m_Mo_path) 50 = some (.aload_n 0, 1, (0, 0, 0, [])) := rfl
theorem l_Mo_path_51 : xlk (xm_cd m_Mo_path) 51 = some (.getfield 13, 3, (850, 11, 1, [])) := rfl
theorem l_Mo_path_54 : xlk (xm_cd m_Mo_path) 54 = some (.iload 5, 2, (0, 0, 0, [])) := rfl
theorem l_Mo_path_56 : xlk (xm_cd m_Mo_path) 56 = some (.baload, 1, (0, 0, 0, [])) := rfl
theorem l_Mo_path_57 : xlk (xm_cd m_Mo_path) 57 = some (.bipush 47, 2, (0, 0, 0, [])) := rfl
theorem l_Mo_path_59 : xlk (xm_cd m_Mo_path) 59 = some (.if_icmp .ne 22, 3, (0, 81, 0, [])) := rfl
theorem l_Mo_path_62 : xlk (xm_cd m_Mo_path) 62 = some (.iload_n 3, 1, (0, 0, 0, [])) := rfl
theorem l_Mo_path_63 : xlk (xm_cd m_Mo_path) 63 = some (.ifCond .le 7, 3, (0, 70, 0, [])) := rfl
theorem l_Mo_path_66 : xlk (xm_cd m_Mo_path) 66 = some (.iconst 1, 1, (0, 0, 0, [])) := rfl
theorem l_Mo_path_67 : xlk (xm_cd m_Mo_path) 67 = some (.goto 4, 3, (0, 71, 0, [])) := rfl
theorem l_Mo_path_70 : xlk (xm_cd m_Mo_path) 70 = some (.iconst 0, 1, (0, 0, 0, [])) := rfl
theorem l_Mo_path_71 : xlk (xm_cd m_Mo_path) 71 = some (.istore 4, 2, (0, 0, 0, [])) := rfl
theorem l_Mo_path_73 : xlk (xm_cd m_Mo_path) 73 = some (.iconst 0, 1, (0, 0, 0, [])) := rfl
theorem l_Mo_path_74 : xlk (xm_cd m_Mo_path) 74 = some (.istore_n 3, 1, (0, 0, 0, [])) := rfl
theorem l_Mo_path_75 : xlk (xm_cd m_Mo_path) 75 = some (.iinc 2 1, 3, (0, 0, 0, [])) := rfl
theorem l_Mo_path_78 : xlk (xm_cd m_Mo_path) 78 = some (.goto 38, 3, (0, 116, 0, [])) := rfl
theorem l_Mo_path_81 : xlk (xm_cd m_Mo_path) 81 = some (.iinc 3 1, 3, (0, 0, 0, [])) := rfl
theorem l_Mo_path_84 : xlk (xm_cd m_Mo_path) 84 = some (.aload_n 0, 1, (0, 0, 0, [])) := rfl
theorem l_Mo_path_85 : xlk (xm_cd m_Mo_path) 85 = some (.getfield 13, 3, (850, 11, 1, [])) := rfl
theorem l_Mo_path_88 : xlk (xm_cd m_Mo_path) 88 = some (.iload 5, 2, (0, 0, 0, [])) := rfl
theorem l_Mo_path_90 : xlk (xm_cd m_Mo_path) 90 = some (.baload, 1, (0, 0, 0, [])) := rfl
theorem l_Mo_path_91 : xlk (xm_cd m_Mo_path) 91 = some (.i2l, 1, (0, 0, 0, [])) := rfl
theorem l_Mo_path_92 : xlk (xm_cd m_Mo_path) 92 = some (.ldc2_w 136, 3, (962, 0, 0, [(97, 0)])) := rfl
theorem l_Mo_path_95 : xlk (xm_cd m_Mo_path) 95 = some (.ldc2_w 138, 3, (963, 0, 0, [(122, 0)])) := rfl
theorem l_Mo_path_98 : xlk (xm_cd m_Mo_path) 98 = some (.invokestatic 132, 3, (955, 0, 0, [(2, 2)])) := rfl
theorem l_Mo_path_101 : xlk (xm_cd m_Mo_path) 101 = some (.ifCond .eq 12, 3, (0, 113, 0, [])) := rfl
theorem l_Mo_path_104 : xlk (xm_cd m_Mo_path) 104 = some (.iload_n 3, 1, (0, 0, 0, [])) := rfl
theorem l_Mo_path_105 : xlk (xm_cd m_Mo_path) 105 = some (.iconst 5, 1, (0, 0, 0, [])) := rfl
theorem l_Mo_path_106 : xlk (xm_cd m_Mo_path) 106 = some (.if_icmp .gt 7, 3, (0, 113, 0, [])) := rfl
theorem l_Mo_path_109 : xlk (xm_cd m_Mo_path) 109 = some (.iconst 1, 1, (0, 0, 0, [])) := rfl
theorem l_Mo_path_110 : xlk (xm_cd m_Mo_path) 110 = some (.goto 4, 3, (0, 114, 0, [])) := rfl
theorem l_Mo_path_113 : xlk (xm_cd m_Mo_path) 113 = some (.iconst 0, 1, (0, 0, 0, [])) := rfl
theorem l_Mo_path_114 : xlk (xm_cd m_Mo_path) 114 = some (.istore 4, 2, (0, 0, 0, [])) := rfl
theorem l_Mo_path_116 : xlk (xm_cd m_Mo_path) 116 = some (.iinc 5 1, 3, (0, 0, 0, [])) := rfl
theorem l_Mo_path_119 : xlk (xm_cd m_Mo_path) 119 = some (.goto (-80), 3, (0, 39, 0, [])) := rfl
theorem l_Mo_path_122 : xlk (xm_cd m_Mo_path) 122 = some (.iload 4, 2, (0, 0, 0, [])) := rfl
theorem l_Mo_path_124 : xlk (xm_cd m_Mo_path) 124 = some (.ifCond .eq 12, 3, (0, 136, 0, [])) := rfl
theorem l_Mo_path_127 : xlk (xm_cd m_Mo_path) 127 = some (.iload_n 3, 1, (0, 0, 0, [])) := rfl
theorem l_Mo_path_128 : xlk (xm_cd m_Mo_path) 128 = some (.ifCond .eq 8, 3, (0, 136, 0, [])) := rfl
theorem l_Mo_path_131 : xlk (xm_cd m_Mo_path) 131 = some (.iload_n 2, 1, (0, 0, 0, [])) := rfl
theorem l_Mo_path_132 : xlk (xm_cd m_Mo_path) 132 = some (.iconst 3, 1, (0, 0, 0, [])) := rfl
theorem l_Mo_path_133 : xlk (xm_cd m_Mo_path) 133 = some (.if_icmp .le 5, 3, (0, 138, 0, [])) := rfl
theorem l_Mo_path_136 : xlk (xm_cd m_Mo_path) 136 = some (.iconst (-1), 1, (0, 0, 0, [])) := rfl
theorem l_Mo_path_137 : xlk (xm_cd m_Mo_path) 137 = some (.ireturn, 1, (0, 0, 0, [])) := rfl
theorem l_Mo_path_138 : xlk (xm_cd m_Mo_path) 138 = some (.iconst 0, 1, (0, 0, 0, [])) := rfl
theorem l_Mo_path_139 : xlk (xm_cd m_Mo_path) 139 = some (.istore 5, 2, (0, 0, 0, [])) := rfl
theorem l_Mo_path_141 : xlk (xm_cd m_Mo_path) 141 = some (.iload 5, 2, (0, 0, 0, [])) := rfl
theorem l_Mo_path_143 : xlk (xm_cd m_Mo_path) 143 = some (.iload_n 1, 1, (0, 0, 0, [])) := rfl
theorem l_Mo_path_144 : xlk (xm_cd m_Mo_path) 144 = some (.if_icmp .ge 23, 3, (0, 167, 0, [])) := rfl
theorem l_Mo_path_147 : xlk (xm_cd m_Mo_path) 147 = some (.aload_n 0, 1, (0, 0, 0, [])) := rfl
theorem l_Mo_path_148 : xlk (xm_cd m_Mo_path) 148 = some (.getfield 17, 3, (852, 11, 3, [])) := rfl
theorem l_Mo_path_151 : xlk (xm_cd m_Mo_path) 151 = some (.iload 5, 2, (0, 0, 0, [])) := rfl
set_option maxRecDepth 20000 in
theorem l_Mo_path_153 : xlk (xm_cd m_Mo_path) 153 = some (.aload_n 0, 1, (0, 0, 0, [])) := rfl
set_option maxRecDepth 20000 in
theorem l_Mo_path_154 : xlk (xm_cd m_Mo_path) 154 = some (.getfield 13, 3, (850, 11, 1, [])) := rfl
set_option maxRecDepth 20000 in
theorem l_Mo_path_157 : xlk (xm_cd m_Mo_path) 157 = some (.iload 5, 2, (0, 0, 0, [])) := rfl
set_option maxRecDepth 20000 in
theorem l_Mo_path_159 : xlk (xm_cd m_Mo_path) 159 = some (.baload, 1, (0, 0, 0, [])) := rfl
set_option maxRecDepth 20000 in
theorem l_Mo_path_160 : xlk (xm_cd m_Mo_path) 160 = some (.bastore, 1, (0, 0, 0, [])) := rfl
set_option maxRecDepth 20000 in
theorem l_Mo_path_161 : xlk (xm_cd m_Mo_path) 161 = some (.iinc 5 1, 3, (0, 0, 0, [])) := rfl
set_option maxRecDepth 20000 in
theorem l_Mo_path_164 : xlk (xm_cd m_Mo_path) 164 = some (.goto (-23), 3, (0, 141, 0, [])) := rfl
set_option maxRecDepth 20000 in
theorem l_Mo_path_167 : xlk (xm_cd m_Mo_path) 167 = some (.aload_n 0, 1, (0, 0, 0, [])) := rfl
set_option maxRecDepth 20000 in
theorem l_Mo_path_168 : xlk (xm_cd m_Mo_path) 168 = some (.iload_n 1, 1, (0, 0, 0, [])) := rfl
set_option maxRecDepth 20000 in
theorem l_Mo_path_169 : xlk (xm_cd m_Mo_path) 169 = some (.putfield 140, 3, (853, 11, 4, [(0, 0)])) := rfl
set_option maxRecDepth 20000 in
theorem l_Mo_path_172 : xlk (xm_cd m_Mo_path) 172 = some (.iload_n 2, 1, (0, 0, 0, [])) := rfl
set_option maxRecDepth 20000 in
theorem l_Mo_path_173 : xlk (xm_cd m_Mo_path) 173 = some (.ireturn, 1, (0, 0, 0, [])) := rfl
def B_Mo_path_0 (d : Nat) (E : Option Value → xH → Prop) (f : xH) (a0 : Nat) : Prop :=
  xpf f a0 11 0 (.int 0) (fun f1 => xgi f1 a0 11 2 (fun v2 => xpf f1 a0 11 2 (.int 0) (fun f3 => xbr (v2 ≤ 0) (xWp (xT0, xSp xT0 d, none, m_Mo_path, E) 39 [some (.ref a0), some (.int v2), some (.int 1), some (.int 0), some (.int 0), some (.int 0)] [] f3 0 0) (xbr ((17 : Int32) < v2) (xWp (xT0, xSp xT0 d, none, m_Mo_path, E) 39 [some (.ref a0), some (.int v2), some (.int 1), some (.int 0), some (.int 0), some (.int 0)] [] f3 0 0) (xWp (xT0, xSp xT0 d, none, m_Mo_path, E) 39 [some (.ref a0), some (.int v2), some (.int 1), some (.int 0), some (.int 1), some (.int 0)] [] f3 0 0)))))
theorem b_Mo_path_0 {d : Nat} {E : Option Value → xH → Prop} {f : xH} {a0 : Nat} (h : B_Mo_path_0 d E f a0) : xWp (xT0, xSp xT0 d, none, m_Mo_path, E) 0 [some (.ref a0), none, none, none, none, none] [] f 0 0 := by
  unfold B_Mo_path_0 at h
  refine s_aln l_Mo_path_0 rfl ?_
  refine s_ic 0 l_Mo_path_1 rfl ?_
  refine s_pf l_Mo_path_2 ⟨_, rfl⟩ h (fun f1 h => ?_)
  refine s_aln l_Mo_path_5 rfl ?_
  refine s_gi l_Mo_path_6 h (fun v2 h => ?_)
  refine s_isn l_Mo_path_9 (Nat.le_of_ble_eq_true rfl) ?_
  refine s_aln l_Mo_path_10 rfl ?_
  refine s_ic 0 l_Mo_path_11 rfl ?_
  refine s_pf l_Mo_path_12 ⟨_, rfl⟩ h (fun f3 h => ?_)
  refine s_ic 1 l_Mo_path_15 rfl ?_
  refine s_isn l_Mo_path_16 (Nat.le_of_ble_eq_true rfl) ?_
  refine s_ic 0 l_Mo_path_17 rfl ?_
  refine s_isn l_Mo_path_18 (Nat.le_of_ble_eq_true rfl) ?_
  refine s_iln l_Mo_path_19 rfl ?_
  refine s_if l_Mo_path_20 h (fun h => ?_) (fun h => ?_)
  · refine s_ic 0 l_Mo_path_33 rfl ?_
    refine s_is l_Mo_path_34 (Nat.le_of_ble_eq_true rfl) ?_
    refine s_ic 0 l_Mo_path_36 rfl ?_
    refine s_is l_Mo_path_37 (Nat.le_of_ble_eq_true rfl) ?_
    exact h
  · refine s_iln l_Mo_path_23 rfl ?_
    refine s_bp 17 l_Mo_path_24 rfl ?_
    refine s_ifc l_Mo_path_26 h (fun h => ?_) (fun h => ?_)
    · refine s_ic 0 l_Mo_path_33 rfl ?_
      refine s_is l_Mo_path_34 (Nat.le_of_ble_eq_true rfl) ?_
      refine s_ic 0 l_Mo_path_36 rfl ?_
      refine s_is l_Mo_path_37 (Nat.le_of_ble_eq_true rfl) ?_
      exact h
    · refine s_ic 1 l_Mo_path_29 rfl ?_
      refine s_goto l_Mo_path_30 ?_
      refine s_is l_Mo_path_34 (Nat.le_of_ble_eq_true rfl) ?_
      refine s_ic 0 l_Mo_path_36 rfl ?_
      refine s_is l_Mo_path_37 (Nat.le_of_ble_eq_true rfl) ?_
      exact h
def B_Mo_path_39 (d : Nat) (E : Option Value → xH → Prop) (f : xH) (a0 : Nat) (x1 : Int32) (x2 : Int32) (x3 : Int32) (x4 : Int32) (x5 : Int32) : Prop :=
  xbr (x1 ≤ x5) (xWp (xT0, xSp xT0 d, none, m_Mo_path, E) 122 [some (.ref a0), some (.int x1), some (.int x2), some (.int x3), some (.int x4), some (.int x5)] [] f 0 0) (xbr (x4 = 0) (xWp (xT0, xSp xT0 d, none, m_Mo_path, E) 122 [some (.ref a0), some (.int x1), some (.int x2), some (.int x3), some (.int x4), some (.int x5)] [] f 0 0) (xgr f a0 11 1 (fun r1 => xal f r1 2 x5 (fun v2 => xbr (¬ v2 = 47) (xgr f a0 11 1 (fun r3 => xal f r3 2 x5 (fun v4 => xbr ((if (97 : Int64) ≤ v4.toInt64 ∧ v4.toInt64 ≤ 122 then (1 : Int32) else 0) = 0) (xWp (xT0, xSp xT0 d, none, m_Mo_path, E) 39 [some (.ref a0), some (.int x1), some (.int x2), some (.int (x3 + 1)), some (.int 0), some (.int (x5 + 1))] [] f 0 0) (xbr ((5 : Int32) < (x3 + 1)) (xWp (xT0, xSp xT0 d, none, m_Mo_path, E) 39 [some (.ref a0), some (.int x1), some (.int x2), some (.int (x3 + 1)), some (.int 0), some (.int (x5 + 1))] [] f 0 0) (xWp (xT0, xSp xT0 d, none, m_Mo_path, E) 39 [some (.ref a0), some (.int x1), some (.int x2), some (.int (x3 + 1)), some (.int 1), some (.int (x5 + 1))] [] f 0 0))))) (xbr (x3 ≤ 0) (xWp (xT0, xSp xT0 d, none, m_Mo_path, E) 39 [some (.ref a0), some (.int x1), some (.int (x2 + 1)), some (.int 0), some (.int 0), some (.int (x5 + 1))] [] f 0 0) (xWp (xT0, xSp xT0 d, none, m_Mo_path, E) 39 [some (.ref a0), some (.int x1), some (.int (x2 + 1)), some (.int 0), some (.int 1), some (.int (x5 + 1))] [] f 0 0))))))
theorem b_Mo_path_39 {d : Nat} {E : Option Value → xH → Prop} {f : xH} {a0 : Nat} {x1 : Int32} {x2 : Int32} {x3 : Int32} {x4 : Int32} {x5 : Int32} (h : B_Mo_path_39 d E f a0 x1 x2 x3 x4 x5) : xWp (xT0, xSp xT0 d, none, m_Mo_path, E) 39 [some (.ref a0), some (.int x1), some (.int x2), some (.int x3), some (.int x4), some (.int x5)] [] f 0 0 := by
  unfold B_Mo_path_39 at h
  refine s_il l_Mo_path_39 rfl ?_
  refine s_iln l_Mo_path_41 rfl ?_
  refine s_ifc l_Mo_path_42 h (fun h => ?_) (fun h => ?_)
  · exact h
  · refine s_il l_Mo_path_45 rfl ?_
    refine s_if l_Mo_path_47 h (fun h => ?_) (fun h => ?_)
    · exact h
    · refine s_aln l_Mo_path_50 rfl ?_
      refine s_gr l_Mo_path_51 h (fun r1 h => ?_)
      refine s_il l_Mo_path_54 rfl ?_
      refine s_bal l_Mo_path_56 (Or.inr rfl) h (fun v2 h => ?_)
      refine s_bp 47 l_Mo_path_57 rfl ?_
      refine s_ifc l_Mo_path_59 h (fun h => ?_) (fun h => ?_)
      · refine s_inc 1 l_Mo_path_81 rfl rfl ?_
        refine s_aln l_Mo_path_84 rfl ?_
        refine s_gr l_Mo_path_85 h (fun r3 h => ?_)
        refine s_il l_Mo_path_88 rfl ?_
        refine s_bal l_Mo_path_90 (Or.inr rfl) h (fun v4 h => ?_)
        refine s_i2l l_Mo_path_91 ?_
        refine s_ldc2 97 l_Mo_path_92 rfl ?_
        refine s_ldc2 122 l_Mo_path_95 rfl ?_
        refine s_in l_Mo_path_98 (Nat.le_of_ble_eq_true rfl) ⟨Nat.zero_le _, Nat.zero_le _⟩ ?_
        refine s_if l_Mo_path_101 h (fun h => ?_) (fun h => ?_)
        · refine s_ic 0 l_Mo_path_113 rfl ?_
          refine s_is l_Mo_path_114 (Nat.le_of_ble_eq_true rfl) ?_
          refine s_inc 1 l_Mo_path_116 rfl rfl ?_
          refine s_goto l_Mo_path_119 ?_
          exact h
        · refine s_iln l_Mo_path_104 rfl ?_
          refine s_ic 5 l_Mo_path_105 rfl ?_
          refine s_ifc l_Mo_path_106 h (fun h => ?_) (fun h => ?_)
          · refine s_ic 0 l_Mo_path_113 rfl ?_
            refine s_is l_Mo_path_114 (Nat.le_of_ble_eq_true rfl) ?_
            refine s_inc 1 l_Mo_path_116 rfl rfl ?_
            refine s_goto l_Mo_path_119 ?_
            exact h
          · refine s_ic 1 l_Mo_path_109 rfl ?_
            refine s_goto l_Mo_path_110 ?_
            refine s_is l_Mo_path_114 (Nat.le_of_ble_eq_true rfl) ?_
            refine s_inc 1 l_Mo_path_116 rfl rfl ?_
            refine s_goto l_Mo_path_119 ?_
            exact h
      · refine s_iln l_Mo_path_62 rfl ?_
        refine s_if l_Mo_path_63 h (fun h => ?_) (fun h => ?_)
        · refine s_ic 0 l_Mo_path_70 rfl ?_
          refine s_is l_Mo_path_71 (Nat.le_of_ble_eq_true rfl) ?_
          refine s_ic 0 l_Mo_path_73 rfl ?_
          refine s_isn l_Mo_path_74 (Nat.le_of_ble_eq_true rfl) ?_
          refine s_inc 1 l_Mo_path_75 rfl rfl ?_
          refine s_goto l_Mo_path_78 ?_
          refine s_inc 1 l_Mo_path_116 rfl rfl ?_
          refine s_goto l_Mo_path_119 ?_
          exact h
        · refine s_ic 1 l_Mo_path_66 rfl ?_
          refine s_goto l_Mo_path_67 ?_
          refine s_is l_Mo_path_71 (Nat.le_of_ble_eq_true rfl) ?_
          refine s_ic 0 l_Mo_path_73 rfl ?_
          refine s_isn l_Mo_path_74 (Nat.le_of_ble_eq_true rfl) ?_
          refine s_inc 1 l_Mo_path_75 rfl rfl ?_
          refine s_goto l_Mo_path_78 ?_
          refine s_inc 1 l_Mo_path_116 rfl rfl ?_
          refine s_goto l_Mo_path_119 ?_
          exact h
def B_Mo_path_122 (d : Nat) (E : Option Value → xH → Prop) (f : xH) (a0 : Nat) (x1 : Int32) (x2 : Int32) (x3 : Int32) (x4 : Int32) (x5 : Int32) : Prop :=
  xbr (x4 = 0) (E (some (.int (-1))) f) (xbr (x3 = 0) (E (some (.int (-1))) f) (xbr (x2 ≤ 3) (xWp (xT0, xSp xT0 d, none, m_Mo_path, E) 141 [some (.ref a0), some (.int x1), some (.int x2), some (.int x3), some (.int x4), some (.int 0)] [] f 0 0) (E (some (.int (-1))) f)))
theorem b_Mo_path_122 {d : Nat} {E : Option Value → xH → Prop} {f : xH} {a0 : Nat} {x1 : Int32} {x2 : Int32} {x3 : Int32} {x4 : Int32} {x5 : Int32} (h : B_Mo_path_122 d E f a0 x1 x2 x3 x4 x5) : xWp (xT0, xSp xT0 d, none, m_Mo_path, E) 122 [some (.ref a0), some (.int x1), some (.int x2), some (.int x3), some (.int x4), some (.int x5)] [] f 0 0 := by
  unfold B_Mo_path_122 at h
  refine s_il l_Mo_path_122 rfl ?_
  refine s_if l_Mo_path_124 h (fun h => ?_) (fun h => ?_)
  · refine s_ic (-1) l_Mo_path_136 rfl ?_
    exact s_iret l_Mo_path_137 rfl ⟨Nat.zero_le _, Nat.zero_le _⟩ h
  · refine s_iln l_Mo_path_127 rfl ?_
    refine s_if l_Mo_path_128 h (fun h => ?_) (fun h => ?_)
    · refine s_ic (-1) l_Mo_path_136 rfl ?_
      exact s_iret l_Mo_path_137 rfl ⟨Nat.zero_le _, Nat.zero_le _⟩ h
    · refine s_iln l_Mo_path_131 rfl ?_
      refine s_ic 3 l_Mo_path_132 rfl ?_
      refine s_ifc l_Mo_path_133 h (fun h => ?_) (fun h => ?_)
      · refine s_ic 0 l_Mo_path_138 rfl ?_
        refine s_is l_Mo_path_139 (Nat.le_of_ble_eq_true rfl) ?_
        exact h
      · refine s_ic (-1) l_Mo_path_136 rfl ?_
        exact s_iret l_Mo_path_137 rfl ⟨Nat.zero_le _, Nat.zero_le _⟩ h
def B_Mo_path_141 (d : Nat) (E : Option Value → xH → Prop) (f : xH) (a0 : Nat) (x1 : Int32) (x2 : Int32) (x3 : Int32) (x4 : Int32) (x5 : Int32) : Prop :=
  xbr (x1 ≤ x5) (xpf f a0 11 4 (.int x1) (fun f1 => E (some (.int x2)) f1)) (xgr f a0 11 3 (fun r2 => xgr f a0 11 1 (fun r3 => xal f r3 2 x5 (fun v4 => xas f r2 2 x5 v4.toInt8.toInt32 (fun f5 => xWp (xT0, xSp xT0 d, none, m_Mo_path, E) 141 [some (.ref a0), some (.int x1), some (.int x2), some (.int x3), some (.int x4), some (.int (x5 + 1))] [] f5 0 0)))))
theorem b_Mo_path_141 {d : Nat} {E : Option Value → xH → Prop} {f : xH} {a0 : Nat} {x1 : Int32} {x2 : Int32} {x3 : Int32} {x4 : Int32} {x5 : Int32} (h : B_Mo_path_141 d E f a0 x1 x2 x3 x4 x5) : xWp (xT0, xSp xT0 d, none, m_Mo_path, E) 141 [some (.ref a0), some (.int x1), some (.int x2), some (.int x3), some (.int x4), some (.int x5)] [] f 0 0 := by
  unfold B_Mo_path_141 at h
  refine s_il l_Mo_path_141 rfl ?_
  refine s_iln l_Mo_path_143 rfl ?_
  refine s_ifc l_Mo_path_144 h (fun h => ?_) (fun h => ?_)
  · refine s_aln l_Mo_path_167 rfl ?_
    refine s_iln l_Mo_path_168 rfl ?_
    refine s_pf l_Mo_path_169 ⟨_, rfl⟩ h (fun f1 h => ?_)
    refine s_iln l_Mo_path_172 rfl ?_
    exact s_iret l_Mo_path_173 rfl ⟨Nat.zero_le _, Nat.zero_le _⟩ h
  · refine s_aln l_Mo_path_147 rfl ?_
    refine s_gr l_Mo_path_148 h (fun r2 h => ?_)
    refine s_il l_Mo_path_151 rfl ?_
    refine s_aln l_Mo_path_153 rfl ?_
    refine s_gr l_Mo_path_154 h (fun r3 h => ?_)
    refine s_il l_Mo_path_157 rfl ?_
    refine s_bal l_Mo_path_159 (Or.inr rfl) h (fun v4 h => ?_)
    refine s_bast l_Mo_path_160 h (fun f5 h => ?_)
    refine s_inc 1 l_Mo_path_161 rfl rfl ?_
    refine s_goto l_Mo_path_164 ?_
    exact h
theorem l_Mo_tree_0 : xlk (xm_cd m_Mo_tree) 0 = some (.aload_n 0, 1, (0, 0, 0, [])) := rfl
theorem l_Mo_tree_1 : xlk (xm_cd m_Mo_tree) 1 = some (.iconst 0, 1, (0, 0, 0, [])) := rfl
theorem l_Mo_tree_2 : xlk (xm_cd m_Mo_tree) 2 = some (.putfield 1, 3, (849, 11, 0, [(0, 0)])) := rfl
theorem l_Mo_tree_5 : xlk (xm_cd m_Mo_tree) 5 = some (.iload_n 1, 1, (0, 0, 0, [])) := rfl
theorem l_Mo_tree_6 : xlk (xm_cd m_Mo_tree) 6 = some (.iconst (-1), 1, (0, 0, 0, [])) := rfl
theorem l_Mo_tree_7 : xlk (xm_cd m_Mo_tree) 7 = some (.if_icmp .eq 13, 3, (0, 20, 0, [])) := rfl
theorem l_Mo_tree_10 : xlk (xm_cd m_Mo_tree) 10 = some (.aload_n 0, 1, (0, 0, 0, [])) := rfl
theorem l_Mo_tree_11 : xlk (xm_cd m_Mo_tree) 11 = some (.iload_n 1, 1, (0, 0, 0, [])) := rfl
theorem l_Mo_tree_12 : xlk (xm_cd m_Mo_tree) 12 = some (.invokevirtual 170, 3, (968, 151, 1, [])) := rfl
theorem l_Mo_tree_15 : xlk (xm_cd m_Mo_tree) 15 = some (.ifCond .eq 5, 3, (0, 20, 0, [])) := rfl
theorem l_Mo_tree_18 : xlk (xm_cd m_Mo_tree) 18 = some (.iconst (-1), 1, (0, 0, 0, [])) := rfl
theorem l_Mo_tree_19 : xlk (xm_cd m_Mo_tree) 19 = some (.ireturn, 1, (0, 0, 0, [])) := rfl
theorem l_Mo_tree_20 : xlk (xm_cd m_Mo_tree) 20 = some (.aload_n 0, 1, (0, 0, 0, [])) := rfl
theorem l_Mo_tree_21 : xlk (xm_cd m_Mo_tree) 21 = some (.getfield 152, 3, (859, 11, 10, [])) := rfl
theorem l_Mo_tree_24 : xlk (xm_cd m_Mo_tree) 24 = some (.bipush 12, 2, (0, 0, 0, [])) := rfl
theorem l_Mo_tree_26 : xlk (xm_cd m_Mo_tree) 26 = some (.if_icmp .ne 6, 3, (0, 32, 0, [])) := rfl
theorem l_Mo_tree_29 : xlk (xm_cd m_Mo_tree) 29 = some (.bipush (-3), 2, (0, 0, 0, [])) := rfl
theorem l_Mo_tree_31 : xlk (xm_cd m_Mo_tree) 31 = some (.ireturn, 1, (0, 0, 0, [])) := rfl
theorem l_Mo_tree_32 : xlk (xm_cd m_Mo_tree) 32 = some (.aload_n 0, 1, (0, 0, 0, [])) := rfl
theorem l_Mo_tree_33 : xlk (xm_cd m_Mo_tree) 33 = some (.getfield 33, 3, (858, 11, 9, [])) := rfl
theorem l_Mo_tree_36 : xlk (xm_cd m_Mo_tree) 36 = some (.aload_n 0, 1, (0, 0, 0, [])) := rfl
theorem l_Mo_tree_37 : xlk (xm_cd m_Mo_tree) 37 = some (.getfield 152, 3, (859, 11, 10, [])) := rfl
theorem l_Mo_tree_40 : xlk (xm_cd m_Mo_tree) 40 = some (.iload_n 1, 1, (0, 0, 0, [])) := rfl
theorem l_Mo_tree_41 : xlk (xm_cd m_Mo_tree) 41 = some (.ifCond .ge 7, 3, (0, 48, 0, [])) := rfl
theorem l_Mo_tree_44 : xlk (xm_cd m_Mo_tree) 44 = some (.iconst 0, 1, (0, 0, 0, [])) := rfl
theorem l_Mo_tree_45 : xlk (xm_cd m_Mo_tree) 45 = some (.goto 9, 3, (0, 54, 0, [])) := rfl
theorem l_Mo_tree_48 : xlk (xm_cd m_Mo_tree) 48 = some (.aload_n 0, 1, (0, 0, 0, [])) := rfl
theorem l_Mo_tree_49 : xlk (xm_cd m_Mo_tree) 49 = some (.getfield 33, 3, (858, 11, 9, [])) := rfl
theorem l_Mo_tree_52 : xlk (xm_cd m_Mo_tree) 52 = some (.iload_n 1, 1, (0, 0, 0, [])) := rfl
theorem l_Mo_tree_53 : xlk (xm_cd m_Mo_tree) 53 = some (.iaload, 1, (0, 0, 0, [])) := rfl
theorem l_Mo_tree_54 : xlk (xm_cd m_Mo_tree) 54 = some (.iastore, 1, (0, 0, 0, [])) := rfl
theorem l_Mo_tree_55 : xlk (xm_cd m_Mo_tree) 55 = some (.iconst 0, 1, (0, 0, 0, [])) := rfl
theorem l_Mo_tree_56 : xlk (xm_cd m_Mo_tree) 56 = some (.istore_n 2, 1, (0, 0, 0, [])) := rfl
theorem l_Mo_tree_57 : xlk (xm_cd m_Mo_tree) 57 = some (.iload_n 2, 1, (0, 0, 0, [])) := rfl
theorem l_Mo_tree_58 : xlk (xm_cd m_Mo_tree) 58 = some (.aload_n 0, 1, (0, 0, 0, [])) := rfl
theorem l_Mo_tree_59 : xlk (xm_cd m_Mo_tree) 59 = some (.getfield 33, 3, (858, 11, 9, [])) := rfl
theorem l_Mo_tree_62 : xlk (xm_cd m_Mo_tree) 62 = some (.aload_n 0, 1, (0, 0, 0, [])) := rfl
theorem l_Mo_tree_63 : xlk (xm_cd m_Mo_tree) 63 = some (.getfield 152, 3, (859, 11, 10, [])) := rfl
theorem l_Mo_tree_66 : xlk (xm_cd m_Mo_tree) 66 = some (.iaload, 1, (0, 0, 0, [])) := rfl
theorem l_Mo_tree_67 : xlk (xm_cd m_Mo_tree) 67 = some (.if_icmp .ge 26, 3, (0, 93, 0, [])) := rfl
theorem l_Mo_tree_70 : xlk (xm_cd m_Mo_tree) 70 = some (.aload_n 0, 1, (0, 0, 0, [])) := rfl
theorem l_Mo_tree_71 : xlk (xm_cd m_Mo_tree) 71 = some (.iload_n 1, 1, (0, 0, 0, [])) := rfl
theorem l_Mo_tree_72 : xlk (xm_cd m_Mo_tree) 72 = some (.iload_n 2, 1, (0, 0, 0, [])) := rfl
theorem l_Mo_tree_73 : xlk (xm_cd m_Mo_tree) 73 = some (.invokestatic 155, 3, (971, 152, 2, [])) := rfl
theorem l_Mo_tree_76 : xlk (xm_cd m_Mo_tree) 76 = some (.aload_n 0, 1, (0, 0, 0, [])) := rfl
theorem l_Mo_tree_77 : xlk (xm_cd m_Mo_tree) 77 = some (.getfield 152, 3, (859, 11, 10, [])) := rfl
theorem l_Mo_tree_80 : xlk (xm_cd m_Mo_tree) 80 = some (.iload_n 2, 1, (0, 0, 0, [])) := rfl
theorem l_Mo_tree_81 : xlk (xm_cd m_Mo_tree) 81 = some (.invokestatic 155, 3, (971, 152, 2, [])) := rfl
theorem l_Mo_tree_84 : xlk (xm_cd m_Mo_tree) 84 = some (.invokevirtual 166, 3, (974, 153, 2, [])) := rfl
theorem l_Mo_tree_87 : xlk (xm_cd m_Mo_tree) 87 = some (.iinc 2 1, 3, (0, 0, 0, [])) := rfl
theorem l_Mo_tree_90 : xlk (xm_cd m_Mo_tree) 90 = some (.goto (-33), 3, (0, 57, 0, [])) := rfl
theorem l_Mo_tree_93 : xlk (xm_cd m_Mo_tree) 93 = some (.aload_n 0, 1, (0, 0, 0, [])) := rfl
theorem l_Mo_tree_94 : xlk (xm_cd m_Mo_tree) 94 = some (.dup, 1, (0, 0, 0, [])) := rfl
theorem l_Mo_tree_95 : xlk (xm_cd m_Mo_tree) 95 = some (.getfield 152, 3, (859, 11, 10, [])) := rfl
theorem l_Mo_tree_98 : xlk (xm_cd m_Mo_tree) 98 = some (.iconst 1, 1, (0, 0, 0, [])) := rfl
theorem l_Mo_tree_99 : xlk (xm_cd m_Mo_tree) 99 = some (.iadd, 1, (0, 0, 0, [])) := rfl
theorem l_Mo_tree_100 : xlk (xm_cd m_Mo_tree) 100 = some (.putfield 152, 3, (859, 11, 10, [(0, 0)])) := rfl
theorem l_Mo_tree_103 : xlk (xm_cd m_Mo_tree) 103 = some (.aload_n 0, 1, (0, 0, 0, [])) := rfl
theorem l_Mo_tree_104 : xlk (xm_cd m_Mo_tree) 104 = some (.getfield 152, 3, (859, 11, 10, [])) := rfl
theorem l_Mo_tree_107 : xlk (xm_cd m_Mo_tree) 107 = some (.iconst 1, 1, (0, 0, 0, [])) := rfl
theorem l_Mo_tree_108 : xlk (xm_cd m_Mo_tree) 108 = some (.isub, 1, (0, 0, 0, [])) := rfl
theorem l_Mo_tree_109 : xlk (xm_cd m_Mo_tree) 109 = some (.ireturn, 1, (0, 0, 0, [])) := rfl
def B_Mo_tree_0 (d : Nat) (E : Option Value → xH → Prop) (f : xH) (a0 : Nat) (x1 : Int32) : Prop :=
  xpf f a0 11 0 (.int 0) (fun f1 => xbr (x1 = (-1)) (xWp (xT0, xSp xT0 d, none, m_Mo_tree, E) 20 [some (.ref a0), some (.int x1), none] [] f1 0 0) ((∃ fs, f1 a0 = some (xO 11 fs)) ∧ xSp xT0 d j_Mo_noTree [.ref a0, .int x1] f1 (fun w2 f3 => xvi w2 (fun v4 => xbr (v4 = 0) (xWp (xT0, xSp xT0 d, none, m_Mo_tree, E) 20 [some (.ref a0), some (.int x1), none] [] f3 0 0) (E (some (.int (-1))) f3)))))
theorem b_Mo_tree_0 {d : Nat} {E : Option Value → xH → Prop} {f : xH} {a0 : Nat} {x1 : Int32} (h : B_Mo_tree_0 d E f a0 x1) : xWp (xT0, xSp xT0 d, none, m_Mo_tree, E) 0 [some (.ref a0), some (.int x1), none] [] f 0 0 := by
  unfold B_Mo_tree_0 at h
  refine s_aln l_Mo_tree_0 rfl ?_
  refine s_ic 0 l_Mo_tree_1 rfl ?_
  refine s_pf l_Mo_tree_2 ⟨_, rfl⟩ h (fun f1 h => ?_)
  refine s_iln l_Mo_tree_5 rfl ?_
  refine s_ic (-1) l_Mo_tree_6 rfl ?_
  refine s_ifc l_Mo_tree_7 h (fun h => ?_) (fun h => ?_)
  · exact h
  · refine s_aln l_Mo_tree_10 rfl ?_
    refine s_iln l_Mo_tree_11 rfl ?_
    refine s_cvi (As := [.int x1]) (r := []) l_Mo_tree_12 rfl ⟨rfl, rfl⟩ rfl (Nat.le_of_ble_eq_true rfl) rfl ⟨Nat.zero_le _, Nat.zero_le _⟩ h (fun v4 f3 h => ?_)
    refine s_if l_Mo_tree_15 h (fun h => ?_) (fun h => ?_)
    · exact h
    · refine s_ic (-1) l_Mo_tree_18 rfl ?_
      exact s_iret l_Mo_tree_19 rfl ⟨Nat.zero_le _, Nat.zero_le _⟩ h
def B_Mo_tree_20 (d : Nat) (E : Option Value → xH → Prop) (f : xH) (a0 : Nat) (x1 : Int32) (u2 : Option Value) : Prop :=
  xgi f a0 11 10 (fun v1 => xbr (¬ v1 = 12) (xgr f a0 11 9 (fun r2 => xgi f a0 11 10 (fun v3 => xbr ((0 : Int32) ≤ x1) (xgr f a0 11 9 (fun r4 => xal f r4 0 x1 (fun v5 => xas f r2 0 v3 v5 (fun f6 => xWp (xT0, xSp xT0 d, none, m_Mo_tree, E) 57 [some (.ref a0), some (.int x1), some (.int 0)] [] f6 0 0)))) (xas f r2 0 v3 0 (fun f7 => xWp (xT0, xSp xT0 d, none, m_Mo_tree, E) 57 [some (.ref a0), some (.int x1), some (.int 0)] [] f7 0 0))))) (E (some (.int (-3))) f))
theorem b_Mo_tree_20 {d : Nat} {E : Option Value → xH → Prop} {f : xH} {a0 : Nat} {x1 : Int32} {u2 : Option Value} (h : B_Mo_tree_20 d E f a0 x1 u2) : xWp (xT0, xSp xT0 d, none, m_Mo_tree, E) 20 [some (.ref a0), some (.int x1), u2] [] f 0 0 := by
  unfold B_Mo_tree_20 at h
  refine s_aln l_Mo_tree_20 rfl ?_
  refine s_gi l_Mo_tree_21 h (fun v1 h => ?_)
  refine s_bp 12 l_Mo_tree_24 rfl ?_
  refine s_ifc l_Mo_tree_26 h (fun h => ?_) (fun h => ?_)
  · refine s_aln l_Mo_tree_32 rfl ?_
    refine s_gr l_Mo_tree_33 h (fun r2 h => ?_)
    refine s_aln l_Mo_tree_36 rfl ?_
    refine s_gi l_Mo_tree_37 h (fun v3 h => ?_)
    refine s_iln l_Mo_tree_40 rfl ?_
    refine s_if l_Mo_tree_41 h (fun h => ?_) (fun h => ?_)
    · refine s_aln l_Mo_tree_48 rfl ?_
      refine s_gr l_Mo_tree_49 h (fun r4 h => ?_)
      refine s_iln l_Mo_tree_52 rfl ?_
      refine s_ial l_Mo_tree_53 rfl h (fun v5 h => ?_)
      refine s_iast l_Mo_tree_54 h (fun f6 h => ?_)
      refine s_ic 0 l_Mo_tree_55 rfl ?_
      refine s_isn l_Mo_tree_56 (Nat.le_of_ble_eq_true rfl) ?_
      exact h
    · refine s_ic 0 l_Mo_tree_44 rfl ?_
      refine s_goto l_Mo_tree_45 ?_
      refine s_iast l_Mo_tree_54 h (fun f7 h => ?_)
      refine s_ic 0 l_Mo_tree_55 rfl ?_
      refine s_isn l_Mo_tree_56 (Nat.le_of_ble_eq_true rfl) ?_
      exact h
  · refine s_bp (-3) l_Mo_tree_29 rfl ?_
    exact s_iret l_Mo_tree_31 rfl ⟨Nat.zero_le _, Nat.zero_le _⟩ h
def B_Mo_tree_57 (d : Nat) (E : Option Value → xH → Prop) (f : xH) (a0 : Nat) (x1 : Int32) (x2 : Int32) : Prop :=
  xgr f a0 11 9 (fun r1 => xgi f a0 11 10 (fun v2 => xal f r1 0 v2 (fun v3 => xbr (v3 ≤ x2) (xgi f a0 11 10 (fun v4 => xpf f a0 11 10 (.int (v4 + 1)) (fun f5 => xgi f5 a0 11 10 (fun v6 => E (some (.int (v6 - 1))) f5)))) (xSp xT0 d j_Mo_at [.int x1, .int x2] f (fun w7 f8 => xvi w7 (fun v9 => xgi f8 a0 11 10 (fun v10 => xSp xT0 d j_Mo_at [.int v10, .int x2] f8 (fun w11 f12 => xvi w11 (fun v13 => (∃ fs, f12 a0 = some (xO 11 fs)) ∧ xSp xT0 d j_Mo_moveFile [.ref a0, .int v9, .int v13] f12 (fun w14 f15 => xvv w14 (xWp (xT0, xSp xT0 d, none, m_Mo_tree, E) 57 [some (.ref a0), some (.int x1), some (.int (x2 + 1))] [] f15 0 0)))))))))))
theorem b_Mo_tree_57 {d : Nat} {E : Option Value → xH → Prop} {f : xH} {a0 : Nat} {x1 : Int32} {x2 : Int32} (h : B_Mo_tree_57 d E f a0 x1 x2) : xWp (xT0, xSp xT0 d, none, m_Mo_tree, E) 57 [some (.ref a0), some (.int x1), some (.int x2)] [] f 0 0 := by
  unfold B_Mo_tree_57 at h
  refine s_iln l_Mo_tree_57 rfl ?_
  refine s_aln l_Mo_tree_58 rfl ?_
  refine s_gr l_Mo_tree_59 h (fun r1 h => ?_)
  refine s_aln l_Mo_tree_62 rfl ?_
  refine s_gi l_Mo_tree_63 h (fun v2 h => ?_)
  refine s_ial l_Mo_tree_66 rfl h (fun v3 h => ?_)
  refine s_ifc l_Mo_tree_67 h (fun h => ?_) (fun h => ?_)
  · refine s_aln l_Mo_tree_93 rfl ?_
    refine s_dup l_Mo_tree_94 rfl ?_
    refine s_gi l_Mo_tree_95 h (fun v4 h => ?_)
    refine s_ic 1 l_Mo_tree_98 rfl ?_
    refine s_iadd l_Mo_tree_99 ?_
    refine s_pf l_Mo_tree_100 ⟨_, rfl⟩ h (fun f5 h => ?_)
    refine s_aln l_Mo_tree_103 rfl ?_
    refine s_gi l_Mo_tree_104 h (fun v6 h => ?_)
    refine s_ic 1 l_Mo_tree_107 rfl ?_
    refine s_isub l_Mo_tree_108 ?_
    exact s_iret l_Mo_tree_109 rfl ⟨Nat.zero_le _, Nat.zero_le _⟩ h
  · refine s_aln l_Mo_tree_70 rfl ?_
    refine s_iln l_Mo_tree_71 rfl ?_
    refine s_iln l_Mo_tree_72 rfl ?_
    refine s_csi (As := [.int x1, .int x2]) (r := [.ref a0]) l_Mo_tree_73 rfl ⟨rfl, rfl⟩ rfl (Nat.le_of_ble_eq_true rfl) rfl ⟨Nat.zero_le _, Nat.zero_le _⟩ h (fun v9 f8 h => ?_)
    refine s_aln l_Mo_tree_76 rfl ?_
    refine s_gi l_Mo_tree_77 h (fun v10 h => ?_)
    refine s_iln l_Mo_tree_80 rfl ?_
    refine s_csi (As := [.int v10, .int x2]) (r := [.int v9, .ref a0]) l_Mo_tree_81 rfl ⟨rfl, rfl⟩ rfl (Nat.le_of_ble_eq_true rfl) rfl ⟨Nat.zero_le _, Nat.zero_le _⟩ h (fun v13 f12 h => ?_)
    refine s_cvv (As := [.int v9, .int v13]) (r := []) l_Mo_tree_84 rfl ⟨rfl, rfl⟩ rfl (Nat.le_of_ble_eq_true rfl) rfl ⟨Nat.zero_le _, Nat.zero_le _⟩ h (fun f15 h => ?_)
    refine s_inc 1 l_Mo_tree_87 rfl rfl ?_
    refine s_goto l_Mo_tree_90 ?_
    exact h
theorem l_Mo_noTree_0 : xlk (xm_cd m_Mo_noTree) 0 = some (.iload_n 1, 1, (0, 0, 0, [])) := rfl
theorem l_Mo_noTree_1 : xlk (xm_cd m_Mo_noTree) 1 = some (.i2l, 1, (0, 0, 0, [])) := rfl
theorem l_Mo_noTree_2 : xlk (xm_cd m_Mo_noTree) 2 = some (.lconst 0, 1, (0, 0, 0, [])) := rfl
theorem l_Mo_noTree_3 : xlk (xm_cd m_Mo_noTree) 3 = some (.aload_n 0, 1, (0, 0, 0, [])) := rfl
theorem l_Mo_noTree_4 : xlk (xm_cd m_Mo_noTree) 4 = some (.getfield 152, 3, (859, 11, 10, [])) := rfl
theorem l_Mo_noTree_7 : xlk (xm_cd m_Mo_noTree) 7 = some (.iconst 1, 1, (0, 0, 0, [])) := rfl
theorem l_Mo_noTree_8 : xlk (xm_cd m_Mo_noTree) 8 = some (.isub, 1, (0, 0, 0, [])) := rfl
theorem l_Mo_noTree_9 : xlk (xm_cd m_Mo_noTree) 9 = some (.i2l, 1, (0, 0, 0, [])) := rfl
theorem l_Mo_noTree_10 : xlk (xm_cd m_Mo_noTree) 10 = some (.invokestatic 132, 3, (955, 0, 0, [(2, 2)])) := rfl
theorem l_Mo_noTree_13 : xlk (xm_cd m_Mo_noTree) 13 = some (.ifCond .ne 7, 3, (0, 20, 0, [])) := rfl
theorem l_Mo_noTree_16 : xlk (xm_cd m_Mo_noTree) 16 = some (.iconst 1, 1, (0, 0, 0, [])) := rfl
theorem l_Mo_noTree_17 : xlk (xm_cd m_Mo_noTree) 17 = some (.goto 4, 3, (0, 21, 0, [])) := rfl
theorem l_Mo_noTree_20 : xlk (xm_cd m_Mo_noTree) 20 = some (.iconst 0, 1, (0, 0, 0, [])) := rfl
theorem l_Mo_noTree_21 : xlk (xm_cd m_Mo_noTree) 21 = some (.ireturn, 1, (0, 0, 0, [])) := rfl
def B_Mo_noTree_0 (d : Nat) (E : Option Value → xH → Prop) (f : xH) (a0 : Nat) (x1 : Int32) : Prop :=
  xgi f a0 11 10 (fun v1 => xbr (¬ (if (0 : Int64) ≤ x1.toInt64 ∧ x1.toInt64 ≤ (v1 - 1).toInt64 then (1 : Int32) else 0) = 0) (E (some (.int 0)) f) (E (some (.int 1)) f))
theorem b_Mo_noTree_0 {d : Nat} {E : Option Value → xH → Prop} {f : xH} {a0 : Nat} {x1 : Int32} (h : B_Mo_noTree_0 d E f a0 x1) : xWp (xT0, xSp xT0 d, none, m_Mo_noTree, E) 0 [some (.ref a0), some (.int x1)] [] f 0 0 := by
  unfold B_Mo_noTree_0 at h
  refine s_iln l_Mo_noTree_0 rfl ?_
  refine s_i2l l_Mo_noTree_1 ?_
  refine s_lc 0 l_Mo_noTree_2 rfl ?_
  refine s_aln l_Mo_noTree_3 rfl ?_
  refine s_gi l_Mo_noTree_4 h (fun v1 h => ?_)
  refine s_ic 1 l_Mo_noTree_7 rfl ?_
  refine s_isub l_Mo_noTree_8 ?_
  refine s_i2l l_Mo_noTree_9 ?_
  refine s_in l_Mo_noTree_10 (Nat.le_of_ble_eq_true rfl) ⟨Nat.zero_le _, Nat.zero_le _⟩ ?_
  refine s_if l_Mo_noTree_13 h (fun h => ?_) (fun h => ?_)
  · refine s_ic 0 l_Mo_noTree_20 rfl ?_
    exact s_zret l_Mo_noTree_21 rfl ⟨Nat.zero_le _, Nat.zero_le _⟩ ⟨Or.inl rfl, h⟩
  · refine s_ic 1 l_Mo_noTree_16 rfl ?_
    refine s_goto l_Mo_noTree_17 ?_
    exact s_zret l_Mo_noTree_21 rfl ⟨Nat.zero_le _, Nat.zero_le _⟩ ⟨Or.inr rfl, h⟩
theorem l_Mo_at_0 : xlk (xm_cd m_Mo_at) 0 = some (.bipush 10, 2, (0, 0, 0, [])) := rfl
theorem l_Mo_at_2 : xlk (xm_cd m_Mo_at) 2 = some (.iload_n 0, 1, (0, 0, 0, [])) := rfl
theorem l_Mo_at_3 : xlk (xm_cd m_Mo_at) 3 = some (.imul, 1, (0, 0, 0, [])) := rfl
theorem l_Mo_at_4 : xlk (xm_cd m_Mo_at) 4 = some (.iload_n 1, 1, (0, 0, 0, [])) := rfl
theorem l_Mo_at_5 : xlk (xm_cd m_Mo_at) 5 = some (.iadd, 1, (0, 0, 0, [])) := rfl
theorem l_Mo_at_6 : xlk (xm_cd m_Mo_at) 6 = some (.ireturn, 1, (0, 0, 0, [])) := rfl
def B_Mo_at_0 (d : Nat) (E : Option Value → xH → Prop) (f : xH) (x0 : Int32) (x1 : Int32) : Prop :=
  E (some (.int ((10 * x0) + x1))) f
theorem b_Mo_at_0 {d : Nat} {E : Option Value → xH → Prop} {f : xH} {x0 : Int32} {x1 : Int32} (h : B_Mo_at_0 d E f x0 x1) : xWp (xT0, xSp xT0 d, none, m_Mo_at, E) 0 [some (.int x0), some (.int x1)] [] f 0 0 := by
  unfold B_Mo_at_0 at h
  refine s_bp 10 l_Mo_at_0 rfl ?_
  refine s_iln l_Mo_at_2 rfl ?_
  refine s_imul l_Mo_at_3 ?_
  refine s_iln l_Mo_at_4 rfl ?_
  refine s_iadd l_Mo_at_5 ?_
  exact s_iret l_Mo_at_6 rfl ⟨Nat.zero_le _, Nat.zero_le _⟩ h
theorem l_Mo_moveFile_0 : xlk (xm_cd m_Mo_moveFile) 0 = some (.aload_n 0, 1, (0, 0, 0, [])) := rfl
theorem l_Mo_moveFile_1 : xlk (xm_cd m_Mo_moveFile) 1 = some (.getfield 20, 3, (854, 11, 5, [])) := rfl
theorem l_Mo_moveFile_4 : xlk (xm_cd m_Mo_moveFile) 4 = some (.bipush 18, 2, (0, 0, 0, [])) := rfl
theorem l_Mo_moveFile_6 : xlk (xm_cd m_Mo_moveFile) 6 = some (.iload_n 1, 1, (0, 0, 0, [])) := rfl
theorem l_Mo_moveFile_7 : xlk (xm_cd m_Mo_moveFile) 7 = some (.imul, 1, (0, 0, 0, [])) := rfl
theorem l_Mo_moveFile_8 : xlk (xm_cd m_Mo_moveFile) 8 = some (.aload_n 0, 1, (0, 0, 0, [])) := rfl
theorem l_Mo_moveFile_9 : xlk (xm_cd m_Mo_moveFile) 9 = some (.getfield 20, 3, (854, 11, 5, [])) := rfl
theorem l_Mo_moveFile_12 : xlk (xm_cd m_Mo_moveFile) 12 = some (.bipush 18, 2, (0, 0, 0, [])) := rfl
theorem l_Mo_moveFile_14 : xlk (xm_cd m_Mo_moveFile) 14 = some (.iload_n 2, 1, (0, 0, 0, [])) := rfl
theorem l_Mo_moveFile_15 : xlk (xm_cd m_Mo_moveFile) 15 = some (.imul, 1, (0, 0, 0, [])) := rfl
theorem l_Mo_moveFile_16 : xlk (xm_cd m_Mo_moveFile) 16 = some (.aload_n 0, 1, (0, 0, 0, [])) := rfl
theorem l_Mo_moveFile_17 : xlk (xm_cd m_Mo_moveFile) 17 = some (.getfield 23, 3, (855, 11, 6, [])) := rfl
theorem l_Mo_moveFile_20 : xlk (xm_cd m_Mo_moveFile) 20 = some (.iload_n 1, 1, (0, 0, 0, [])) := rfl
theorem l_Mo_moveFile_21 : xlk (xm_cd m_Mo_moveFile) 21 = some (.iaload, 1, (0, 0, 0, [])) := rfl
theorem l_Mo_moveFile_22 : xlk (xm_cd m_Mo_moveFile) 22 = some (.invokestatic 162, 3, (977, 154, 5, [])) := rfl
theorem l_Mo_moveFile_25 : xlk (xm_cd m_Mo_moveFile) 25 = some (.aload_n 0, 1, (0, 0, 0, [])) := rfl
theorem l_Mo_moveFile_26 : xlk (xm_cd m_Mo_moveFile) 26 = some (.getfield 23, 3, (855, 11, 6, [])) := rfl
theorem l_Mo_moveFile_29 : xlk (xm_cd m_Mo_moveFile) 29 = some (.iload_n 2, 1, (0, 0, 0, [])) := rfl
theorem l_Mo_moveFile_30 : xlk (xm_cd m_Mo_moveFile) 30 = some (.aload_n 0, 1, (0, 0, 0, [])) := rfl
theorem l_Mo_moveFile_31 : xlk (xm_cd m_Mo_moveFile) 31 = some (.getfield 23, 3, (855, 11, 6, [])) := rfl
theorem l_Mo_moveFile_34 : xlk (xm_cd m_Mo_moveFile) 34 = some (.iload_n 1, 1, (0, 0, 0, [])) := rfl
theorem l_Mo_moveFile_35 : xlk (xm_cd m_Mo_moveFile) 35 = some (.iaload, 1, (0, 0, 0, [])) := rfl
theorem l_Mo_moveFile_36 : xlk (xm_cd m_Mo_moveFile) 36 = some (.iastore, 1, (0, 0, 0, [])) := rfl
theorem l_Mo_moveFile_37 : xlk (xm_cd m_Mo_moveFile) 37 = some (.aload_n 0, 1, (0, 0, 0, [])) := rfl
theorem l_Mo_moveFile_38 : xlk (xm_cd m_Mo_moveFile) 38 = some (.getfield 27, 3, (856, 11, 7, [])) := rfl
theorem l_Mo_moveFile_41 : xlk (xm_cd m_Mo_moveFile) 41 = some (.bipush 48, 2, (0, 0, 0, [])) := rfl
theorem l_Mo_moveFile_43 : xlk (xm_cd m_Mo_moveFile) 43 = some (.iload_n 1, 1, (0, 0, 0, [])) := rfl
theorem l_Mo_moveFile_44 : xlk (xm_cd m_Mo_moveFile) 44 = some (.imul, 1, (0, 0, 0, [])) := rfl
theorem l_Mo_moveFile_45 : xlk (xm_cd m_Mo_moveFile) 45 = some (.aload_n 0, 1, (0, 0, 0, [])) := rfl
theorem l_Mo_moveFile_46 : xlk (xm_cd m_Mo_moveFile) 46 = some (.getfield 27, 3, (856, 11, 7, [])) := rfl
theorem l_Mo_moveFile_49 : xlk (xm_cd m_Mo_moveFile) 49 = some (.bipush 48, 2, (0, 0, 0, [])) := rfl
theorem l_Mo_moveFile_51 : xlk (xm_cd m_Mo_moveFile) 51 = some (.iload_n 2, 1, (0, 0, 0, [])) := rfl
theorem l_Mo_moveFile_52 : xlk (xm_cd m_Mo_moveFile) 52 = some (.imul, 1, (0, 0, 0, [])) := rfl
theorem l_Mo_moveFile_53 : xlk (xm_cd m_Mo_moveFile) 53 = some (.aload_n 0, 1, (0, 0, 0, [])) := rfl
theorem l_Mo_moveFile_54 : xlk (xm_cd m_Mo_moveFile) 54 = some (.getfield 30, 3, (857, 11, 8, [])) := rfl
theorem l_Mo_moveFile_57 : xlk (xm_cd m_Mo_moveFile) 57 = some (.iload_n 1, 1, (0, 0, 0, [])) := rfl
theorem l_Mo_moveFile_58 : xlk (xm_cd m_Mo_moveFile) 58 = some (.iaload, 1, (0, 0, 0, [])) := rfl
theorem l_Mo_moveFile_59 : xlk (xm_cd m_Mo_moveFile) 59 = some (.invokestatic 162, 3, (977, 154, 5, [])) := rfl
theorem l_Mo_moveFile_62 : xlk (xm_cd m_Mo_moveFile) 62 = some (.aload_n 0, 1, (0, 0, 0, [])) := rfl
theorem l_Mo_moveFile_63 : xlk (xm_cd m_Mo_moveFile) 63 = some (.getfield 30, 3, (857, 11, 8, [])) := rfl
theorem l_Mo_moveFile_66 : xlk (xm_cd m_Mo_moveFile) 66 = some (.iload_n 2, 1, (0, 0, 0, [])) := rfl
theorem l_Mo_moveFile_67 : xlk (xm_cd m_Mo_moveFile) 67 = some (.aload_n 0, 1, (0, 0, 0, [])) := rfl
theorem l_Mo_moveFile_68 : xlk (xm_cd m_Mo_moveFile) 68 = some (.getfield 30, 3, (857, 11, 8, [])) := rfl
theorem l_Mo_moveFile_71 : xlk (xm_cd m_Mo_moveFile) 71 = some (.iload_n 1, 1, (0, 0, 0, [])) := rfl
theorem l_Mo_moveFile_72 : xlk (xm_cd m_Mo_moveFile) 72 = some (.iaload, 1, (0, 0, 0, [])) := rfl
theorem l_Mo_moveFile_73 : xlk (xm_cd m_Mo_moveFile) 73 = some (.iastore, 1, (0, 0, 0, [])) := rfl
theorem l_Mo_moveFile_74 : xlk (xm_cd m_Mo_moveFile) 74 = some (.return_, 1, (0, 0, 0, [])) := rfl
def B_Mo_moveFile_0 (d : Nat) (E : Option Value → xH → Prop) (f : xH) (a0 : Nat) (x1 : Int32) (x2 : Int32) : Prop :=
  xgr f a0 11 5 (fun r1 => xgr f a0 11 5 (fun r2 => xgr f a0 11 6 (fun r3 => xal f r3 0 x1 (fun v4 => xSp xT0 d j_Mo_move [.ref r1, .int (18 * x1), .ref r2, .int (18 * x2), .int v4] f (fun w5 f6 => xvv w5 (xgr f6 a0 11 6 (fun r7 => xgr f6 a0 11 6 (fun r8 => xal f6 r8 0 x1 (fun v9 => xas f6 r7 0 x2 v9 (fun f10 => xgr f10 a0 11 7 (fun r11 => xgr f10 a0 11 7 (fun r12 => xgr f10 a0 11 8 (fun r13 => xal f10 r13 0 x1 (fun v14 => xSp xT0 d j_Mo_move [.ref r11, .int (48 * x1), .ref r12, .int (48 * x2), .int v14] f10 (fun w15 f16 => xvv w15 (xgr f16 a0 11 8 (fun r17 => xgr f16 a0 11 8 (fun r18 => xal f16 r18 0 x1 (fun v19 => xas f16 r17 0 x2 v19 (fun f20 => E none f20))))))))))))))))))))
theorem b_Mo_moveFile_0 {d : Nat} {E : Option Value → xH → Prop} {f : xH} {a0 : Nat} {x1 : Int32} {x2 : Int32} (h : B_Mo_moveFile_0 d E f a0 x1 x2) : xWp (xT0, xSp xT0 d, none, m_Mo_moveFile, E) 0 [some (.ref a0), some (.int x1), some (.int x2)] [] f 0 0 := by
  unfold B_Mo_moveFile_0 at h
  refine s_aln l_Mo_moveFile_0 rfl ?_
  refine s_gr l_Mo_moveFile_1 h (fun r1 h => ?_)
  refine s_bp 18 l_Mo_moveFile_4 rfl ?_
  refine s_iln l_Mo_moveFile_6 rfl ?_
  refine s_imul l_Mo_moveFile_7 ?_
  refine s_aln l_Mo_moveFile_8 rfl ?_
  refine s_gr l_Mo_moveFile_9 h (fun r2 h => ?_)
  refine s_bp 18 l_Mo_moveFile_12 rfl ?_
  refine s_iln l_Mo_moveFile_14 rfl ?_
  refine s_imul l_Mo_moveFile_15 ?_
  refine s_aln l_Mo_moveFile_16 rfl ?_
  refine s_gr l_Mo_moveFile_17 h (fun r3 h => ?_)
  refine s_iln l_Mo_moveFile_20 rfl ?_
  refine s_ial l_Mo_moveFile_21 rfl h (fun v4 h => ?_)
  refine s_csv (As := [.ref r1, .int (18 * x1), .ref r2, .int (18 * x2), .int v4]) (r := []) l_Mo_moveFile_22 rfl ⟨rfl, rfl⟩ rfl (Nat.le_of_ble_eq_true rfl) rfl ⟨Nat.zero_le _, Nat.zero_le _⟩ h (fun f6 h => ?_)
  refine s_aln l_Mo_moveFile_25 rfl ?_
  refine s_gr l_Mo_moveFile_26 h (fun r7 h => ?_)
  refine s_iln l_Mo_moveFile_29 rfl ?_
  refine s_aln l_Mo_moveFile_30 rfl ?_
  refine s_gr l_Mo_moveFile_31 h (fun r8 h => ?_)
  refine s_iln l_Mo_moveFile_34 rfl ?_
  refine s_ial l_Mo_moveFile_35 rfl h (fun v9 h => ?_)
  refine s_iast l_Mo_moveFile_36 h (fun f10 h => ?_)
  refine s_aln l_Mo_moveFile_37 rfl ?_
  refine s_gr l_Mo_moveFile_38 h (fun r11 h => ?_)
  refine s_bp 48 l_Mo_moveFile_41 rfl ?_
  refine s_iln l_Mo_moveFile_43 rfl ?_
  refine s_imul l_Mo_moveFile_44 ?_
  refine s_aln l_Mo_moveFile_45 rfl ?_
  refine s_gr l_Mo_moveFile_46 h (fun r12 h => ?_)
  refine s_bp 48 l_Mo_moveFile_49 rfl ?_
  refine s_iln l_Mo_moveFile_51 rfl ?_
  refine s_imul l_Mo_moveFile_52 ?_
  refine s_aln l_Mo_moveFile_53 rfl ?_
  refine s_gr l_Mo_moveFile_54 h (fun r13 h => ?_)
  refine s_iln l_Mo_moveFile_57 rfl ?_
  refine s_ial l_Mo_moveFile_58 rfl h (fun v14 h => ?_)
  refine s_csv (As := [.ref r11, .int (48 * x1), .ref r12, .int (48 * x2), .int v14]) (r := []) l_Mo_moveFile_59 rfl ⟨rfl, rfl⟩ rfl (Nat.le_of_ble_eq_true rfl) rfl ⟨Nat.zero_le _, Nat.zero_le _⟩ h (fun f16 h => ?_)
  refine s_aln l_Mo_moveFile_62 rfl ?_
  refine s_gr l_Mo_moveFile_63 h (fun r17 h => ?_)
  refine s_iln l_Mo_moveFile_66 rfl ?_
  refine s_aln l_Mo_moveFile_67 rfl ?_
  refine s_gr l_Mo_moveFile_68 h (fun r18 h => ?_)
  refine s_iln l_Mo_moveFile_71 rfl ?_
  refine s_ial l_Mo_moveFile_72 rfl h (fun v19 h => ?_)
  refine s_iast l_Mo_moveFile_73 h (fun f20 h => ?_)
  exact s_ret l_Mo_moveFile_74 ⟨Nat.zero_le _, Nat.zero_le _⟩ h
theorem l_Mo_move_0 : xlk (xm_cd m_Mo_move) 0 = some (.iconst 0, 1, (0, 0, 0, [])) := rfl
theorem l_Mo_move_1 : xlk (xm_cd m_Mo_move) 1 = some (.istore 5, 2, (0, 0, 0, [])) := rfl
theorem l_Mo_move_3 : xlk (xm_cd m_Mo_move) 3 = some (.iload 5, 2, (0, 0, 0, [])) := rfl
theorem l_Mo_move_5 : xlk (xm_cd m_Mo_move) 5 = some (.iload 4, 2, (0, 0, 0, [])) := rfl
theorem l_Mo_move_7 : xlk (xm_cd m_Mo_move) 7 = some (.if_icmp .ge 21, 3, (0, 28, 0, [])) := rfl
theorem l_Mo_move_10 : xlk (xm_cd m_Mo_move) 10 = some (.aload_n 2, 1, (0, 0, 0, [])) := rfl
theorem l_Mo_move_11 : xlk (xm_cd m_Mo_move) 11 = some (.iload_n 3, 1, (0, 0, 0, [])) := rfl
theorem l_Mo_move_12 : xlk (xm_cd m_Mo_move) 12 = some (.iload 5, 2, (0, 0, 0, [])) := rfl
theorem l_Mo_move_14 : xlk (xm_cd m_Mo_move) 14 = some (.iadd, 1, (0, 0, 0, [])) := rfl
theorem l_Mo_move_15 : xlk (xm_cd m_Mo_move) 15 = some (.aload_n 0, 1, (0, 0, 0, [])) := rfl
theorem l_Mo_move_16 : xlk (xm_cd m_Mo_move) 16 = some (.iload_n 1, 1, (0, 0, 0, [])) := rfl
theorem l_Mo_move_17 : xlk (xm_cd m_Mo_move) 17 = some (.iload 5, 2, (0, 0, 0, [])) := rfl
theorem l_Mo_move_19 : xlk (xm_cd m_Mo_move) 19 = some (.iadd, 1, (0, 0, 0, [])) := rfl
theorem l_Mo_move_20 : xlk (xm_cd m_Mo_move) 20 = some (.baload, 1, (0, 0, 0, [])) := rfl
theorem l_Mo_move_21 : xlk (xm_cd m_Mo_move) 21 = some (.bastore, 1, (0, 0, 0, [])) := rfl
theorem l_Mo_move_22 : xlk (xm_cd m_Mo_move) 22 = some (.iinc 5 1, 3, (0, 0, 0, [])) := rfl
theorem l_Mo_move_25 : xlk (xm_cd m_Mo_move) 25 = some (.goto (-22), 3, (0, 3, 0, [])) := rfl
theorem l_Mo_move_28 : xlk (xm_cd m_Mo_move) 28 = some (.return_, 1, (0, 0, 0, [])) := rfl
def B_Mo_move_0 (d : Nat) (E : Option Value → xH → Prop) (f : xH) (a0 : Nat) (x1 : Int32) (a2 : Nat) (x3 : Int32) (x4 : Int32) : Prop :=
  xWp (xT0, xSp xT0 d, none, m_Mo_move, E) 3 [some (.ref a0), some (.int x1), some (.ref a2), some (.int x3), some (.int x4), some (.int 0)] [] f 0 0
theorem b_Mo_move_0 {d : Nat} {E : Option Value → xH → Prop} {f : xH} {a0 : Nat} {x1 : Int32} {a2 : Nat} {x3 : Int32} {x4 : Int32} (h : B_Mo_move_0 d E f a0 x1 a2 x3 x4) : xWp (xT0, xSp xT0 d, none, m_Mo_move, E) 0 [some (.ref a0), some (.int x1), some (.ref a2), some (.int x3), some (.int x4), none] [] f 0 0 := by
  unfold B_Mo_move_0 at h
  refine s_ic 0 l_Mo_move_0 rfl ?_
  refine s_is l_Mo_move_1 (Nat.le_of_ble_eq_true rfl) ?_
  exact h
def B_Mo_move_3 (d : Nat) (E : Option Value → xH → Prop) (f : xH) (a0 : Nat) (x1 : Int32) (a2 : Nat) (x3 : Int32) (x4 : Int32) (x5 : Int32) : Prop :=
  xbr (x4 ≤ x5) (E none f) (xal f a0 2 (x1 + x5) (fun v1 => xas f a2 2 (x3 + x5) v1.toInt8.toInt32 (fun f2 => xWp (xT0, xSp xT0 d, none, m_Mo_move, E) 3 [some (.ref a0), some (.int x1), some (.ref a2), some (.int x3), some (.int x4), some (.int (x5 + 1))] [] f2 0 0)))
theorem b_Mo_move_3 {d : Nat} {E : Option Value → xH → Prop} {f : xH} {a0 : Nat} {x1 : Int32} {a2 : Nat} {x3 : Int32} {x4 : Int32} {x5 : Int32} (h : B_Mo_move_3 d E f a0 x1 a2 x3 x4 x5) : xWp (xT0, xSp xT0 d, none, m_Mo_move, E) 3 [some (.ref a0), some (.int x1), some (.ref a2), some (.int x3), some (.int x4), some (.int x5)] [] f 0 0 := by
  unfold B_Mo_move_3 at h
  refine s_il l_Mo_move_3 rfl ?_
  refine s_il l_Mo_move_5 rfl ?_
  refine s_ifc l_Mo_move_7 h (fun h => ?_) (fun h => ?_)
  · exact s_ret l_Mo_move_28 ⟨Nat.zero_le _, Nat.zero_le _⟩ h
  · refine s_aln l_Mo_move_10 rfl ?_
    refine s_iln l_Mo_move_11 rfl ?_
    refine s_il l_Mo_move_12 rfl ?_
    refine s_iadd l_Mo_move_14 ?_
    refine s_aln l_Mo_move_15 rfl ?_
    refine s_iln l_Mo_move_16 rfl ?_
    refine s_il l_Mo_move_17 rfl ?_
    refine s_iadd l_Mo_move_19 ?_
    refine s_bal l_Mo_move_20 (Or.inr rfl) h (fun v1 h => ?_)
    refine s_bast l_Mo_move_21 h (fun f2 h => ?_)
    refine s_inc 1 l_Mo_move_22 rfl rfl ?_
    refine s_goto l_Mo_move_25 ?_
    exact h
theorem l_Mo_put_0 : xlk (xm_cd m_Mo_put) 0 = some (.aload_n 0, 1, (0, 0, 0, [])) := rfl
theorem l_Mo_put_1 : xlk (xm_cd m_Mo_put) 1 = some (.iconst 0, 1, (0, 0, 0, [])) := rfl
theorem l_Mo_put_2 : xlk (xm_cd m_Mo_put) 2 = some (.putfield 1, 3, (849, 11, 0, [(0, 0)])) := rfl
theorem l_Mo_put_5 : xlk (xm_cd m_Mo_put) 5 = some (.aload_n 0, 1, (0, 0, 0, [])) := rfl
theorem l_Mo_put_6 : xlk (xm_cd m_Mo_put) 6 = some (.iload_n 1, 1, (0, 0, 0, [])) := rfl
theorem l_Mo_put_7 : xlk (xm_cd m_Mo_put) 7 = some (.invokevirtual 170, 3, (968, 151, 1, [])) := rfl
theorem l_Mo_put_10 : xlk (xm_cd m_Mo_put) 10 = some (.ifCond .ne 19, 3, (0, 29, 0, [])) := rfl
theorem l_Mo_put_13 : xlk (xm_cd m_Mo_put) 13 = some (.aload_n 0, 1, (0, 0, 0, [])) := rfl
theorem l_Mo_put_14 : xlk (xm_cd m_Mo_put) 14 = some (.getfield 140, 3, (853, 11, 4, [])) := rfl
theorem l_Mo_put_17 : xlk (xm_cd m_Mo_put) 17 = some (.ifCond .eq 12, 3, (0, 29, 0, [])) := rfl
theorem l_Mo_put_20 : xlk (xm_cd m_Mo_put) 20 = some (.aload_n 0, 1, (0, 0, 0, [])) := rfl
theorem l_Mo_put_21 : xlk (xm_cd m_Mo_put) 21 = some (.getfield 127, 3, (851, 11, 2, [])) := rfl
theorem l_Mo_put_24 : xlk (xm_cd m_Mo_put) 24 = some (.bipush 48, 2, (0, 0, 0, [])) := rfl
theorem l_Mo_put_26 : xlk (xm_cd m_Mo_put) 26 = some (.if_icmp .le 5, 3, (0, 31, 0, [])) := rfl
theorem l_Mo_put_29 : xlk (xm_cd m_Mo_put) 29 = some (.iconst (-1), 1, (0, 0, 0, [])) := rfl
theorem l_Mo_put_30 : xlk (xm_cd m_Mo_put) 30 = some (.ireturn, 1, (0, 0, 0, [])) := rfl
theorem l_Mo_put_31 : xlk (xm_cd m_Mo_put) 31 = some (.aload_n 0, 1, (0, 0, 0, [])) := rfl
theorem l_Mo_put_32 : xlk (xm_cd m_Mo_put) 32 = some (.iload_n 1, 1, (0, 0, 0, [])) := rfl
theorem l_Mo_put_33 : xlk (xm_cd m_Mo_put) 33 = some (.aload_n 0, 1, (0, 0, 0, [])) := rfl
theorem l_Mo_put_34 : xlk (xm_cd m_Mo_put) 34 = some (.getfield 17, 3, (852, 11, 3, [])) := rfl
theorem l_Mo_put_37 : xlk (xm_cd m_Mo_put) 37 = some (.iconst 0, 1, (0, 0, 0, [])) := rfl
theorem l_Mo_put_38 : xlk (xm_cd m_Mo_put) 38 = some (.aload_n 0, 1, (0, 0, 0, [])) := rfl
theorem l_Mo_put_39 : xlk (xm_cd m_Mo_put) 39 = some (.getfield 140, 3, (853, 11, 4, [])) := rfl
theorem l_Mo_put_42 : xlk (xm_cd m_Mo_put) 42 = some (.invokevirtual 174, 3, (984, 156, 4, [])) := rfl
theorem l_Mo_put_45 : xlk (xm_cd m_Mo_put) 45 = some (.istore_n 2, 1, (0, 0, 0, [])) := rfl
theorem l_Mo_put_46 : xlk (xm_cd m_Mo_put) 46 = some (.aload_n 0, 1, (0, 0, 0, [])) := rfl
theorem l_Mo_put_47 : xlk (xm_cd m_Mo_put) 47 = some (.iload_n 1, 1, (0, 0, 0, [])) := rfl
theorem l_Mo_put_48 : xlk (xm_cd m_Mo_put) 48 = some (.aload_n 0, 1, (0, 0, 0, [])) := rfl
theorem l_Mo_put_49 : xlk (xm_cd m_Mo_put) 49 = some (.getfield 17, 3, (852, 11, 3, [])) := rfl
theorem l_Mo_put_52 : xlk (xm_cd m_Mo_put) 52 = some (.iconst 0, 1, (0, 0, 0, [])) := rfl
theorem l_Mo_put_53 : xlk (xm_cd m_Mo_put) 53 = some (.aload_n 0, 1, (0, 0, 0, [])) := rfl
theorem l_Mo_put_54 : xlk (xm_cd m_Mo_put) 54 = some (.getfield 140, 3, (853, 11, 4, [])) := rfl
theorem l_Mo_put_57 : xlk (xm_cd m_Mo_put) 57 = some (.invokevirtual 178, 3, (990, 158, 4, [])) := rfl
theorem l_Mo_put_60 : xlk (xm_cd m_Mo_put) 60 = some (.ifCond .eq 6, 3, (0, 66, 0, [])) := rfl
theorem l_Mo_put_63 : xlk (xm_cd m_Mo_put) 63 = some (.bipush (-2), 2, (0, 0, 0, [])) := rfl
theorem l_Mo_put_65 : xlk (xm_cd m_Mo_put) 65 = some (.ireturn, 1, (0, 0, 0, [])) := rfl
theorem l_Mo_put_66 : xlk (xm_cd m_Mo_put) 66 = some (.iload_n 2, 1, (0, 0, 0, [])) := rfl
theorem l_Mo_put_67 : xlk (xm_cd m_Mo_put) 67 = some (.bipush (-2), 2, (0, 0, 0, [])) := rfl
theorem l_Mo_put_69 : xlk (xm_cd m_Mo_put) 69 = some (.if_icmp .ne 17, 3, (0, 86, 0, [])) := rfl
theorem l_Mo_put_72 : xlk (xm_cd m_Mo_put) 72 = some (.aload_n 0, 1, (0, 0, 0, [])) := rfl
theorem l_Mo_put_73 : xlk (xm_cd m_Mo_put) 73 = some (.getfield 33, 3, (858, 11, 9, [])) := rfl
theorem l_Mo_put_76 : xlk (xm_cd m_Mo_put) 76 = some (.iload_n 1, 1, (0, 0, 0, [])) := rfl
theorem l_Mo_put_77 : xlk (xm_cd m_Mo_put) 77 = some (.iaload, 1, (0, 0, 0, [])) := rfl
theorem l_Mo_put_78 : xlk (xm_cd m_Mo_put) 78 = some (.bipush 10, 2, (0, 0, 0, [])) := rfl
theorem l_Mo_put_80 : xlk (xm_cd m_Mo_put) 80 = some (.if_icmp .ne 6, 3, (0, 86, 0, [])) := rfl
theorem l_Mo_put_83 : xlk (xm_cd m_Mo_put) 83 = some (.bipush (-3), 2, (0, 0, 0, [])) := rfl
theorem l_Mo_put_85 : xlk (xm_cd m_Mo_put) 85 = some (.ireturn, 1, (0, 0, 0, [])) := rfl
theorem l_Mo_put_86 : xlk (xm_cd m_Mo_put) 86 = some (.iload_n 2, 1, (0, 0, 0, [])) := rfl
theorem l_Mo_put_87 : xlk (xm_cd m_Mo_put) 87 = some (.bipush (-2), 2, (0, 0, 0, [])) := rfl
theorem l_Mo_put_89 : xlk (xm_cd m_Mo_put) 89 = some (.if_icmp .eq 44, 3, (0, 133, 0, [])) := rfl
theorem l_Mo_put_92 : xlk (xm_cd m_Mo_put) 92 = some (.aload_n 0, 1, (0, 0, 0, [])) := rfl
theorem l_Mo_put_93 : xlk (xm_cd m_Mo_put) 93 = some (.getfield 13, 3, (850, 11, 1, [])) := rfl
theorem l_Mo_put_96 : xlk (xm_cd m_Mo_put) 96 = some (.iconst 0, 1, (0, 0, 0, [])) := rfl
theorem l_Mo_put_97 : xlk (xm_cd m_Mo_put) 97 = some (.aload_n 0, 1, (0, 0, 0, [])) := rfl
theorem l_Mo_put_98 : xlk (xm_cd m_Mo_put) 98 = some (.getfield 27, 3, (856, 11, 7, [])) := rfl
theorem l_Mo_put_101 : xlk (xm_cd m_Mo_put) 101 = some (.bipush 48, 2, (0, 0, 0, [])) := rfl
theorem l_Mo_put_103 : xlk (xm_cd m_Mo_put) 103 = some (.iload_n 1, 1, (0, 0, 0, [])) := rfl
theorem l_Mo_put_104 : xlk (xm_cd m_Mo_put) 104 = some (.iload_n 2, 1, (0, 0, 0, [])) := rfl
theorem l_Mo_put_105 : xlk (xm_cd m_Mo_put) 105 = some (.invokestatic 155, 3, (971, 152, 2, [])) := rfl
theorem l_Mo_put_108 : xlk (xm_cd m_Mo_put) 108 = some (.imul, 1, (0, 0, 0, [])) := rfl
theorem l_Mo_put_109 : xlk (xm_cd m_Mo_put) 109 = some (.aload_n 0, 1, (0, 0, 0, [])) := rfl
theorem l_Mo_put_110 : xlk (xm_cd m_Mo_put) 110 = some (.getfield 127, 3, (851, 11, 2, [])) := rfl
theorem l_Mo_put_113 : xlk (xm_cd m_Mo_put) 113 = some (.invokestatic 162, 3, (977, 154, 5, [])) := rfl
theorem l_Mo_put_116 : xlk (xm_cd m_Mo_put) 116 = some (.aload_n 0, 1, (0, 0, 0, [])) := rfl
theorem l_Mo_put_117 : xlk (xm_cd m_Mo_put) 117 = some (.getfield 30, 3, (857, 11, 8, [])) := rfl
theorem l_Mo_put_120 : xlk (xm_cd m_Mo_put) 120 = some (.iload_n 1, 1, (0, 0, 0, [])) := rfl
theorem l_Mo_put_121 : xlk (xm_cd m_Mo_put) 121 = some (.iload_n 2, 1, (0, 0, 0, [])) := rfl
theorem l_Mo_put_122 : xlk (xm_cd m_Mo_put) 122 = some (.invokestatic 155, 3, (971, 152, 2, [])) := rfl
theorem l_Mo_put_125 : xlk (xm_cd m_Mo_put) 125 = some (.aload_n 0, 1, (0, 0, 0, [])) := rfl
theorem l_Mo_put_126 : xlk (xm_cd m_Mo_put) 126 = some (.getfield 127, 3, (851, 11, 2, [])) := rfl
theorem l_Mo_put_129 : xlk (xm_cd m_Mo_put) 129 = some (.iastore, 1, (0, 0, 0, [])) := rfl
theorem l_Mo_put_130 : xlk (xm_cd m_Mo_put) 130 = some (.goto 26, 3, (0, 156, 0, [])) := rfl
theorem l_Mo_put_133 : xlk (xm_cd m_Mo_put) 133 = some (.aload_n 0, 1, (0, 0, 0, [])) := rfl
theorem l_Mo_put_134 : xlk (xm_cd m_Mo_put) 134 = some (.iload_n 1, 1, (0, 0, 0, [])) := rfl
theorem l_Mo_put_135 : xlk (xm_cd m_Mo_put) 135 = some (.aload_n 0, 1, (0, 0, 0, [])) := rfl
theorem l_Mo_put_136 : xlk (xm_cd m_Mo_put) 136 = some (.getfield 17, 3, (852, 11, 3, [])) := rfl
theorem l_Mo_put_139 : xlk (xm_cd m_Mo_put) 139 = some (.iconst 0, 1, (0, 0, 0, [])) := rfl
theorem l_Mo_put_140 : xlk (xm_cd m_Mo_put) 140 = some (.aload_n 0, 1, (0, 0, 0, [])) := rfl
theorem l_Mo_put_141 : xlk (xm_cd m_Mo_put) 141 = some (.getfield 140, 3, (853, 11, 4, [])) := rfl
theorem l_Mo_put_144 : xlk (xm_cd m_Mo_put) 144 = some (.aload_n 0, 1, (0, 0, 0, [])) := rfl
theorem l_Mo_put_145 : xlk (xm_cd m_Mo_put) 145 = some (.getfield 13, 3, (850, 11, 1, [])) := rfl
set_option maxRecDepth 20000 in
theorem l_Mo_put_148 : xlk (xm_cd m_Mo_put) 148 = some (.iconst 0, 1, (0, 0, 0, [])) := rfl
set_option maxRecDepth 20000 in
theorem l_Mo_put_149 : xlk (xm_cd m_Mo_put) 149 = some (.aload_n 0, 1, (0, 0, 0, [])) := rfl
set_option maxRecDepth 20000 in
theorem l_Mo_put_150 : xlk (xm_cd m_Mo_put) 150 = some (.getfield 127, 3, (851, 11, 2, [])) := rfl
set_option maxRecDepth 20000 in
theorem l_Mo_put_153 : xlk (xm_cd m_Mo_put) 153 = some (.invokevirtual 182, 3, (999, 161, 7, [])) := rfl
set_option maxRecDepth 20000 in
theorem l_Mo_put_156 : xlk (xm_cd m_Mo_put) 156 = some (.aload_n 0, 1, (0, 0, 0, [])) := rfl
set_option maxRecDepth 20000 in
theorem l_Mo_put_157 : xlk (xm_cd m_Mo_put) 157 = some (.iconst 0, 1, (0, 0, 0, [])) := rfl
set_option maxRecDepth 20000 in
theorem l_Mo_put_158 : xlk (xm_cd m_Mo_put) 158 = some (.putfield 127, 3, (851, 11, 2, [(0, 0)])) := rfl
set_option maxRecDepth 20000 in
theorem l_Mo_put_161 : xlk (xm_cd m_Mo_put) 161 = some (.aload_n 0, 1, (0, 0, 0, [])) := rfl
set_option maxRecDepth 20000 in
theorem l_Mo_put_162 : xlk (xm_cd m_Mo_put) 162 = some (.getfield 33, 3, (858, 11, 9, [])) := rfl
set_option maxRecDepth 20000 in
theorem l_Mo_put_165 : xlk (xm_cd m_Mo_put) 165 = some (.iload_n 1, 1, (0, 0, 0, [])) := rfl
set_option maxRecDepth 20000 in
theorem l_Mo_put_166 : xlk (xm_cd m_Mo_put) 166 = some (.iaload, 1, (0, 0, 0, [])) := rfl
set_option maxRecDepth 20000 in
theorem l_Mo_put_167 : xlk (xm_cd m_Mo_put) 167 = some (.ireturn, 1, (0, 0, 0, [])) := rfl
def B_Mo_put_0 (d : Nat) (E : Option Value → xH → Prop) (f : xH) (a0 : Nat) (x1 : Int32) : Prop :=
  xpf f a0 11 0 (.int 0) (fun f1 => (∃ fs, f1 a0 = some (xO 11 fs)) ∧ xSp xT0 d j_Mo_noTree [.ref a0, .int x1] f1 (fun w2 f3 => xvi w2 (fun v4 => xbr (¬ v4 = 0) (E (some (.int (-1))) f3) (xgi f3 a0 11 4 (fun v5 => xbr (v5 = 0) (E (some (.int (-1))) f3) (xgi f3 a0 11 2 (fun v6 => xbr (v6 ≤ 48) (xgr f3 a0 11 3 (fun r7 => xgi f3 a0 11 4 (fun v8 => (∃ fs, f3 a0 = some (xO 11 fs)) ∧ xSp xT0 d j_Mo_find [.ref a0, .int x1, .ref r7, .int 0, .int v8] f3 (fun w9 f10 => xvi w9 (fun v11 => xgr f10 a0 11 3 (fun r12 => xgi f10 a0 11 4 (fun v13 => (∃ fs, f10 a0 = some (xO 11 fs)) ∧ xSp xT0 d j_Mo_isBlocked [.ref a0, .int x1, .ref r12, .int 0, .int v13] f10 (fun w14 f15 => xvi w14 (fun v16 => xbr (v16 = 0) (xbr (¬ v11 = (-2)) (xWp (xT0, xSp xT0 d, none, m_Mo_put, E) 86 [some (.ref a0), some (.int x1), some (.int v11)] [] f15 0 0) (xgr f15 a0 11 9 (fun r17 => xal f15 r17 0 x1 (fun v18 => xbr (¬ v18 = 10) (xWp (xT0, xSp xT0 d, none, m_Mo_put, E) 86 [some (.ref a0), some (.int x1), some (.int v11)] [] f15 0 0) (E (some (.int (-3))) f15))))) (E (some (.int (-2))) f15)))))))))) (E (some (.int (-1))) f3))))))))
theorem b_Mo_put_0 {d : Nat} {E : Option Value → xH → Prop} {f : xH} {a0 : Nat} {x1 : Int32} (h : B_Mo_put_0 d E f a0 x1) : xWp (xT0, xSp xT0 d, none, m_Mo_put, E) 0 [some (.ref a0), some (.int x1), none] [] f 0 0 := by
  unfold B_Mo_put_0 at h
  refine s_aln l_Mo_put_0 rfl ?_
  refine s_ic 0 l_Mo_put_1 rfl ?_
  refine s_pf l_Mo_put_2 ⟨_, rfl⟩ h (fun f1 h => ?_)
  refine s_aln l_Mo_put_5 rfl ?_
  refine s_iln l_Mo_put_6 rfl ?_
  refine s_cvi (As := [.int x1]) (r := []) l_Mo_put_7 rfl ⟨rfl, rfl⟩ rfl (Nat.le_of_ble_eq_true rfl) rfl ⟨Nat.zero_le _, Nat.zero_le _⟩ h (fun v4 f3 h => ?_)
  refine s_if l_Mo_put_10 h (fun h => ?_) (fun h => ?_)
  · refine s_ic (-1) l_Mo_put_29 rfl ?_
    exact s_iret l_Mo_put_30 rfl ⟨Nat.zero_le _, Nat.zero_le _⟩ h
  · refine s_aln l_Mo_put_13 rfl ?_
    refine s_gi l_Mo_put_14 h (fun v5 h => ?_)
    refine s_if l_Mo_put_17 h (fun h => ?_) (fun h => ?_)
    · refine s_ic (-1) l_Mo_put_29 rfl ?_
      exact s_iret l_Mo_put_30 rfl ⟨Nat.zero_le _, Nat.zero_le _⟩ h
    · refine s_aln l_Mo_put_20 rfl ?_
      refine s_gi l_Mo_put_21 h (fun v6 h => ?_)
      refine s_bp 48 l_Mo_put_24 rfl ?_
      refine s_ifc l_Mo_put_26 h (fun h => ?_) (fun h => ?_)
      · refine s_aln l_Mo_put_31 rfl ?_
        refine s_iln l_Mo_put_32 rfl ?_
        refine s_aln l_Mo_put_33 rfl ?_
        refine s_gr l_Mo_put_34 h (fun r7 h => ?_)
        refine s_ic 0 l_Mo_put_37 rfl ?_
        refine s_aln l_Mo_put_38 rfl ?_
        refine s_gi l_Mo_put_39 h (fun v8 h => ?_)
        refine s_cvi (As := [.int x1, .ref r7, .int 0, .int v8]) (r := []) l_Mo_put_42 rfl ⟨rfl, rfl⟩ rfl (Nat.le_of_ble_eq_true rfl) rfl ⟨Nat.zero_le _, Nat.zero_le _⟩ h (fun v11 f10 h => ?_)
        refine s_isn l_Mo_put_45 (Nat.le_of_ble_eq_true rfl) ?_
        refine s_aln l_Mo_put_46 rfl ?_
        refine s_iln l_Mo_put_47 rfl ?_
        refine s_aln l_Mo_put_48 rfl ?_
        refine s_gr l_Mo_put_49 h (fun r12 h => ?_)
        refine s_ic 0 l_Mo_put_52 rfl ?_
        refine s_aln l_Mo_put_53 rfl ?_
        refine s_gi l_Mo_put_54 h (fun v13 h => ?_)
        refine s_cvi (As := [.int x1, .ref r12, .int 0, .int v13]) (r := []) l_Mo_put_57 rfl ⟨rfl, rfl⟩ rfl (Nat.le_of_ble_eq_true rfl) rfl ⟨Nat.zero_le _, Nat.zero_le _⟩ h (fun v16 f15 h => ?_)
        refine s_if l_Mo_put_60 h (fun h => ?_) (fun h => ?_)
        · refine s_iln l_Mo_put_66 rfl ?_
          refine s_bp (-2) l_Mo_put_67 rfl ?_
          refine s_ifc l_Mo_put_69 h (fun h => ?_) (fun h => ?_)
          · exact h
          · refine s_aln l_Mo_put_72 rfl ?_
            refine s_gr l_Mo_put_73 h (fun r17 h => ?_)
            refine s_iln l_Mo_put_76 rfl ?_
            refine s_ial l_Mo_put_77 rfl h (fun v18 h => ?_)
            refine s_bp 10 l_Mo_put_78 rfl ?_
            refine s_ifc l_Mo_put_80 h (fun h => ?_) (fun h => ?_)
            · exact h
            · refine s_bp (-3) l_Mo_put_83 rfl ?_
              exact s_iret l_Mo_put_85 rfl ⟨Nat.zero_le _, Nat.zero_le _⟩ h
        · refine s_bp (-2) l_Mo_put_63 rfl ?_
          exact s_iret l_Mo_put_65 rfl ⟨Nat.zero_le _, Nat.zero_le _⟩ h
      · refine s_ic (-1) l_Mo_put_29 rfl ?_
        exact s_iret l_Mo_put_30 rfl ⟨Nat.zero_le _, Nat.zero_le _⟩ h
def B_Mo_put_86 (d : Nat) (E : Option Value → xH → Prop) (f : xH) (a0 : Nat) (x1 : Int32) (x2 : Int32) : Prop :=
  xbr (x2 = (-2)) (xgr f a0 11 3 (fun r1 => xgi f a0 11 4 (fun v2 => xgr f a0 11 1 (fun r3 => xgi f a0 11 2 (fun v4 => (∃ fs, f a0 = some (xO 11 fs)) ∧ xSp xT0 d j_Mo_addFile [.ref a0, .int x1, .ref r1, .int 0, .int v2, .ref r3, .int 0, .int v4] f (fun w5 f6 => xvv w5 (xWp (xT0, xSp xT0 d, none, m_Mo_put, E) 156 [some (.ref a0), some (.int x1), some (.int x2)] [] f6 0 0))))))) (xgr f a0 11 1 (fun r7 => xgr f a0 11 7 (fun r8 => xSp xT0 d j_Mo_at [.int x1, .int x2] f (fun w9 f10 => xvi w9 (fun v11 => xgi f10 a0 11 2 (fun v12 => xSp xT0 d j_Mo_move [.ref r7, .int 0, .ref r8, .int (48 * v11), .int v12] f10 (fun w13 f14 => xvv w13 (xgr f14 a0 11 8 (fun r15 => xSp xT0 d j_Mo_at [.int x1, .int x2] f14 (fun w16 f17 => xvi w16 (fun v18 => xgi f17 a0 11 2 (fun v19 => xas f17 r15 0 v18 v19 (fun f20 => xWp (xT0, xSp xT0 d, none, m_Mo_put, E) 156 [some (.ref a0), some (.int x1), some (.int x2)] [] f20 0 0)))))))))))))
theorem b_Mo_put_86 {d : Nat} {E : Option Value → xH → Prop} {f : xH} {a0 : Nat} {x1 : Int32} {x2 : Int32} (h : B_Mo_put_86 d E f a0 x1 x2) : xWp (xT0, xSp xT0 d, none, m_Mo_put, E) 86 [some (.ref a0), some (.int x1), some (.int x2)] [] f 0 0 := by
  unfold B_Mo_put_86 at h
  refine s_iln l_Mo_put_86 rfl ?_
  refine s_bp (-2) l_Mo_put_87 rfl ?_
  refine s_ifc l_Mo_put_89 h (fun h => ?_) (fun h => ?_)
  · refine s_aln l_Mo_put_133 rfl ?_
    refine s_iln l_Mo_put_134 rfl ?_
    refine s_aln l_Mo_put_135 rfl ?_
    refine s_gr l_Mo_put_136 h (fun r1 h => ?_)
    refine s_ic 0 l_Mo_put_139 rfl ?_
    refine s_aln l_Mo_put_140 rfl ?_
    refine s_gi l_Mo_put_141 h (fun v2 h => ?_)
    refine s_aln l_Mo_put_144 rfl ?_
    refine s_gr l_Mo_put_145 h (fun r3 h => ?_)
    refine s_ic 0 l_Mo_put_148 rfl ?_
    refine s_aln l_Mo_put_149 rfl ?_
    refine s_gi l_Mo_put_150 h (fun v4 h => ?_)
    refine s_cvv (As := [.int x1, .ref r1, .int 0, .int v2, .ref r3, .int 0, .int v4]) (r := []) l_Mo_put_153 rfl ⟨rfl, rfl⟩ rfl (Nat.le_of_ble_eq_true rfl) rfl ⟨Nat.zero_le _, Nat.zero_le _⟩ h (fun f6 h => ?_)
    exact h
  · refine s_aln l_Mo_put_92 rfl ?_
    refine s_gr l_Mo_put_93 h (fun r7 h => ?_)
    refine s_ic 0 l_Mo_put_96 rfl ?_
    refine s_aln l_Mo_put_97 rfl ?_
    refine s_gr l_Mo_put_98 h (fun r8 h => ?_)
    refine s_bp 48 l_Mo_put_101 rfl ?_
    refine s_iln l_Mo_put_103 rfl ?_
    refine s_iln l_Mo_put_104 rfl ?_
    refine s_csi (As := [.int x1, .int x2]) (r := [.int 48, .ref r8, .int 0, .ref r7]) l_Mo_put_105 rfl ⟨rfl, rfl⟩ rfl (Nat.le_of_ble_eq_true rfl) rfl ⟨Nat.zero_le _, Nat.zero_le _⟩ h (fun v11 f10 h => ?_)
    refine s_imul l_Mo_put_108 ?_
    refine s_aln l_Mo_put_109 rfl ?_
    refine s_gi l_Mo_put_110 h (fun v12 h => ?_)
    refine s_csv (As := [.ref r7, .int 0, .ref r8, .int (48 * v11), .int v12]) (r := []) l_Mo_put_113 rfl ⟨rfl, rfl⟩ rfl (Nat.le_of_ble_eq_true rfl) rfl ⟨Nat.zero_le _, Nat.zero_le _⟩ h (fun f14 h => ?_)
    refine s_aln l_Mo_put_116 rfl ?_
    refine s_gr l_Mo_put_117 h (fun r15 h => ?_)
    refine s_iln l_Mo_put_120 rfl ?_
    refine s_iln l_Mo_put_121 rfl ?_
    refine s_csi (As := [.int x1, .int x2]) (r := [.ref r15]) l_Mo_put_122 rfl ⟨rfl, rfl⟩ rfl (Nat.le_of_ble_eq_true rfl) rfl ⟨Nat.zero_le _, Nat.zero_le _⟩ h (fun v18 f17 h => ?_)
    refine s_aln l_Mo_put_125 rfl ?_
    refine s_gi l_Mo_put_126 h (fun v19 h => ?_)
    refine s_iast l_Mo_put_129 h (fun f20 h => ?_)
    refine s_goto l_Mo_put_130 ?_
    exact h
def B_Mo_put_156 (d : Nat) (E : Option Value → xH → Prop) (f : xH) (a0 : Nat) (x1 : Int32) (x2 : Int32) : Prop :=
  xpf f a0 11 2 (.int 0) (fun f1 => xgr f1 a0 11 9 (fun r2 => xal f1 r2 0 x1 (fun v3 => E (some (.int v3)) f1)))
theorem b_Mo_put_156 {d : Nat} {E : Option Value → xH → Prop} {f : xH} {a0 : Nat} {x1 : Int32} {x2 : Int32} (h : B_Mo_put_156 d E f a0 x1 x2) : xWp (xT0, xSp xT0 d, none, m_Mo_put, E) 156 [some (.ref a0), some (.int x1), some (.int x2)] [] f 0 0 := by
  unfold B_Mo_put_156 at h
  refine s_aln l_Mo_put_156 rfl ?_
  refine s_ic 0 l_Mo_put_157 rfl ?_
  refine s_pf l_Mo_put_158 ⟨_, rfl⟩ h (fun f1 h => ?_)
  refine s_aln l_Mo_put_161 rfl ?_
  refine s_gr l_Mo_put_162 h (fun r2 h => ?_)
  refine s_iln l_Mo_put_165 rfl ?_
  refine s_ial l_Mo_put_166 rfl h (fun v3 h => ?_)
  exact s_iret l_Mo_put_167 rfl ⟨Nat.zero_le _, Nat.zero_le _⟩ h
theorem l_Mo_find_0 : xlk (xm_cd m_Mo_find) 0 = some (.iconst 0, 1, (0, 0, 0, [])) := rfl
theorem l_Mo_find_1 : xlk (xm_cd m_Mo_find) 1 = some (.istore 5, 2, (0, 0, 0, [])) := rfl
theorem l_Mo_find_3 : xlk (xm_cd m_Mo_find) 3 = some (.iload 5, 2, (0, 0, 0, [])) := rfl
theorem l_Mo_find_5 : xlk (xm_cd m_Mo_find) 5 = some (.aload_n 0, 1, (0, 0, 0, [])) := rfl
theorem l_Mo_find_6 : xlk (xm_cd m_Mo_find) 6 = some (.getfield 33, 3, (858, 11, 9, [])) := rfl
theorem l_Mo_find_9 : xlk (xm_cd m_Mo_find) 9 = some (.iload_n 1, 1, (0, 0, 0, [])) := rfl
theorem l_Mo_find_10 : xlk (xm_cd m_Mo_find) 10 = some (.iaload, 1, (0, 0, 0, [])) := rfl
theorem l_Mo_find_11 : xlk (xm_cd m_Mo_find) 11 = some (.if_icmp .ge 46, 3, (0, 57, 0, [])) := rfl
theorem l_Mo_find_14 : xlk (xm_cd m_Mo_find) 14 = some (.aload_n 0, 1, (0, 0, 0, [])) := rfl
theorem l_Mo_find_15 : xlk (xm_cd m_Mo_find) 15 = some (.getfield 20, 3, (854, 11, 5, [])) := rfl
theorem l_Mo_find_18 : xlk (xm_cd m_Mo_find) 18 = some (.bipush 18, 2, (0, 0, 0, [])) := rfl
theorem l_Mo_find_20 : xlk (xm_cd m_Mo_find) 20 = some (.iload_n 1, 1, (0, 0, 0, [])) := rfl
theorem l_Mo_find_21 : xlk (xm_cd m_Mo_find) 21 = some (.iload 5, 2, (0, 0, 0, [])) := rfl
theorem l_Mo_find_23 : xlk (xm_cd m_Mo_find) 23 = some (.invokestatic 155, 3, (971, 152, 2, [])) := rfl
theorem l_Mo_find_26 : xlk (xm_cd m_Mo_find) 26 = some (.imul, 1, (0, 0, 0, [])) := rfl
theorem l_Mo_find_27 : xlk (xm_cd m_Mo_find) 27 = some (.aload_n 0, 1, (0, 0, 0, [])) := rfl
theorem l_Mo_find_28 : xlk (xm_cd m_Mo_find) 28 = some (.getfield 23, 3, (855, 11, 6, [])) := rfl
theorem l_Mo_find_31 : xlk (xm_cd m_Mo_find) 31 = some (.iload_n 1, 1, (0, 0, 0, [])) := rfl
theorem l_Mo_find_32 : xlk (xm_cd m_Mo_find) 32 = some (.iload 5, 2, (0, 0, 0, [])) := rfl
theorem l_Mo_find_34 : xlk (xm_cd m_Mo_find) 34 = some (.invokestatic 155, 3, (971, 152, 2, [])) := rfl
theorem l_Mo_find_37 : xlk (xm_cd m_Mo_find) 37 = some (.iaload, 1, (0, 0, 0, [])) := rfl
theorem l_Mo_find_38 : xlk (xm_cd m_Mo_find) 38 = some (.aload_n 2, 1, (0, 0, 0, [])) := rfl
theorem l_Mo_find_39 : xlk (xm_cd m_Mo_find) 39 = some (.iload_n 3, 1, (0, 0, 0, [])) := rfl
theorem l_Mo_find_40 : xlk (xm_cd m_Mo_find) 40 = some (.iload 4, 2, (0, 0, 0, [])) := rfl
theorem l_Mo_find_42 : xlk (xm_cd m_Mo_find) 42 = some (.invokestatic 143, 3, (987, 157, 6, [])) := rfl
theorem l_Mo_find_45 : xlk (xm_cd m_Mo_find) 45 = some (.ifCond .ne 6, 3, (0, 51, 0, [])) := rfl
theorem l_Mo_find_48 : xlk (xm_cd m_Mo_find) 48 = some (.iload 5, 2, (0, 0, 0, [])) := rfl
theorem l_Mo_find_50 : xlk (xm_cd m_Mo_find) 50 = some (.ireturn, 1, (0, 0, 0, [])) := rfl
theorem l_Mo_find_51 : xlk (xm_cd m_Mo_find) 51 = some (.iinc 5 1, 3, (0, 0, 0, [])) := rfl
theorem l_Mo_find_54 : xlk (xm_cd m_Mo_find) 54 = some (.goto (-51), 3, (0, 3, 0, [])) := rfl
theorem l_Mo_find_57 : xlk (xm_cd m_Mo_find) 57 = some (.bipush (-2), 2, (0, 0, 0, [])) := rfl
theorem l_Mo_find_59 : xlk (xm_cd m_Mo_find) 59 = some (.ireturn, 1, (0, 0, 0, [])) := rfl
def B_Mo_find_0 (d : Nat) (E : Option Value → xH → Prop) (f : xH) (a0 : Nat) (x1 : Int32) (a2 : Nat) (x3 : Int32) (x4 : Int32) : Prop :=
  xWp (xT0, xSp xT0 d, none, m_Mo_find, E) 3 [some (.ref a0), some (.int x1), some (.ref a2), some (.int x3), some (.int x4), some (.int 0)] [] f 0 0
theorem b_Mo_find_0 {d : Nat} {E : Option Value → xH → Prop} {f : xH} {a0 : Nat} {x1 : Int32} {a2 : Nat} {x3 : Int32} {x4 : Int32} (h : B_Mo_find_0 d E f a0 x1 a2 x3 x4) : xWp (xT0, xSp xT0 d, none, m_Mo_find, E) 0 [some (.ref a0), some (.int x1), some (.ref a2), some (.int x3), some (.int x4), none] [] f 0 0 := by
  unfold B_Mo_find_0 at h
  refine s_ic 0 l_Mo_find_0 rfl ?_
  refine s_is l_Mo_find_1 (Nat.le_of_ble_eq_true rfl) ?_
  exact h
def B_Mo_find_3 (d : Nat) (E : Option Value → xH → Prop) (f : xH) (a0 : Nat) (x1 : Int32) (a2 : Nat) (x3 : Int32) (x4 : Int32) (x5 : Int32) : Prop :=
  xgr f a0 11 9 (fun r1 => xal f r1 0 x1 (fun v2 => xbr (v2 ≤ x5) (E (some (.int (-2))) f) (xgr f a0 11 5 (fun r3 => xSp xT0 d j_Mo_at [.int x1, .int x5] f (fun w4 f5 => xvi w4 (fun v6 => xgr f5 a0 11 6 (fun r7 => xSp xT0 d j_Mo_at [.int x1, .int x5] f5 (fun w8 f9 => xvi w8 (fun v10 => xal f9 r7 0 v10 (fun v11 => xSp xT0 d j_Mo_order [.ref r3, .int (18 * v6), .int v11, .ref a2, .int x3, .int x4] f9 (fun w12 f13 => xvi w12 (fun v14 => xbr (¬ v14 = 0) (xWp (xT0, xSp xT0 d, none, m_Mo_find, E) 3 [some (.ref a0), some (.int x1), some (.ref a2), some (.int x3), some (.int x4), some (.int (x5 + 1))] [] f13 0 0) (E (some (.int x5)) f13)))))))))))))
theorem b_Mo_find_3 {d : Nat} {E : Option Value → xH → Prop} {f : xH} {a0 : Nat} {x1 : Int32} {a2 : Nat} {x3 : Int32} {x4 : Int32} {x5 : Int32} (h : B_Mo_find_3 d E f a0 x1 a2 x3 x4 x5) : xWp (xT0, xSp xT0 d, none, m_Mo_find, E) 3 [some (.ref a0), some (.int x1), some (.ref a2), some (.int x3), some (.int x4), some (.int x5)] [] f 0 0 := by
  unfold B_Mo_find_3 at h
  refine s_il l_Mo_find_3 rfl ?_
  refine s_aln l_Mo_find_5 rfl ?_
  refine s_gr l_Mo_find_6 h (fun r1 h => ?_)
  refine s_iln l_Mo_find_9 rfl ?_
  refine s_ial l_Mo_find_10 rfl h (fun v2 h => ?_)
  refine s_ifc l_Mo_find_11 h (fun h => ?_) (fun h => ?_)
  · refine s_bp (-2) l_Mo_find_57 rfl ?_
    exact s_iret l_Mo_find_59 rfl ⟨Nat.zero_le _, Nat.zero_le _⟩ h
  · refine s_aln l_Mo_find_14 rfl ?_
    refine s_gr l_Mo_find_15 h (fun r3 h => ?_)
    refine s_bp 18 l_Mo_find_18 rfl ?_
    refine s_iln l_Mo_find_20 rfl ?_
    refine s_il l_Mo_find_21 rfl ?_
    refine s_csi (As := [.int x1, .int x5]) (r := [.int 18, .ref r3]) l_Mo_find_23 rfl ⟨rfl, rfl⟩ rfl (Nat.le_of_ble_eq_true rfl) rfl ⟨Nat.zero_le _, Nat.zero_le _⟩ h (fun v6 f5 h => ?_)
    refine s_imul l_Mo_find_26 ?_
    refine s_aln l_Mo_find_27 rfl ?_
    refine s_gr l_Mo_find_28 h (fun r7 h => ?_)
    refine s_iln l_Mo_find_31 rfl ?_
    refine s_il l_Mo_find_32 rfl ?_
    refine s_csi (As := [.int x1, .int x5]) (r := [.ref r7, .int (18 * v6), .ref r3]) l_Mo_find_34 rfl ⟨rfl, rfl⟩ rfl (Nat.le_of_ble_eq_true rfl) rfl ⟨Nat.zero_le _, Nat.zero_le _⟩ h (fun v10 f9 h => ?_)
    refine s_ial l_Mo_find_37 rfl h (fun v11 h => ?_)
    refine s_aln l_Mo_find_38 rfl ?_
    refine s_iln l_Mo_find_39 rfl ?_
    refine s_il l_Mo_find_40 rfl ?_
    refine s_csi (As := [.ref r3, .int (18 * v6), .int v11, .ref a2, .int x3, .int x4]) (r := []) l_Mo_find_42 rfl ⟨rfl, rfl⟩ rfl (Nat.le_of_ble_eq_true rfl) rfl ⟨Nat.zero_le _, Nat.zero_le _⟩ h (fun v14 f13 h => ?_)
    refine s_if l_Mo_find_45 h (fun h => ?_) (fun h => ?_)
    · refine s_inc 1 l_Mo_find_51 rfl rfl ?_
      refine s_goto l_Mo_find_54 ?_
      exact h
    · refine s_il l_Mo_find_48 rfl ?_
      exact s_iret l_Mo_find_50 rfl ⟨Nat.zero_le _, Nat.zero_le _⟩ h
theorem l_Mo_order_0 : xlk (xm_cd m_Mo_order) 0 = some (.iconst 0, 1, (0, 0, 0, [])) := rfl
theorem l_Mo_order_1 : xlk (xm_cd m_Mo_order) 1 = some (.istore 6, 2, (0, 0, 0, [])) := rfl
theorem l_Mo_order_3 : xlk (xm_cd m_Mo_order) 3 = some (.iload 6, 2, (0, 0, 0, [])) := rfl
theorem l_Mo_order_5 : xlk (xm_cd m_Mo_order) 5 = some (.iload_n 2, 1, (0, 0, 0, [])) := rfl
theorem l_Mo_order_6 : xlk (xm_cd m_Mo_order) 6 = some (.if_icmp .ge 54, 3, (0, 60, 0, [])) := rfl
theorem l_Mo_order_9 : xlk (xm_cd m_Mo_order) 9 = some (.iload 6, 2, (0, 0, 0, [])) := rfl
theorem l_Mo_order_11 : xlk (xm_cd m_Mo_order) 11 = some (.iload 5, 2, (0, 0, 0, [])) := rfl
theorem l_Mo_order_13 : xlk (xm_cd m_Mo_order) 13 = some (.if_icmp .ge 47, 3, (0, 60, 0, [])) := rfl
theorem l_Mo_order_16 : xlk (xm_cd m_Mo_order) 16 = some (.aload_n 0, 1, (0, 0, 0, [])) := rfl
theorem l_Mo_order_17 : xlk (xm_cd m_Mo_order) 17 = some (.iload_n 1, 1, (0, 0, 0, [])) := rfl
theorem l_Mo_order_18 : xlk (xm_cd m_Mo_order) 18 = some (.iload 6, 2, (0, 0, 0, [])) := rfl
theorem l_Mo_order_20 : xlk (xm_cd m_Mo_order) 20 = some (.iadd, 1, (0, 0, 0, [])) := rfl
theorem l_Mo_order_21 : xlk (xm_cd m_Mo_order) 21 = some (.baload, 1, (0, 0, 0, [])) := rfl
theorem l_Mo_order_22 : xlk (xm_cd m_Mo_order) 22 = some (.aload_n 3, 1, (0, 0, 0, [])) := rfl
theorem l_Mo_order_23 : xlk (xm_cd m_Mo_order) 23 = some (.iload 4, 2, (0, 0, 0, [])) := rfl
theorem l_Mo_order_25 : xlk (xm_cd m_Mo_order) 25 = some (.iload 6, 2, (0, 0, 0, [])) := rfl
theorem l_Mo_order_27 : xlk (xm_cd m_Mo_order) 27 = some (.iadd, 1, (0, 0, 0, [])) := rfl
theorem l_Mo_order_28 : xlk (xm_cd m_Mo_order) 28 = some (.baload, 1, (0, 0, 0, [])) := rfl
theorem l_Mo_order_29 : xlk (xm_cd m_Mo_order) 29 = some (.if_icmp .eq 25, 3, (0, 54, 0, [])) := rfl
theorem l_Mo_order_32 : xlk (xm_cd m_Mo_order) 32 = some (.aload_n 0, 1, (0, 0, 0, [])) := rfl
theorem l_Mo_order_33 : xlk (xm_cd m_Mo_order) 33 = some (.iload_n 1, 1, (0, 0, 0, [])) := rfl
theorem l_Mo_order_34 : xlk (xm_cd m_Mo_order) 34 = some (.iload 6, 2, (0, 0, 0, [])) := rfl
theorem l_Mo_order_36 : xlk (xm_cd m_Mo_order) 36 = some (.iadd, 1, (0, 0, 0, [])) := rfl
theorem l_Mo_order_37 : xlk (xm_cd m_Mo_order) 37 = some (.baload, 1, (0, 0, 0, [])) := rfl
theorem l_Mo_order_38 : xlk (xm_cd m_Mo_order) 38 = some (.aload_n 3, 1, (0, 0, 0, [])) := rfl
theorem l_Mo_order_39 : xlk (xm_cd m_Mo_order) 39 = some (.iload 4, 2, (0, 0, 0, [])) := rfl
theorem l_Mo_order_41 : xlk (xm_cd m_Mo_order) 41 = some (.iload 6, 2, (0, 0, 0, [])) := rfl
theorem l_Mo_order_43 : xlk (xm_cd m_Mo_order) 43 = some (.iadd, 1, (0, 0, 0, [])) := rfl
theorem l_Mo_order_44 : xlk (xm_cd m_Mo_order) 44 = some (.baload, 1, (0, 0, 0, [])) := rfl
theorem l_Mo_order_45 : xlk (xm_cd m_Mo_order) 45 = some (.if_icmp .ge 7, 3, (0, 52, 0, [])) := rfl
theorem l_Mo_order_48 : xlk (xm_cd m_Mo_order) 48 = some (.iconst (-1), 1, (0, 0, 0, [])) := rfl
theorem l_Mo_order_49 : xlk (xm_cd m_Mo_order) 49 = some (.goto 4, 3, (0, 53, 0, [])) := rfl
theorem l_Mo_order_52 : xlk (xm_cd m_Mo_order) 52 = some (.iconst 1, 1, (0, 0, 0, [])) := rfl
theorem l_Mo_order_53 : xlk (xm_cd m_Mo_order) 53 = some (.ireturn, 1, (0, 0, 0, [])) := rfl
theorem l_Mo_order_54 : xlk (xm_cd m_Mo_order) 54 = some (.iinc 6 1, 3, (0, 0, 0, [])) := rfl
theorem l_Mo_order_57 : xlk (xm_cd m_Mo_order) 57 = some (.goto (-54), 3, (0, 3, 0, [])) := rfl
theorem l_Mo_order_60 : xlk (xm_cd m_Mo_order) 60 = some (.iload_n 2, 1, (0, 0, 0, [])) := rfl
theorem l_Mo_order_61 : xlk (xm_cd m_Mo_order) 61 = some (.iload 5, 2, (0, 0, 0, [])) := rfl
theorem l_Mo_order_63 : xlk (xm_cd m_Mo_order) 63 = some (.if_icmp .ne 7, 3, (0, 70, 0, [])) := rfl
theorem l_Mo_order_66 : xlk (xm_cd m_Mo_order) 66 = some (.iconst 0, 1, (0, 0, 0, [])) := rfl
theorem l_Mo_order_67 : xlk (xm_cd m_Mo_order) 67 = some (.goto 14, 3, (0, 81, 0, [])) := rfl
theorem l_Mo_order_70 : xlk (xm_cd m_Mo_order) 70 = some (.iload_n 2, 1, (0, 0, 0, [])) := rfl
theorem l_Mo_order_71 : xlk (xm_cd m_Mo_order) 71 = some (.iload 5, 2, (0, 0, 0, [])) := rfl
theorem l_Mo_order_73 : xlk (xm_cd m_Mo_order) 73 = some (.if_icmp .ge 7, 3, (0, 80, 0, [])) := rfl
theorem l_Mo_order_76 : xlk (xm_cd m_Mo_order) 76 = some (.iconst (-1), 1, (0, 0, 0, [])) := rfl
theorem l_Mo_order_77 : xlk (xm_cd m_Mo_order) 77 = some (.goto 4, 3, (0, 81, 0, [])) := rfl
theorem l_Mo_order_80 : xlk (xm_cd m_Mo_order) 80 = some (.iconst 1, 1, (0, 0, 0, [])) := rfl
theorem l_Mo_order_81 : xlk (xm_cd m_Mo_order) 81 = some (.ireturn, 1, (0, 0, 0, [])) := rfl
def B_Mo_order_0 (d : Nat) (E : Option Value → xH → Prop) (f : xH) (a0 : Nat) (x1 : Int32) (x2 : Int32) (a3 : Nat) (x4 : Int32) (x5 : Int32) : Prop :=
  xWp (xT0, xSp xT0 d, none, m_Mo_order, E) 3 [some (.ref a0), some (.int x1), some (.int x2), some (.ref a3), some (.int x4), some (.int x5), some (.int 0)] [] f 0 0
theorem b_Mo_order_0 {d : Nat} {E : Option Value → xH → Prop} {f : xH} {a0 : Nat} {x1 : Int32} {x2 : Int32} {a3 : Nat} {x4 : Int32} {x5 : Int32} (h : B_Mo_order_0 d E f a0 x1 x2 a3 x4 x5) : xWp (xT0, xSp xT0 d, none, m_Mo_order, E) 0 [some (.ref a0), some (.int x1), some (.int x2), some (.ref a3), some (.int x4), some (.int x5), none] [] f 0 0 := by
  unfold B_Mo_order_0 at h
  refine s_ic 0 l_Mo_order_0 rfl ?_
  refine s_is l_Mo_order_1 (Nat.le_of_ble_eq_true rfl) ?_
  exact h
def B_Mo_order_3 (d : Nat) (E : Option Value → xH → Prop) (f : xH) (a0 : Nat) (x1 : Int32) (x2 : Int32) (a3 : Nat) (x4 : Int32) (x5 : Int32) (x6 : Int32) : Prop :=
  xbr (x2 ≤ x6) (xWp (xT0, xSp xT0 d, none, m_Mo_order, E) 60 [some (.ref a0), some (.int x1), some (.int x2), some (.ref a3), some (.int x4), some (.int x5), some (.int x6)] [] f 0 0) (xbr (x5 ≤ x6) (xWp (xT0, xSp xT0 d, none, m_Mo_order, E) 60 [some (.ref a0), some (.int x1), some (.int x2), some (.ref a3), some (.int x4), some (.int x5), some (.int x6)] [] f 0 0) (xal f a0 2 (x1 + x6) (fun v1 => xal f a3 2 (x4 + x6) (fun v2 => xbr (v1 = v2) (xWp (xT0, xSp xT0 d, none, m_Mo_order, E) 3 [some (.ref a0), some (.int x1), some (.int x2), some (.ref a3), some (.int x4), some (.int x5), some (.int (x6 + 1))] [] f 0 0) (xal f a0 2 (x1 + x6) (fun v3 => xal f a3 2 (x4 + x6) (fun v4 => xbr (v4 ≤ v3) (E (some (.int 1)) f) (E (some (.int (-1))) f))))))))
theorem b_Mo_order_3 {d : Nat} {E : Option Value → xH → Prop} {f : xH} {a0 : Nat} {x1 : Int32} {x2 : Int32} {a3 : Nat} {x4 : Int32} {x5 : Int32} {x6 : Int32} (h : B_Mo_order_3 d E f a0 x1 x2 a3 x4 x5 x6) : xWp (xT0, xSp xT0 d, none, m_Mo_order, E) 3 [some (.ref a0), some (.int x1), some (.int x2), some (.ref a3), some (.int x4), some (.int x5), some (.int x6)] [] f 0 0 := by
  unfold B_Mo_order_3 at h
  refine s_il l_Mo_order_3 rfl ?_
  refine s_iln l_Mo_order_5 rfl ?_
  refine s_ifc l_Mo_order_6 h (fun h => ?_) (fun h => ?_)
  · exact h
  · refine s_il l_Mo_order_9 rfl ?_
    refine s_il l_Mo_order_11 rfl ?_
    refine s_ifc l_Mo_order_13 h (fun h => ?_) (fun h => ?_)
    · exact h
    · refine s_aln l_Mo_order_16 rfl ?_
      refine s_iln l_Mo_order_17 rfl ?_
      refine s_il l_Mo_order_18 rfl ?_
      refine s_iadd l_Mo_order_20 ?_
      refine s_bal l_Mo_order_21 (Or.inr rfl) h (fun v1 h => ?_)
      refine s_aln l_Mo_order_22 rfl ?_
      refine s_il l_Mo_order_23 rfl ?_
      refine s_il l_Mo_order_25 rfl ?_
      refine s_iadd l_Mo_order_27 ?_
      refine s_bal l_Mo_order_28 (Or.inr rfl) h (fun v2 h => ?_)
      refine s_ifc l_Mo_order_29 h (fun h => ?_) (fun h => ?_)
      · refine s_inc 1 l_Mo_order_54 rfl rfl ?_
        refine s_goto l_Mo_order_57 ?_
        exact h
      · refine s_aln l_Mo_order_32 rfl ?_
        refine s_iln l_Mo_order_33 rfl ?_
        refine s_il l_Mo_order_34 rfl ?_
        refine s_iadd l_Mo_order_36 ?_
        refine s_bal l_Mo_order_37 (Or.inr rfl) h (fun v3 h => ?_)
        refine s_aln l_Mo_order_38 rfl ?_
        refine s_il l_Mo_order_39 rfl ?_
        refine s_il l_Mo_order_41 rfl ?_
        refine s_iadd l_Mo_order_43 ?_
        refine s_bal l_Mo_order_44 (Or.inr rfl) h (fun v4 h => ?_)
        refine s_ifc l_Mo_order_45 h (fun h => ?_) (fun h => ?_)
        · refine s_ic 1 l_Mo_order_52 rfl ?_
          exact s_iret l_Mo_order_53 rfl ⟨Nat.zero_le _, Nat.zero_le _⟩ h
        · refine s_ic (-1) l_Mo_order_48 rfl ?_
          refine s_goto l_Mo_order_49 ?_
          exact s_iret l_Mo_order_53 rfl ⟨Nat.zero_le _, Nat.zero_le _⟩ h
def B_Mo_order_60 (d : Nat) (E : Option Value → xH → Prop) (f : xH) (a0 : Nat) (x1 : Int32) (x2 : Int32) (a3 : Nat) (x4 : Int32) (x5 : Int32) (x6 : Int32) : Prop :=
  xbr (¬ x2 = x5) (xbr (x5 ≤ x2) (E (some (.int 1)) f) (E (some (.int (-1))) f)) (E (some (.int 0)) f)
theorem b_Mo_order_60 {d : Nat} {E : Option Value → xH → Prop} {f : xH} {a0 : Nat} {x1 : Int32} {x2 : Int32} {a3 : Nat} {x4 : Int32} {x5 : Int32} {x6 : Int32} (h : B_Mo_order_60 d E f a0 x1 x2 a3 x4 x5 x6) : xWp (xT0, xSp xT0 d, none, m_Mo_order, E) 60 [some (.ref a0), some (.int x1), some (.int x2), some (.ref a3), some (.int x4), some (.int x5), some (.int x6)] [] f 0 0 := by
  unfold B_Mo_order_60 at h
  refine s_iln l_Mo_order_60 rfl ?_
  refine s_il l_Mo_order_61 rfl ?_
  refine s_ifc l_Mo_order_63 h (fun h => ?_) (fun h => ?_)
  · refine s_iln l_Mo_order_70 rfl ?_
    refine s_il l_Mo_order_71 rfl ?_
    refine s_ifc l_Mo_order_73 h (fun h => ?_) (fun h => ?_)
    · refine s_ic 1 l_Mo_order_80 rfl ?_
      exact s_iret l_Mo_order_81 rfl ⟨Nat.zero_le _, Nat.zero_le _⟩ h
    · refine s_ic (-1) l_Mo_order_76 rfl ?_
      refine s_goto l_Mo_order_77 ?_
      exact s_iret l_Mo_order_81 rfl ⟨Nat.zero_le _, Nat.zero_le _⟩ h
  · refine s_ic 0 l_Mo_order_66 rfl ?_
    refine s_goto l_Mo_order_67 ?_
    exact s_iret l_Mo_order_81 rfl ⟨Nat.zero_le _, Nat.zero_le _⟩ h
theorem l_Mo_isBlocked_0 : xlk (xm_cd m_Mo_isBlocked) 0 = some (.iconst 0, 1, (0, 0, 0, [])) := rfl
theorem l_Mo_isBlocked_1 : xlk (xm_cd m_Mo_isBlocked) 1 = some (.istore 5, 2, (0, 0, 0, [])) := rfl
theorem l_Mo_isBlocked_3 : xlk (xm_cd m_Mo_isBlocked) 3 = some (.iconst 0, 1, (0, 0, 0, [])) := rfl
theorem l_Mo_isBlocked_4 : xlk (xm_cd m_Mo_isBlocked) 4 = some (.istore 6, 2, (0, 0, 0, [])) := rfl
theorem l_Mo_isBlocked_6 : xlk (xm_cd m_Mo_isBlocked) 6 = some (.iload 6, 2, (0, 0, 0, [])) := rfl
theorem l_Mo_isBlocked_8 : xlk (xm_cd m_Mo_isBlocked) 8 = some (.aload_n 0, 1, (0, 0, 0, [])) := rfl
theorem l_Mo_isBlocked_9 : xlk (xm_cd m_Mo_isBlocked) 9 = some (.getfield 33, 3, (858, 11, 9, [])) := rfl
theorem l_Mo_isBlocked_12 : xlk (xm_cd m_Mo_isBlocked) 12 = some (.iload_n 1, 1, (0, 0, 0, [])) := rfl
theorem l_Mo_isBlocked_13 : xlk (xm_cd m_Mo_isBlocked) 13 = some (.iaload, 1, (0, 0, 0, [])) := rfl
theorem l_Mo_isBlocked_14 : xlk (xm_cd m_Mo_isBlocked) 14 = some (.if_icmp .ge 55, 3, (0, 69, 0, [])) := rfl
theorem l_Mo_isBlocked_17 : xlk (xm_cd m_Mo_isBlocked) 17 = some (.iload 5, 2, (0, 0, 0, [])) := rfl
theorem l_Mo_isBlocked_19 : xlk (xm_cd m_Mo_isBlocked) 19 = some (.ifCond .ne 37, 3, (0, 56, 0, [])) := rfl
theorem l_Mo_isBlocked_22 : xlk (xm_cd m_Mo_isBlocked) 22 = some (.aload_n 0, 1, (0, 0, 0, [])) := rfl
theorem l_Mo_isBlocked_23 : xlk (xm_cd m_Mo_isBlocked) 23 = some (.getfield 20, 3, (854, 11, 5, [])) := rfl
theorem l_Mo_isBlocked_26 : xlk (xm_cd m_Mo_isBlocked) 26 = some (.bipush 18, 2, (0, 0, 0, [])) := rfl
theorem l_Mo_isBlocked_28 : xlk (xm_cd m_Mo_isBlocked) 28 = some (.iload_n 1, 1, (0, 0, 0, [])) := rfl
theorem l_Mo_isBlocked_29 : xlk (xm_cd m_Mo_isBlocked) 29 = some (.iload 6, 2, (0, 0, 0, [])) := rfl
theorem l_Mo_isBlocked_31 : xlk (xm_cd m_Mo_isBlocked) 31 = some (.invokestatic 155, 3, (971, 152, 2, [])) := rfl
theorem l_Mo_isBlocked_34 : xlk (xm_cd m_Mo_isBlocked) 34 = some (.imul, 1, (0, 0, 0, [])) := rfl
theorem l_Mo_isBlocked_35 : xlk (xm_cd m_Mo_isBlocked) 35 = some (.aload_n 0, 1, (0, 0, 0, [])) := rfl
theorem l_Mo_isBlocked_36 : xlk (xm_cd m_Mo_isBlocked) 36 = some (.getfield 23, 3, (855, 11, 6, [])) := rfl
theorem l_Mo_isBlocked_39 : xlk (xm_cd m_Mo_isBlocked) 39 = some (.iload_n 1, 1, (0, 0, 0, [])) := rfl
theorem l_Mo_isBlocked_40 : xlk (xm_cd m_Mo_isBlocked) 40 = some (.iload 6, 2, (0, 0, 0, [])) := rfl
theorem l_Mo_isBlocked_42 : xlk (xm_cd m_Mo_isBlocked) 42 = some (.invokestatic 155, 3, (971, 152, 2, [])) := rfl
theorem l_Mo_isBlocked_45 : xlk (xm_cd m_Mo_isBlocked) 45 = some (.iaload, 1, (0, 0, 0, [])) := rfl
theorem l_Mo_isBlocked_46 : xlk (xm_cd m_Mo_isBlocked) 46 = some (.aload_n 2, 1, (0, 0, 0, [])) := rfl
theorem l_Mo_isBlocked_47 : xlk (xm_cd m_Mo_isBlocked) 47 = some (.iload_n 3, 1, (0, 0, 0, [])) := rfl
theorem l_Mo_isBlocked_48 : xlk (xm_cd m_Mo_isBlocked) 48 = some (.iload 4, 2, (0, 0, 0, [])) := rfl
theorem l_Mo_isBlocked_50 : xlk (xm_cd m_Mo_isBlocked) 50 = some (.invokestatic 159, 3, (993, 159, 6, [])) := rfl
theorem l_Mo_isBlocked_53 : xlk (xm_cd m_Mo_isBlocked) 53 = some (.ifCond .eq 7, 3, (0, 60, 0, [])) := rfl
theorem l_Mo_isBlocked_56 : xlk (xm_cd m_Mo_isBlocked) 56 = some (.iconst 1, 1, (0, 0, 0, [])) := rfl
theorem l_Mo_isBlocked_57 : xlk (xm_cd m_Mo_isBlocked) 57 = some (.goto 4, 3, (0, 61, 0, [])) := rfl
theorem l_Mo_isBlocked_60 : xlk (xm_cd m_Mo_isBlocked) 60 = some (.iconst 0, 1, (0, 0, 0, [])) := rfl
theorem l_Mo_isBlocked_61 : xlk (xm_cd m_Mo_isBlocked) 61 = some (.istore 5, 2, (0, 0, 0, [])) := rfl
theorem l_Mo_isBlocked_63 : xlk (xm_cd m_Mo_isBlocked) 63 = some (.iinc 6 1, 3, (0, 0, 0, [])) := rfl
theorem l_Mo_isBlocked_66 : xlk (xm_cd m_Mo_isBlocked) 66 = some (.goto (-60), 3, (0, 6, 0, [])) := rfl
theorem l_Mo_isBlocked_69 : xlk (xm_cd m_Mo_isBlocked) 69 = some (.iload 5, 2, (0, 0, 0, [])) := rfl
theorem l_Mo_isBlocked_71 : xlk (xm_cd m_Mo_isBlocked) 71 = some (.ireturn, 1, (0, 0, 0, [])) := rfl
def B_Mo_isBlocked_0 (d : Nat) (E : Option Value → xH → Prop) (f : xH) (a0 : Nat) (x1 : Int32) (a2 : Nat) (x3 : Int32) (x4 : Int32) : Prop :=
  xWp (xT0, xSp xT0 d, none, m_Mo_isBlocked, E) 6 [some (.ref a0), some (.int x1), some (.ref a2), some (.int x3), some (.int x4), some (.int 0), some (.int 0)] [] f 0 0
theorem b_Mo_isBlocked_0 {d : Nat} {E : Option Value → xH → Prop} {f : xH} {a0 : Nat} {x1 : Int32} {a2 : Nat} {x3 : Int32} {x4 : Int32} (h : B_Mo_isBlocked_0 d E f a0 x1 a2 x3 x4) : xWp (xT0, xSp xT0 d, none, m_Mo_isBlocked, E) 0 [some (.ref a0), some (.int x1), some (.ref a2), some (.int x3), some (.int x4), none, none] [] f 0 0 := by
  unfold B_Mo_isBlocked_0 at h
  refine s_ic 0 l_Mo_isBlocked_0 rfl ?_
  refine s_is l_Mo_isBlocked_1 (Nat.le_of_ble_eq_true rfl) ?_
  refine s_ic 0 l_Mo_isBlocked_3 rfl ?_
  refine s_is l_Mo_isBlocked_4 (Nat.le_of_ble_eq_true rfl) ?_
  exact h
def B_Mo_isBlocked_6 (d : Nat) (E : Option Value → xH → Prop) (f : xH) (a0 : Nat) (x1 : Int32) (a2 : Nat) (x3 : Int32) (x4 : Int32) (x5 : Int32) (x6 : Int32) : Prop :=
  xgr f a0 11 9 (fun r1 => xal f r1 0 x1 (fun v2 => xbr (v2 ≤ x6) ((x5 = 0 ∨ x5 = 1) ∧ E (some (.int x5)) f) (xbr (¬ x5 = 0) (xWp (xT0, xSp xT0 d, none, m_Mo_isBlocked, E) 6 [some (.ref a0), some (.int x1), some (.ref a2), some (.int x3), some (.int x4), some (.int 1), some (.int (x6 + 1))] [] f 0 0) (xgr f a0 11 5 (fun r3 => xSp xT0 d j_Mo_at [.int x1, .int x6] f (fun w4 f5 => xvi w4 (fun v6 => xgr f5 a0 11 6 (fun r7 => xSp xT0 d j_Mo_at [.int x1, .int x6] f5 (fun w8 f9 => xvi w8 (fun v10 => xal f9 r7 0 v10 (fun v11 => xSp xT0 d j_Mo_isInTheWay [.ref r3, .int (18 * v6), .int v11, .ref a2, .int x3, .int x4] f9 (fun w12 f13 => xvi w12 (fun v14 => xbr (v14 = 0) (xWp (xT0, xSp xT0 d, none, m_Mo_isBlocked, E) 6 [some (.ref a0), some (.int x1), some (.ref a2), some (.int x3), some (.int x4), some (.int 0), some (.int (x6 + 1))] [] f13 0 0) (xWp (xT0, xSp xT0 d, none, m_Mo_isBlocked, E) 6 [some (.ref a0), some (.int x1), some (.ref a2), some (.int x3), some (.int x4), some (.int 1), some (.int (x6 + 1))] [] f13 0 0))))))))))))))
theorem b_Mo_isBlocked_6 {d : Nat} {E : Option Value → xH → Prop} {f : xH} {a0 : Nat} {x1 : Int32} {a2 : Nat} {x3 : Int32} {x4 : Int32} {x5 : Int32} {x6 : Int32} (h : B_Mo_isBlocked_6 d E f a0 x1 a2 x3 x4 x5 x6) : xWp (xT0, xSp xT0 d, none, m_Mo_isBlocked, E) 6 [some (.ref a0), some (.int x1), some (.ref a2), some (.int x3), some (.int x4), some (.int x5), some (.int x6)] [] f 0 0 := by
  unfold B_Mo_isBlocked_6 at h
  refine s_il l_Mo_isBlocked_6 rfl ?_
  refine s_aln l_Mo_isBlocked_8 rfl ?_
  refine s_gr l_Mo_isBlocked_9 h (fun r1 h => ?_)
  refine s_iln l_Mo_isBlocked_12 rfl ?_
  refine s_ial l_Mo_isBlocked_13 rfl h (fun v2 h => ?_)
  refine s_ifc l_Mo_isBlocked_14 h (fun h => ?_) (fun h => ?_)
  · refine s_il l_Mo_isBlocked_69 rfl ?_
    exact s_zret l_Mo_isBlocked_71 rfl ⟨Nat.zero_le _, Nat.zero_le _⟩ h
  · refine s_il l_Mo_isBlocked_17 rfl ?_
    refine s_if l_Mo_isBlocked_19 h (fun h => ?_) (fun h => ?_)
    · refine s_ic 1 l_Mo_isBlocked_56 rfl ?_
      refine s_goto l_Mo_isBlocked_57 ?_
      refine s_is l_Mo_isBlocked_61 (Nat.le_of_ble_eq_true rfl) ?_
      refine s_inc 1 l_Mo_isBlocked_63 rfl rfl ?_
      refine s_goto l_Mo_isBlocked_66 ?_
      exact h
    · refine s_aln l_Mo_isBlocked_22 rfl ?_
      refine s_gr l_Mo_isBlocked_23 h (fun r3 h => ?_)
      refine s_bp 18 l_Mo_isBlocked_26 rfl ?_
      refine s_iln l_Mo_isBlocked_28 rfl ?_
      refine s_il l_Mo_isBlocked_29 rfl ?_
      refine s_csi (As := [.int x1, .int x6]) (r := [.int 18, .ref r3]) l_Mo_isBlocked_31 rfl ⟨rfl, rfl⟩ rfl (Nat.le_of_ble_eq_true rfl) rfl ⟨Nat.zero_le _, Nat.zero_le _⟩ h (fun v6 f5 h => ?_)
      refine s_imul l_Mo_isBlocked_34 ?_
      refine s_aln l_Mo_isBlocked_35 rfl ?_
      refine s_gr l_Mo_isBlocked_36 h (fun r7 h => ?_)
      refine s_iln l_Mo_isBlocked_39 rfl ?_
      refine s_il l_Mo_isBlocked_40 rfl ?_
      refine s_csi (As := [.int x1, .int x6]) (r := [.ref r7, .int (18 * v6), .ref r3]) l_Mo_isBlocked_42 rfl ⟨rfl, rfl⟩ rfl (Nat.le_of_ble_eq_true rfl) rfl ⟨Nat.zero_le _, Nat.zero_le _⟩ h (fun v10 f9 h => ?_)
      refine s_ial l_Mo_isBlocked_45 rfl h (fun v11 h => ?_)
      refine s_aln l_Mo_isBlocked_46 rfl ?_
      refine s_iln l_Mo_isBlocked_47 rfl ?_
      refine s_il l_Mo_isBlocked_48 rfl ?_
      refine s_csi (As := [.ref r3, .int (18 * v6), .int v11, .ref a2, .int x3, .int x4]) (r := []) l_Mo_isBlocked_50 rfl ⟨rfl, rfl⟩ rfl (Nat.le_of_ble_eq_true rfl) rfl ⟨Nat.zero_le _, Nat.zero_le _⟩ h (fun v14 f13 h => ?_)
      refine s_if l_Mo_isBlocked_53 h (fun h => ?_) (fun h => ?_)
      · refine s_ic 0 l_Mo_isBlocked_60 rfl ?_
        refine s_is l_Mo_isBlocked_61 (Nat.le_of_ble_eq_true rfl) ?_
        refine s_inc 1 l_Mo_isBlocked_63 rfl rfl ?_
        refine s_goto l_Mo_isBlocked_66 ?_
        exact h
      · refine s_ic 1 l_Mo_isBlocked_56 rfl ?_
        refine s_goto l_Mo_isBlocked_57 ?_
        refine s_is l_Mo_isBlocked_61 (Nat.le_of_ble_eq_true rfl) ?_
        refine s_inc 1 l_Mo_isBlocked_63 rfl rfl ?_
        refine s_goto l_Mo_isBlocked_66 ?_
        exact h
theorem l_Mo_isInTheWay_0 : xlk (xm_cd m_Mo_isInTheWay) 0 = some (.aload_n 0, 1, (0, 0, 0, [])) := rfl
theorem l_Mo_isInTheWay_1 : xlk (xm_cd m_Mo_isInTheWay) 1 = some (.iload_n 1, 1, (0, 0, 0, [])) := rfl
theorem l_Mo_isInTheWay_2 : xlk (xm_cd m_Mo_isInTheWay) 2 = some (.iload_n 2, 1, (0, 0, 0, [])) := rfl
theorem l_Mo_isInTheWay_3 : xlk (xm_cd m_Mo_isInTheWay) 3 = some (.aload_n 3, 1, (0, 0, 0, [])) := rfl
theorem l_Mo_isInTheWay_4 : xlk (xm_cd m_Mo_isInTheWay) 4 = some (.iload 4, 2, (0, 0, 0, [])) := rfl
theorem l_Mo_isInTheWay_6 : xlk (xm_cd m_Mo_isInTheWay) 6 = some (.iload 5, 2, (0, 0, 0, [])) := rfl
theorem l_Mo_isInTheWay_8 : xlk (xm_cd m_Mo_isInTheWay) 8 = some (.invokestatic 147, 3, (996, 160, 6, [])) := rfl
theorem l_Mo_isInTheWay_11 : xlk (xm_cd m_Mo_isInTheWay) 11 = some (.ifCond .ne 17, 3, (0, 28, 0, [])) := rfl
theorem l_Mo_isInTheWay_14 : xlk (xm_cd m_Mo_isInTheWay) 14 = some (.aload_n 3, 1, (0, 0, 0, [])) := rfl
theorem l_Mo_isInTheWay_15 : xlk (xm_cd m_Mo_isInTheWay) 15 = some (.iload 4, 2, (0, 0, 0, [])) := rfl
theorem l_Mo_isInTheWay_17 : xlk (xm_cd m_Mo_isInTheWay) 17 = some (.iload 5, 2, (0, 0, 0, [])) := rfl
theorem l_Mo_isInTheWay_19 : xlk (xm_cd m_Mo_isInTheWay) 19 = some (.aload_n 0, 1, (0, 0, 0, [])) := rfl
theorem l_Mo_isInTheWay_20 : xlk (xm_cd m_Mo_isInTheWay) 20 = some (.iload_n 1, 1, (0, 0, 0, [])) := rfl
theorem l_Mo_isInTheWay_21 : xlk (xm_cd m_Mo_isInTheWay) 21 = some (.iload_n 2, 1, (0, 0, 0, [])) := rfl
theorem l_Mo_isInTheWay_22 : xlk (xm_cd m_Mo_isInTheWay) 22 = some (.invokestatic 147, 3, (996, 160, 6, [])) := rfl
theorem l_Mo_isInTheWay_25 : xlk (xm_cd m_Mo_isInTheWay) 25 = some (.ifCond .eq 7, 3, (0, 32, 0, [])) := rfl
theorem l_Mo_isInTheWay_28 : xlk (xm_cd m_Mo_isInTheWay) 28 = some (.iconst 1, 1, (0, 0, 0, [])) := rfl
theorem l_Mo_isInTheWay_29 : xlk (xm_cd m_Mo_isInTheWay) 29 = some (.goto 4, 3, (0, 33, 0, [])) := rfl
theorem l_Mo_isInTheWay_32 : xlk (xm_cd m_Mo_isInTheWay) 32 = some (.iconst 0, 1, (0, 0, 0, [])) := rfl
theorem l_Mo_isInTheWay_33 : xlk (xm_cd m_Mo_isInTheWay) 33 = some (.ireturn, 1, (0, 0, 0, [])) := rfl
def B_Mo_isInTheWay_0 (d : Nat) (E : Option Value → xH → Prop) (f : xH) (a0 : Nat) (x1 : Int32) (x2 : Int32) (a3 : Nat) (x4 : Int32) (x5 : Int32) : Prop :=
  xSp xT0 d j_Mo_isUpTo [.ref a0, .int x1, .int x2, .ref a3, .int x4, .int x5] f (fun w1 f2 => xvi w1 (fun v3 => xbr (¬ v3 = 0) (E (some (.int 1)) f2) (xSp xT0 d j_Mo_isUpTo [.ref a3, .int x4, .int x5, .ref a0, .int x1, .int x2] f2 (fun w4 f5 => xvi w4 (fun v6 => xbr (v6 = 0) (E (some (.int 0)) f5) (E (some (.int 1)) f5))))))
theorem b_Mo_isInTheWay_0 {d : Nat} {E : Option Value → xH → Prop} {f : xH} {a0 : Nat} {x1 : Int32} {x2 : Int32} {a3 : Nat} {x4 : Int32} {x5 : Int32} (h : B_Mo_isInTheWay_0 d E f a0 x1 x2 a3 x4 x5) : xWp (xT0, xSp xT0 d, none, m_Mo_isInTheWay, E) 0 [some (.ref a0), some (.int x1), some (.int x2), some (.ref a3), some (.int x4), some (.int x5)] [] f 0 0 := by
  unfold B_Mo_isInTheWay_0 at h
  refine s_aln l_Mo_isInTheWay_0 rfl ?_
  refine s_iln l_Mo_isInTheWay_1 rfl ?_
  refine s_iln l_Mo_isInTheWay_2 rfl ?_
  refine s_aln l_Mo_isInTheWay_3 rfl ?_
  refine s_il l_Mo_isInTheWay_4 rfl ?_
  refine s_il l_Mo_isInTheWay_6 rfl ?_
  refine s_csi (As := [.ref a0, .int x1, .int x2, .ref a3, .int x4, .int x5]) (r := []) l_Mo_isInTheWay_8 rfl ⟨rfl, rfl⟩ rfl (Nat.le_of_ble_eq_true rfl) rfl ⟨Nat.zero_le _, Nat.zero_le _⟩ h (fun v3 f2 h => ?_)
  refine s_if l_Mo_isInTheWay_11 h (fun h => ?_) (fun h => ?_)
  · refine s_ic 1 l_Mo_isInTheWay_28 rfl ?_
    refine s_goto l_Mo_isInTheWay_29 ?_
    exact s_zret l_Mo_isInTheWay_33 rfl ⟨Nat.zero_le _, Nat.zero_le _⟩ ⟨Or.inr rfl, h⟩
  · refine s_aln l_Mo_isInTheWay_14 rfl ?_
    refine s_il l_Mo_isInTheWay_15 rfl ?_
    refine s_il l_Mo_isInTheWay_17 rfl ?_
    refine s_aln l_Mo_isInTheWay_19 rfl ?_
    refine s_iln l_Mo_isInTheWay_20 rfl ?_
    refine s_iln l_Mo_isInTheWay_21 rfl ?_
    refine s_csi (As := [.ref a3, .int x4, .int x5, .ref a0, .int x1, .int x2]) (r := []) l_Mo_isInTheWay_22 rfl ⟨rfl, rfl⟩ rfl (Nat.le_of_ble_eq_true rfl) rfl ⟨Nat.zero_le _, Nat.zero_le _⟩ h (fun v6 f5 h => ?_)
    refine s_if l_Mo_isInTheWay_25 h (fun h => ?_) (fun h => ?_)
    · refine s_ic 0 l_Mo_isInTheWay_32 rfl ?_
      exact s_zret l_Mo_isInTheWay_33 rfl ⟨Nat.zero_le _, Nat.zero_le _⟩ ⟨Or.inl rfl, h⟩
    · refine s_ic 1 l_Mo_isInTheWay_28 rfl ?_
      refine s_goto l_Mo_isInTheWay_29 ?_
      exact s_zret l_Mo_isInTheWay_33 rfl ⟨Nat.zero_le _, Nat.zero_le _⟩ ⟨Or.inr rfl, h⟩
theorem l_Mo_isUpTo_0 : xlk (xm_cd m_Mo_isUpTo) 0 = some (.iload 5, 2, (0, 0, 0, [])) := rfl
theorem l_Mo_isUpTo_2 : xlk (xm_cd m_Mo_isUpTo) 2 = some (.iload_n 2, 1, (0, 0, 0, [])) := rfl
theorem l_Mo_isUpTo_3 : xlk (xm_cd m_Mo_isUpTo) 3 = some (.if_icmp .le 31, 3, (0, 34, 0, [])) := rfl
theorem l_Mo_isUpTo_6 : xlk (xm_cd m_Mo_isUpTo) 6 = some (.aload_n 3, 1, (0, 0, 0, [])) := rfl
theorem l_Mo_isUpTo_7 : xlk (xm_cd m_Mo_isUpTo) 7 = some (.iload 4, 2, (0, 0, 0, [])) := rfl
theorem l_Mo_isUpTo_9 : xlk (xm_cd m_Mo_isUpTo) 9 = some (.iload_n 2, 1, (0, 0, 0, [])) := rfl
theorem l_Mo_isUpTo_10 : xlk (xm_cd m_Mo_isUpTo) 10 = some (.iadd, 1, (0, 0, 0, [])) := rfl
theorem l_Mo_isUpTo_11 : xlk (xm_cd m_Mo_isUpTo) 11 = some (.baload, 1, (0, 0, 0, [])) := rfl
theorem l_Mo_isUpTo_12 : xlk (xm_cd m_Mo_isUpTo) 12 = some (.bipush 47, 2, (0, 0, 0, [])) := rfl
theorem l_Mo_isUpTo_14 : xlk (xm_cd m_Mo_isUpTo) 14 = some (.if_icmp .ne 20, 3, (0, 34, 0, [])) := rfl
theorem l_Mo_isUpTo_17 : xlk (xm_cd m_Mo_isUpTo) 17 = some (.aload_n 0, 1, (0, 0, 0, [])) := rfl
theorem l_Mo_isUpTo_18 : xlk (xm_cd m_Mo_isUpTo) 18 = some (.iload_n 1, 1, (0, 0, 0, [])) := rfl
theorem l_Mo_isUpTo_19 : xlk (xm_cd m_Mo_isUpTo) 19 = some (.iload_n 2, 1, (0, 0, 0, [])) := rfl
theorem l_Mo_isUpTo_20 : xlk (xm_cd m_Mo_isUpTo) 20 = some (.aload_n 3, 1, (0, 0, 0, [])) := rfl
theorem l_Mo_isUpTo_21 : xlk (xm_cd m_Mo_isUpTo) 21 = some (.iload 4, 2, (0, 0, 0, [])) := rfl
theorem l_Mo_isUpTo_23 : xlk (xm_cd m_Mo_isUpTo) 23 = some (.iload_n 2, 1, (0, 0, 0, [])) := rfl
theorem l_Mo_isUpTo_24 : xlk (xm_cd m_Mo_isUpTo) 24 = some (.invokestatic 143, 3, (987, 157, 6, [])) := rfl
theorem l_Mo_isUpTo_27 : xlk (xm_cd m_Mo_isUpTo) 27 = some (.ifCond .ne 7, 3, (0, 34, 0, [])) := rfl
theorem l_Mo_isUpTo_30 : xlk (xm_cd m_Mo_isUpTo) 30 = some (.iconst 1, 1, (0, 0, 0, [])) := rfl
theorem l_Mo_isUpTo_31 : xlk (xm_cd m_Mo_isUpTo) 31 = some (.goto 4, 3, (0, 35, 0, [])) := rfl
theorem l_Mo_isUpTo_34 : xlk (xm_cd m_Mo_isUpTo) 34 = some (.iconst 0, 1, (0, 0, 0, [])) := rfl
theorem l_Mo_isUpTo_35 : xlk (xm_cd m_Mo_isUpTo) 35 = some (.ireturn, 1, (0, 0, 0, [])) := rfl
def B_Mo_isUpTo_0 (d : Nat) (E : Option Value → xH → Prop) (f : xH) (a0 : Nat) (x1 : Int32) (x2 : Int32) (a3 : Nat) (x4 : Int32) (x5 : Int32) : Prop :=
  xbr (x5 ≤ x2) (E (some (.int 0)) f) (xal f a3 2 (x4 + x2) (fun v1 => xbr (¬ v1 = 47) (E (some (.int 0)) f) (xSp xT0 d j_Mo_order [.ref a0, .int x1, .int x2, .ref a3, .int x4, .int x2] f (fun w2 f3 => xvi w2 (fun v4 => xbr (¬ v4 = 0) (E (some (.int 0)) f3) (E (some (.int 1)) f3))))))
theorem b_Mo_isUpTo_0 {d : Nat} {E : Option Value → xH → Prop} {f : xH} {a0 : Nat} {x1 : Int32} {x2 : Int32} {a3 : Nat} {x4 : Int32} {x5 : Int32} (h : B_Mo_isUpTo_0 d E f a0 x1 x2 a3 x4 x5) : xWp (xT0, xSp xT0 d, none, m_Mo_isUpTo, E) 0 [some (.ref a0), some (.int x1), some (.int x2), some (.ref a3), some (.int x4), some (.int x5)] [] f 0 0 := by
  unfold B_Mo_isUpTo_0 at h
  refine s_il l_Mo_isUpTo_0 rfl ?_
  refine s_iln l_Mo_isUpTo_2 rfl ?_
  refine s_ifc l_Mo_isUpTo_3 h (fun h => ?_) (fun h => ?_)
  · refine s_ic 0 l_Mo_isUpTo_34 rfl ?_
    exact s_zret l_Mo_isUpTo_35 rfl ⟨Nat.zero_le _, Nat.zero_le _⟩ ⟨Or.inl rfl, h⟩
  · refine s_aln l_Mo_isUpTo_6 rfl ?_
    refine s_il l_Mo_isUpTo_7 rfl ?_
    refine s_iln l_Mo_isUpTo_9 rfl ?_
    refine s_iadd l_Mo_isUpTo_10 ?_
    refine s_bal l_Mo_isUpTo_11 (Or.inr rfl) h (fun v1 h => ?_)
    refine s_bp 47 l_Mo_isUpTo_12 rfl ?_
    refine s_ifc l_Mo_isUpTo_14 h (fun h => ?_) (fun h => ?_)
    · refine s_ic 0 l_Mo_isUpTo_34 rfl ?_
      exact s_zret l_Mo_isUpTo_35 rfl ⟨Nat.zero_le _, Nat.zero_le _⟩ ⟨Or.inl rfl, h⟩
    · refine s_aln l_Mo_isUpTo_17 rfl ?_
      refine s_iln l_Mo_isUpTo_18 rfl ?_
      refine s_iln l_Mo_isUpTo_19 rfl ?_
      refine s_aln l_Mo_isUpTo_20 rfl ?_
      refine s_il l_Mo_isUpTo_21 rfl ?_
      refine s_iln l_Mo_isUpTo_23 rfl ?_
      refine s_csi (As := [.ref a0, .int x1, .int x2, .ref a3, .int x4, .int x2]) (r := []) l_Mo_isUpTo_24 rfl ⟨rfl, rfl⟩ rfl (Nat.le_of_ble_eq_true rfl) rfl ⟨Nat.zero_le _, Nat.zero_le _⟩ h (fun v4 f3 h => ?_)
      refine s_if l_Mo_isUpTo_27 h (fun h => ?_) (fun h => ?_)
      · refine s_ic 0 l_Mo_isUpTo_34 rfl ?_
        exact s_zret l_Mo_isUpTo_35 rfl ⟨Nat.zero_le _, Nat.zero_le _⟩ ⟨Or.inl rfl, h⟩
      · refine s_ic 1 l_Mo_isUpTo_30 rfl ?_
        refine s_goto l_Mo_isUpTo_31 ?_
        exact s_zret l_Mo_isUpTo_35 rfl ⟨Nat.zero_le _, Nat.zero_le _⟩ ⟨Or.inr rfl, h⟩
