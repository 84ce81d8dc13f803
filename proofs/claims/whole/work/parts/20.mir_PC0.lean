/-! blocks of PC, 0 -/
theorem l_PC_feed_0 : xlk (xm_cd m_PC_feed) 0 = some (.aload_n 0, 1, (0, 0, 0, [])) := rfl
theorem l_PC_feed_1 : xlk (xm_cd m_PC_feed) 1 = some (.getfield 14, 3, (261, 0, 0, [])) := rfl
theorem l_PC_feed_4 : xlk (xm_cd m_PC_feed) 4 = some (.invokevirtual 63, 3, (283, 12, 0, [])) := rfl
theorem l_PC_feed_7 : xlk (xm_cd m_PC_feed) 7 = some (.bipush 20, 2, (0, 0, 0, [])) := rfl
theorem l_PC_feed_9 : xlk (xm_cd m_PC_feed) 9 = some (.iadd, 1, (0, 0, 0, [])) := rfl
theorem l_PC_feed_10 : xlk (xm_cd m_PC_feed) 10 = some (.bipush 80, 2, (0, 0, 0, [])) := rfl
theorem l_PC_feed_12 : xlk (xm_cd m_PC_feed) 12 = some (.if_icmp .le 6, 3, (0, 18, 0, [])) := rfl
theorem l_PC_feed_15 : xlk (xm_cd m_PC_feed) 15 = some (.bipush (-3), 2, (0, 0, 0, [])) := rfl
theorem l_PC_feed_17 : xlk (xm_cd m_PC_feed) 17 = some (.ireturn, 1, (0, 0, 0, [])) := rfl
theorem l_PC_feed_18 : xlk (xm_cd m_PC_feed) 18 = some (.aload_n 0, 1, (0, 0, 0, [])) := rfl
theorem l_PC_feed_19 : xlk (xm_cd m_PC_feed) 19 = some (.getfield 14, 3, (261, 0, 0, [])) := rfl
theorem l_PC_feed_22 : xlk (xm_cd m_PC_feed) 22 = some (.iload_n 1, 1, (0, 0, 0, [])) := rfl
theorem l_PC_feed_23 : xlk (xm_cd m_PC_feed) 23 = some (.invokevirtual 67, 3, (287, 13, 1, [])) := rfl
theorem l_PC_feed_26 : xlk (xm_cd m_PC_feed) 26 = some (.aload_n 0, 1, (0, 0, 0, [])) := rfl
theorem l_PC_feed_27 : xlk (xm_cd m_PC_feed) 27 = some (.getfield 14, 3, (261, 0, 0, [])) := rfl
theorem l_PC_feed_30 : xlk (xm_cd m_PC_feed) 30 = some (.iload_n 2, 1, (0, 0, 0, [])) := rfl
theorem l_PC_feed_31 : xlk (xm_cd m_PC_feed) 31 = some (.invokevirtual 67, 3, (287, 13, 1, [])) := rfl
theorem l_PC_feed_34 : xlk (xm_cd m_PC_feed) 34 = some (.aload_n 0, 1, (0, 0, 0, [])) := rfl
theorem l_PC_feed_35 : xlk (xm_cd m_PC_feed) 35 = some (.getfield 14, 3, (261, 0, 0, [])) := rfl
theorem l_PC_feed_38 : xlk (xm_cd m_PC_feed) 38 = some (.iload_n 3, 1, (0, 0, 0, [])) := rfl
theorem l_PC_feed_39 : xlk (xm_cd m_PC_feed) 39 = some (.invokevirtual 67, 3, (287, 13, 1, [])) := rfl
theorem l_PC_feed_42 : xlk (xm_cd m_PC_feed) 42 = some (.aload_n 0, 1, (0, 0, 0, [])) := rfl
theorem l_PC_feed_43 : xlk (xm_cd m_PC_feed) 43 = some (.getfield 14, 3, (261, 0, 0, [])) := rfl
theorem l_PC_feed_46 : xlk (xm_cd m_PC_feed) 46 = some (.iload 4, 2, (0, 0, 0, [])) := rfl
theorem l_PC_feed_48 : xlk (xm_cd m_PC_feed) 48 = some (.invokevirtual 67, 3, (287, 13, 1, [])) := rfl
theorem l_PC_feed_51 : xlk (xm_cd m_PC_feed) 51 = some (.aload_n 0, 1, (0, 0, 0, [])) := rfl
theorem l_PC_feed_52 : xlk (xm_cd m_PC_feed) 52 = some (.getfield 14, 3, (261, 0, 0, [])) := rfl
theorem l_PC_feed_55 : xlk (xm_cd m_PC_feed) 55 = some (.iload 5, 2, (0, 0, 0, [])) := rfl
theorem l_PC_feed_57 : xlk (xm_cd m_PC_feed) 57 = some (.invokevirtual 67, 3, (287, 13, 1, [])) := rfl
theorem l_PC_feed_60 : xlk (xm_cd m_PC_feed) 60 = some (.aload_n 0, 1, (0, 0, 0, [])) := rfl
theorem l_PC_feed_61 : xlk (xm_cd m_PC_feed) 61 = some (.getfield 14, 3, (261, 0, 0, [])) := rfl
theorem l_PC_feed_64 : xlk (xm_cd m_PC_feed) 64 = some (.invokevirtual 63, 3, (283, 12, 0, [])) := rfl
theorem l_PC_feed_67 : xlk (xm_cd m_PC_feed) 67 = some (.ireturn, 1, (0, 0, 0, [])) := rfl
def B_PC_feed_0 (d : Nat) (E : Option Value → xH → Prop) (f : xH) (a0 : Nat) (x1 : Int32) (x2 : Int32) (x3 : Int32) (x4 : Int32) (x5 : Int32) : Prop :=
  xgr f a0 0 0 (fun r1 => (∃ fs, f r1 = some (xO 1 fs)) ∧ xSp xT0 d j_By_size [.ref r1] f (fun w2 f3 => xvi w2 (fun v4 => xbr ((v4 + 20) ≤ 80) (xgr f3 a0 0 0 (fun r5 => (∃ fs, f3 r5 = some (xO 1 fs)) ∧ xSp xT0 d j_By_addNumber [.ref r5, .int x1] f3 (fun w6 f7 => xvv w6 (xgr f7 a0 0 0 (fun r8 => (∃ fs, f7 r8 = some (xO 1 fs)) ∧ xSp xT0 d j_By_addNumber [.ref r8, .int x2] f7 (fun w9 f10 => xvv w9 (xgr f10 a0 0 0 (fun r11 => (∃ fs, f10 r11 = some (xO 1 fs)) ∧ xSp xT0 d j_By_addNumber [.ref r11, .int x3] f10 (fun w12 f13 => xvv w12 (xgr f13 a0 0 0 (fun r14 => (∃ fs, f13 r14 = some (xO 1 fs)) ∧ xSp xT0 d j_By_addNumber [.ref r14, .int x4] f13 (fun w15 f16 => xvv w15 (xgr f16 a0 0 0 (fun r17 => (∃ fs, f16 r17 = some (xO 1 fs)) ∧ xSp xT0 d j_By_addNumber [.ref r17, .int x5] f16 (fun w18 f19 => xvv w18 (xgr f19 a0 0 0 (fun r20 => (∃ fs, f19 r20 = some (xO 1 fs)) ∧ xSp xT0 d j_By_size [.ref r20] f19 (fun w21 f22 => xvi w21 (fun v23 => E (some (.int v23)) f22))))))))))))))))))) (E (some (.int (-3))) f3))))
theorem b_PC_feed_0 {d : Nat} {E : Option Value → xH → Prop} {f : xH} {a0 : Nat} {x1 : Int32} {x2 : Int32} {x3 : Int32} {x4 : Int32} {x5 : Int32} (h : B_PC_feed_0 d E f a0 x1 x2 x3 x4 x5) : xWp (xT0, xSp xT0 d, none, m_PC_feed, E) 0 [some (.ref a0), some (.int x1), some (.int x2), some (.int x3), some (.int x4), some (.int x5)] [] f 0 0 := by
  unfold B_PC_feed_0 at h
  refine s_aln l_PC_feed_0 rfl ?_
  refine s_gr l_PC_feed_1 h (fun r1 h => ?_)
  refine s_cvi (As := []) (r := []) l_PC_feed_4 rfl ⟨rfl, rfl⟩ rfl (Nat.le_of_ble_eq_true rfl) rfl ⟨Nat.zero_le _, Nat.zero_le _⟩ h (fun v4 f3 h => ?_)
  refine s_bp 20 l_PC_feed_7 rfl ?_
  refine s_iadd l_PC_feed_9 ?_
  refine s_bp 80 l_PC_feed_10 rfl ?_
  refine s_ifc l_PC_feed_12 h (fun h => ?_) (fun h => ?_)
  · refine s_aln l_PC_feed_18 rfl ?_
    refine s_gr l_PC_feed_19 h (fun r5 h => ?_)
    refine s_iln l_PC_feed_22 rfl ?_
    refine s_cvv (As := [.int x1]) (r := []) l_PC_feed_23 rfl ⟨rfl, rfl⟩ rfl (Nat.le_of_ble_eq_true rfl) rfl ⟨Nat.zero_le _, Nat.zero_le _⟩ h (fun f7 h => ?_)
    refine s_aln l_PC_feed_26 rfl ?_
    refine s_gr l_PC_feed_27 h (fun r8 h => ?_)
    refine s_iln l_PC_feed_30 rfl ?_
    refine s_cvv (As := [.int x2]) (r := []) l_PC_feed_31 rfl ⟨rfl, rfl⟩ rfl (Nat.le_of_ble_eq_true rfl) rfl ⟨Nat.zero_le _, Nat.zero_le _⟩ h (fun f10 h => ?_)
    refine s_aln l_PC_feed_34 rfl ?_
    refine s_gr l_PC_feed_35 h (fun r11 h => ?_)
    refine s_iln l_PC_feed_38 rfl ?_
    refine s_cvv (As := [.int x3]) (r := []) l_PC_feed_39 rfl ⟨rfl, rfl⟩ rfl (Nat.le_of_ble_eq_true rfl) rfl ⟨Nat.zero_le _, Nat.zero_le _⟩ h (fun f13 h => ?_)
    refine s_aln l_PC_feed_42 rfl ?_
    refine s_gr l_PC_feed_43 h (fun r14 h => ?_)
    refine s_il l_PC_feed_46 rfl ?_
    refine s_cvv (As := [.int x4]) (r := []) l_PC_feed_48 rfl ⟨rfl, rfl⟩ rfl (Nat.le_of_ble_eq_true rfl) rfl ⟨Nat.zero_le _, Nat.zero_le _⟩ h (fun f16 h => ?_)
    refine s_aln l_PC_feed_51 rfl ?_
    refine s_gr l_PC_feed_52 h (fun r17 h => ?_)
    refine s_il l_PC_feed_55 rfl ?_
    refine s_cvv (As := [.int x5]) (r := []) l_PC_feed_57 rfl ⟨rfl, rfl⟩ rfl (Nat.le_of_ble_eq_true rfl) rfl ⟨Nat.zero_le _, Nat.zero_le _⟩ h (fun f19 h => ?_)
    refine s_aln l_PC_feed_60 rfl ?_
    refine s_gr l_PC_feed_61 h (fun r20 h => ?_)
    refine s_cvi (As := []) (r := []) l_PC_feed_64 rfl ⟨rfl, rfl⟩ rfl (Nat.le_of_ble_eq_true rfl) rfl ⟨Nat.zero_le _, Nat.zero_le _⟩ h (fun v23 f22 h => ?_)
    exact s_iret l_PC_feed_67 rfl ⟨Nat.zero_le _, Nat.zero_le _⟩ h
  · refine s_bp (-3) l_PC_feed_15 rfl ?_
    exact s_iret l_PC_feed_17 rfl ⟨Nat.zero_le _, Nat.zero_le _⟩ h
theorem l_PC_end_0 : xlk (xm_cd m_PC_end) 0 = some (.iload_n 1, 1, (0, 0, 0, [])) := rfl
theorem l_PC_end_1 : xlk (xm_cd m_PC_end) 1 = some (.ifCond .lt 21, 3, (0, 22, 0, [])) := rfl
theorem l_PC_end_4 : xlk (xm_cd m_PC_end) 4 = some (.iload_n 1, 1, (0, 0, 0, [])) := rfl
theorem l_PC_end_5 : xlk (xm_cd m_PC_end) 5 = some (.bipush 20, 2, (0, 0, 0, [])) := rfl
theorem l_PC_end_7 : xlk (xm_cd m_PC_end) 7 = some (.if_icmp .gt 15, 3, (0, 22, 0, [])) := rfl
theorem l_PC_end_10 : xlk (xm_cd m_PC_end) 10 = some (.aload_n 0, 1, (0, 0, 0, [])) := rfl
theorem l_PC_end_11 : xlk (xm_cd m_PC_end) 11 = some (.getfield 14, 3, (261, 0, 0, [])) := rfl
theorem l_PC_end_14 : xlk (xm_cd m_PC_end) 14 = some (.invokevirtual 63, 3, (283, 12, 0, [])) := rfl
theorem l_PC_end_17 : xlk (xm_cd m_PC_end) 17 = some (.bipush 20, 2, (0, 0, 0, [])) := rfl
theorem l_PC_end_19 : xlk (xm_cd m_PC_end) 19 = some (.if_icmp .ge 5, 3, (0, 24, 0, [])) := rfl
theorem l_PC_end_22 : xlk (xm_cd m_PC_end) 22 = some (.iconst (-1), 1, (0, 0, 0, [])) := rfl
theorem l_PC_end_23 : xlk (xm_cd m_PC_end) 23 = some (.ireturn, 1, (0, 0, 0, [])) := rfl
theorem l_PC_end_24 : xlk (xm_cd m_PC_end) 24 = some (.aload_n 0, 1, (0, 0, 0, [])) := rfl
theorem l_PC_end_25 : xlk (xm_cd m_PC_end) 25 = some (.getfield 14, 3, (261, 0, 0, [])) := rfl
theorem l_PC_end_28 : xlk (xm_cd m_PC_end) 28 = some (.aload_n 0, 1, (0, 0, 0, [])) := rfl
theorem l_PC_end_29 : xlk (xm_cd m_PC_end) 29 = some (.getfield 14, 3, (261, 0, 0, [])) := rfl
theorem l_PC_end_32 : xlk (xm_cd m_PC_end) 32 = some (.invokevirtual 63, 3, (283, 12, 0, [])) := rfl
theorem l_PC_end_35 : xlk (xm_cd m_PC_end) 35 = some (.bipush 20, 2, (0, 0, 0, [])) := rfl
theorem l_PC_end_37 : xlk (xm_cd m_PC_end) 37 = some (.isub, 1, (0, 0, 0, [])) := rfl
theorem l_PC_end_38 : xlk (xm_cd m_PC_end) 38 = some (.iload_n 1, 1, (0, 0, 0, [])) := rfl
theorem l_PC_end_39 : xlk (xm_cd m_PC_end) 39 = some (.iadd, 1, (0, 0, 0, [])) := rfl
theorem l_PC_end_40 : xlk (xm_cd m_PC_end) 40 = some (.invokevirtual 70, 3, (299, 16, 1, [])) := rfl
theorem l_PC_end_43 : xlk (xm_cd m_PC_end) 43 = some (.aload_n 0, 1, (0, 0, 0, [])) := rfl
theorem l_PC_end_44 : xlk (xm_cd m_PC_end) 44 = some (.getfield 14, 3, (261, 0, 0, [])) := rfl
theorem l_PC_end_47 : xlk (xm_cd m_PC_end) 47 = some (.invokevirtual 63, 3, (283, 12, 0, [])) := rfl
theorem l_PC_end_50 : xlk (xm_cd m_PC_end) 50 = some (.ireturn, 1, (0, 0, 0, [])) := rfl
def B_PC_end_0 (d : Nat) (E : Option Value → xH → Prop) (f : xH) (a0 : Nat) (x1 : Int32) : Prop :=
  xbr (x1 < 0) (E (some (.int (-1))) f) (xbr ((20 : Int32) < x1) (E (some (.int (-1))) f) (xgr f a0 0 0 (fun r1 => (∃ fs, f r1 = some (xO 1 fs)) ∧ xSp xT0 d j_By_size [.ref r1] f (fun w2 f3 => xvi w2 (fun v4 => xbr ((20 : Int32) ≤ v4) (xgr f3 a0 0 0 (fun r5 => xgr f3 a0 0 0 (fun r6 => (∃ fs, f3 r6 = some (xO 1 fs)) ∧ xSp xT0 d j_By_size [.ref r6] f3 (fun w7 f8 => xvi w7 (fun v9 => (∃ fs, f8 r5 = some (xO 1 fs)) ∧ xSp xT0 d j_By_cutTo [.ref r5, .int ((v9 - 20) + x1)] f8 (fun w10 f11 => xvv w10 (xgr f11 a0 0 0 (fun r12 => (∃ fs, f11 r12 = some (xO 1 fs)) ∧ xSp xT0 d j_By_size [.ref r12] f11 (fun w13 f14 => xvi w13 (fun v15 => E (some (.int v15)) f14)))))))))) (E (some (.int (-1))) f3))))))
theorem b_PC_end_0 {d : Nat} {E : Option Value → xH → Prop} {f : xH} {a0 : Nat} {x1 : Int32} (h : B_PC_end_0 d E f a0 x1) : xWp (xT0, xSp xT0 d, none, m_PC_end, E) 0 [some (.ref a0), some (.int x1)] [] f 0 0 := by
  unfold B_PC_end_0 at h
  refine s_iln l_PC_end_0 rfl ?_
  refine s_if l_PC_end_1 h (fun h => ?_) (fun h => ?_)
  · refine s_ic (-1) l_PC_end_22 rfl ?_
    exact s_iret l_PC_end_23 rfl ⟨Nat.zero_le _, Nat.zero_le _⟩ h
  · refine s_iln l_PC_end_4 rfl ?_
    refine s_bp 20 l_PC_end_5 rfl ?_
    refine s_ifc l_PC_end_7 h (fun h => ?_) (fun h => ?_)
    · refine s_ic (-1) l_PC_end_22 rfl ?_
      exact s_iret l_PC_end_23 rfl ⟨Nat.zero_le _, Nat.zero_le _⟩ h
    · refine s_aln l_PC_end_10 rfl ?_
      refine s_gr l_PC_end_11 h (fun r1 h => ?_)
      refine s_cvi (As := []) (r := []) l_PC_end_14 rfl ⟨rfl, rfl⟩ rfl (Nat.le_of_ble_eq_true rfl) rfl ⟨Nat.zero_le _, Nat.zero_le _⟩ h (fun v4 f3 h => ?_)
      refine s_bp 20 l_PC_end_17 rfl ?_
      refine s_ifc l_PC_end_19 h (fun h => ?_) (fun h => ?_)
      · refine s_aln l_PC_end_24 rfl ?_
        refine s_gr l_PC_end_25 h (fun r5 h => ?_)
        refine s_aln l_PC_end_28 rfl ?_
        refine s_gr l_PC_end_29 h (fun r6 h => ?_)
        refine s_cvi (As := []) (r := [.ref r5]) l_PC_end_32 rfl ⟨rfl, rfl⟩ rfl (Nat.le_of_ble_eq_true rfl) rfl ⟨Nat.zero_le _, Nat.zero_le _⟩ h (fun v9 f8 h => ?_)
        refine s_bp 20 l_PC_end_35 rfl ?_
        refine s_isub l_PC_end_37 ?_
        refine s_iln l_PC_end_38 rfl ?_
        refine s_iadd l_PC_end_39 ?_
        refine s_cvv (As := [.int ((v9 - 20) + x1)]) (r := []) l_PC_end_40 rfl ⟨rfl, rfl⟩ rfl (Nat.le_of_ble_eq_true rfl) rfl ⟨Nat.zero_le _, Nat.zero_le _⟩ h (fun f11 h => ?_)
        refine s_aln l_PC_end_43 rfl ?_
        refine s_gr l_PC_end_44 h (fun r12 h => ?_)
        refine s_cvi (As := []) (r := []) l_PC_end_47 rfl ⟨rfl, rfl⟩ rfl (Nat.le_of_ble_eq_true rfl) rfl ⟨Nat.zero_le _, Nat.zero_le _⟩ h (fun v15 f14 h => ?_)
        exact s_iret l_PC_end_50 rfl ⟨Nat.zero_le _, Nat.zero_le _⟩ h
      · refine s_ic (-1) l_PC_end_22 rfl ?_
        exact s_iret l_PC_end_23 rfl ⟨Nat.zero_le _, Nat.zero_le _⟩ h
theorem l_PC_path_0 : xlk (xm_cd m_PC_path) 0 = some (.aload_n 0, 1, (0, 0, 0, [])) := rfl
theorem l_PC_path_1 : xlk (xm_cd m_PC_path) 1 = some (.getfield 14, 3, (261, 0, 0, [])) := rfl
theorem l_PC_path_4 : xlk (xm_cd m_PC_path) 4 = some (.invokevirtual 73, 3, (307, 18, 0, [])) := rfl
theorem l_PC_path_7 : xlk (xm_cd m_PC_path) 7 = some (.istore_n 1, 1, (0, 0, 0, [])) := rfl
theorem l_PC_path_8 : xlk (xm_cd m_PC_path) 8 = some (.iload_n 1, 1, (0, 0, 0, [])) := rfl
theorem l_PC_path_9 : xlk (xm_cd m_PC_path) 9 = some (.ifCond .le 14, 3, (0, 23, 0, [])) := rfl
theorem l_PC_path_12 : xlk (xm_cd m_PC_path) 12 = some (.aload_n 0, 1, (0, 0, 0, [])) := rfl
theorem l_PC_path_13 : xlk (xm_cd m_PC_path) 13 = some (.getfield 18, 3, (262, 0, 1, [])) := rfl
theorem l_PC_path_16 : xlk (xm_cd m_PC_path) 16 = some (.aload_n 0, 1, (0, 0, 0, [])) := rfl
theorem l_PC_path_17 : xlk (xm_cd m_PC_path) 17 = some (.getfield 14, 3, (261, 0, 0, [])) := rfl
theorem l_PC_path_20 : xlk (xm_cd m_PC_path) 20 = some (.invokevirtual 76, 3, (311, 19, 1, [])) := rfl
theorem l_PC_path_23 : xlk (xm_cd m_PC_path) 23 = some (.aload_n 0, 1, (0, 0, 0, [])) := rfl
theorem l_PC_path_24 : xlk (xm_cd m_PC_path) 24 = some (.getfield 14, 3, (261, 0, 0, [])) := rfl
theorem l_PC_path_27 : xlk (xm_cd m_PC_path) 27 = some (.invokevirtual 80, 3, (318, 20, 0, [])) := rfl
theorem l_PC_path_30 : xlk (xm_cd m_PC_path) 30 = some (.iload_n 1, 1, (0, 0, 0, [])) := rfl
theorem l_PC_path_31 : xlk (xm_cd m_PC_path) 31 = some (.ifCond .le 7, 3, (0, 38, 0, [])) := rfl
theorem l_PC_path_34 : xlk (xm_cd m_PC_path) 34 = some (.iload_n 1, 1, (0, 0, 0, [])) := rfl
theorem l_PC_path_35 : xlk (xm_cd m_PC_path) 35 = some (.goto 4, 3, (0, 39, 0, [])) := rfl
theorem l_PC_path_38 : xlk (xm_cd m_PC_path) 38 = some (.iconst (-1), 1, (0, 0, 0, [])) := rfl
theorem l_PC_path_39 : xlk (xm_cd m_PC_path) 39 = some (.ireturn, 1, (0, 0, 0, [])) := rfl
def B_PC_path_0 (d : Nat) (E : Option Value → xH → Prop) (f : xH) (a0 : Nat) : Prop :=
  xgr f a0 0 0 (fun r1 => (∃ fs, f r1 = some (xO 1 fs)) ∧ xSp xT0 d j_By_names [.ref r1] f (fun w2 f3 => xvi w2 (fun v4 => xbr (v4 ≤ 0) (xWp (xT0, xSp xT0 d, none, m_PC_path, E) 23 [some (.ref a0), some (.int v4)] [] f3 0 0) (xgr f3 a0 0 1 (fun r5 => xgr f3 a0 0 0 (fun r6 => (∃ fs, f3 r5 = some (xO 1 fs)) ∧ xSp xT0 d j_By_copyOf [.ref r5, .ref r6] f3 (fun w7 f8 => xvv w7 (xWp (xT0, xSp xT0 d, none, m_PC_path, E) 23 [some (.ref a0), some (.int v4)] [] f8 0 0))))))))
theorem b_PC_path_0 {d : Nat} {E : Option Value → xH → Prop} {f : xH} {a0 : Nat} (h : B_PC_path_0 d E f a0) : xWp (xT0, xSp xT0 d, none, m_PC_path, E) 0 [some (.ref a0), none] [] f 0 0 := by
  unfold B_PC_path_0 at h
  refine s_aln l_PC_path_0 rfl ?_
  refine s_gr l_PC_path_1 h (fun r1 h => ?_)
  refine s_cvi (As := []) (r := []) l_PC_path_4 rfl ⟨rfl, rfl⟩ rfl (Nat.le_of_ble_eq_true rfl) rfl ⟨Nat.zero_le _, Nat.zero_le _⟩ h (fun v4 f3 h => ?_)
  refine s_isn l_PC_path_7 (Nat.le_of_ble_eq_true rfl) ?_
  refine s_iln l_PC_path_8 rfl ?_
  refine s_if l_PC_path_9 h (fun h => ?_) (fun h => ?_)
  · exact h
  · refine s_aln l_PC_path_12 rfl ?_
    refine s_gr l_PC_path_13 h (fun r5 h => ?_)
    refine s_aln l_PC_path_16 rfl ?_
    refine s_gr l_PC_path_17 h (fun r6 h => ?_)
    refine s_cvv (As := [.ref r6]) (r := []) l_PC_path_20 rfl ⟨rfl, rfl⟩ rfl (Nat.le_of_ble_eq_true rfl) rfl ⟨Nat.zero_le _, Nat.zero_le _⟩ h (fun f8 h => ?_)
    exact h
def B_PC_path_23 (d : Nat) (E : Option Value → xH → Prop) (f : xH) (a0 : Nat) (x1 : Int32) : Prop :=
  xgr f a0 0 0 (fun r1 => (∃ fs, f r1 = some (xO 1 fs)) ∧ xSp xT0 d j_By_empty [.ref r1] f (fun w2 f3 => xvv w2 (xbr (x1 ≤ 0) (E (some (.int (-1))) f3) (E (some (.int x1)) f3))))
theorem b_PC_path_23 {d : Nat} {E : Option Value → xH → Prop} {f : xH} {a0 : Nat} {x1 : Int32} (h : B_PC_path_23 d E f a0 x1) : xWp (xT0, xSp xT0 d, none, m_PC_path, E) 23 [some (.ref a0), some (.int x1)] [] f 0 0 := by
  unfold B_PC_path_23 at h
  refine s_aln l_PC_path_23 rfl ?_
  refine s_gr l_PC_path_24 h (fun r1 h => ?_)
  refine s_cvv (As := []) (r := []) l_PC_path_27 rfl ⟨rfl, rfl⟩ rfl (Nat.le_of_ble_eq_true rfl) rfl ⟨Nat.zero_le _, Nat.zero_le _⟩ h (fun f3 h => ?_)
  refine s_iln l_PC_path_30 rfl ?_
  refine s_if l_PC_path_31 h (fun h => ?_) (fun h => ?_)
  · refine s_ic (-1) l_PC_path_38 rfl ?_
    exact s_iret l_PC_path_39 rfl ⟨Nat.zero_le _, Nat.zero_le _⟩ h
  · refine s_iln l_PC_path_34 rfl ?_
    refine s_goto l_PC_path_35 ?_
    exact s_iret l_PC_path_39 rfl ⟨Nat.zero_le _, Nat.zero_le _⟩ h
theorem l_PC_tree_0 : xlk (xm_cd m_PC_tree) 0 = some (.iload_n 1, 1, (0, 0, 0, [])) := rfl
theorem l_PC_tree_1 : xlk (xm_cd m_PC_tree) 1 = some (.iconst (-1), 1, (0, 0, 0, [])) := rfl
theorem l_PC_tree_2 : xlk (xm_cd m_PC_tree) 2 = some (.if_icmp .eq 13, 3, (0, 15, 0, [])) := rfl
theorem l_PC_tree_5 : xlk (xm_cd m_PC_tree) 5 = some (.aload_n 0, 1, (0, 0, 0, [])) := rfl
theorem l_PC_tree_6 : xlk (xm_cd m_PC_tree) 6 = some (.iload_n 1, 1, (0, 0, 0, [])) := rfl
theorem l_PC_tree_7 : xlk (xm_cd m_PC_tree) 7 = some (.invokevirtual 83, 3, (326, 22, 1, [])) := rfl
theorem l_PC_tree_10 : xlk (xm_cd m_PC_tree) 10 = some (.ifCond .ne 5, 3, (0, 15, 0, [])) := rfl
theorem l_PC_tree_13 : xlk (xm_cd m_PC_tree) 13 = some (.iconst (-1), 1, (0, 0, 0, [])) := rfl
theorem l_PC_tree_14 : xlk (xm_cd m_PC_tree) 14 = some (.ireturn, 1, (0, 0, 0, [])) := rfl
theorem l_PC_tree_15 : xlk (xm_cd m_PC_tree) 15 = some (.aload_n 0, 1, (0, 0, 0, [])) := rfl
theorem l_PC_tree_16 : xlk (xm_cd m_PC_tree) 16 = some (.getfield 56, 3, (268, 0, 7, [])) := rfl
theorem l_PC_tree_19 : xlk (xm_cd m_PC_tree) 19 = some (.bipush 12, 2, (0, 0, 0, [])) := rfl
theorem l_PC_tree_21 : xlk (xm_cd m_PC_tree) 21 = some (.if_icmp .lt 6, 3, (0, 27, 0, [])) := rfl
theorem l_PC_tree_24 : xlk (xm_cd m_PC_tree) 24 = some (.bipush (-3), 2, (0, 0, 0, [])) := rfl
theorem l_PC_tree_26 : xlk (xm_cd m_PC_tree) 26 = some (.ireturn, 1, (0, 0, 0, [])) := rfl
theorem l_PC_tree_27 : xlk (xm_cd m_PC_tree) 27 = some (.iload_n 1, 1, (0, 0, 0, [])) := rfl
theorem l_PC_tree_28 : xlk (xm_cd m_PC_tree) 28 = some (.ifCond .ge 18, 3, (0, 46, 0, [])) := rfl
theorem l_PC_tree_31 : xlk (xm_cd m_PC_tree) 31 = some (.aload_n 0, 1, (0, 0, 0, [])) := rfl
theorem l_PC_tree_32 : xlk (xm_cd m_PC_tree) 32 = some (.getfield 23, 3, (263, 0, 2, [])) := rfl
theorem l_PC_tree_35 : xlk (xm_cd m_PC_tree) 35 = some (.aload_n 0, 1, (0, 0, 0, [])) := rfl
theorem l_PC_tree_36 : xlk (xm_cd m_PC_tree) 36 = some (.getfield 56, 3, (268, 0, 7, [])) := rfl
theorem l_PC_tree_39 : xlk (xm_cd m_PC_tree) 39 = some (.aaload, 1, (0, 4, 0, [])) := rfl
theorem l_PC_tree_40 : xlk (xm_cd m_PC_tree) 40 = some (.invokevirtual 87, 3, (329, 23, 0, [])) := rfl
theorem l_PC_tree_43 : xlk (xm_cd m_PC_tree) 43 = some (.goto 21, 3, (0, 64, 0, [])) := rfl
theorem l_PC_tree_46 : xlk (xm_cd m_PC_tree) 46 = some (.aload_n 0, 1, (0, 0, 0, [])) := rfl
theorem l_PC_tree_47 : xlk (xm_cd m_PC_tree) 47 = some (.getfield 23, 3, (263, 0, 2, [])) := rfl
theorem l_PC_tree_50 : xlk (xm_cd m_PC_tree) 50 = some (.aload_n 0, 1, (0, 0, 0, [])) := rfl
theorem l_PC_tree_51 : xlk (xm_cd m_PC_tree) 51 = some (.getfield 56, 3, (268, 0, 7, [])) := rfl
theorem l_PC_tree_54 : xlk (xm_cd m_PC_tree) 54 = some (.aaload, 1, (0, 4, 0, [])) := rfl
theorem l_PC_tree_55 : xlk (xm_cd m_PC_tree) 55 = some (.aload_n 0, 1, (0, 0, 0, [])) := rfl
theorem l_PC_tree_56 : xlk (xm_cd m_PC_tree) 56 = some (.getfield 23, 3, (263, 0, 2, [])) := rfl
theorem l_PC_tree_59 : xlk (xm_cd m_PC_tree) 59 = some (.iload_n 1, 1, (0, 0, 0, [])) := rfl
theorem l_PC_tree_60 : xlk (xm_cd m_PC_tree) 60 = some (.aaload, 1, (0, 4, 0, [])) := rfl
theorem l_PC_tree_61 : xlk (xm_cd m_PC_tree) 61 = some (.invokevirtual 88, 3, (333, 24, 1, [])) := rfl
theorem l_PC_tree_64 : xlk (xm_cd m_PC_tree) 64 = some (.aload_n 0, 1, (0, 0, 0, [])) := rfl
theorem l_PC_tree_65 : xlk (xm_cd m_PC_tree) 65 = some (.invokevirtual 91, 3, (338, 25, 0, [])) := rfl
theorem l_PC_tree_68 : xlk (xm_cd m_PC_tree) 68 = some (.ireturn, 1, (0, 0, 0, [])) := rfl
def B_PC_tree_0 (d : Nat) (E : Option Value → xH → Prop) (f : xH) (a0 : Nat) (x1 : Int32) : Prop :=
  xbr (x1 = (-1)) (xWp (xT0, xSp xT0 d, none, m_PC_tree, E) 15 [some (.ref a0), some (.int x1)] [] f 0 0) ((∃ fs, f a0 = some (xO 0 fs)) ∧ xSp xT0 d j_PC_isTree [.ref a0, .int x1] f (fun w1 f2 => xvi w1 (fun v3 => xbr (¬ v3 = 0) (xWp (xT0, xSp xT0 d, none, m_PC_tree, E) 15 [some (.ref a0), some (.int x1)] [] f2 0 0) (E (some (.int (-1))) f2))))
theorem b_PC_tree_0 {d : Nat} {E : Option Value → xH → Prop} {f : xH} {a0 : Nat} {x1 : Int32} (h : B_PC_tree_0 d E f a0 x1) : xWp (xT0, xSp xT0 d, none, m_PC_tree, E) 0 [some (.ref a0), some (.int x1)] [] f 0 0 := by
  unfold B_PC_tree_0 at h
  refine s_iln l_PC_tree_0 rfl ?_
  refine s_ic (-1) l_PC_tree_1 rfl ?_
  refine s_ifc l_PC_tree_2 h (fun h => ?_) (fun h => ?_)
  · exact h
  · refine s_aln l_PC_tree_5 rfl ?_
    refine s_iln l_PC_tree_6 rfl ?_
    refine s_cvi (As := [.int x1]) (r := []) l_PC_tree_7 rfl ⟨rfl, rfl⟩ rfl (Nat.le_of_ble_eq_true rfl) rfl ⟨Nat.zero_le _, Nat.zero_le _⟩ h (fun v3 f2 h => ?_)
    refine s_if l_PC_tree_10 h (fun h => ?_) (fun h => ?_)
    · exact h
    · refine s_ic (-1) l_PC_tree_13 rfl ?_
      exact s_iret l_PC_tree_14 rfl ⟨Nat.zero_le _, Nat.zero_le _⟩ h
def B_PC_tree_15 (d : Nat) (E : Option Value → xH → Prop) (f : xH) (a0 : Nat) (x1 : Int32) : Prop :=
  xgi f a0 0 7 (fun v1 => xbr (v1 < 12) (xbr ((0 : Int32) ≤ x1) (xgr f a0 0 2 (fun r2 => xgi f a0 0 7 (fun v3 => xrl f r2 4 v3 (fun r4 => xgr f a0 0 2 (fun r5 => xrl f r5 4 x1 (fun r6 => (∃ fs, f r4 = some (xO 2 fs)) ∧ xSp xT0 d j_Tr_copyOf [.ref r4, .ref r6] f (fun w7 f8 => xvv w7 ((∃ fs, f8 a0 = some (xO 0 fs)) ∧ xSp xT0 d j_PC_keepTree [.ref a0] f8 (fun w9 f10 => xvi w9 (fun v11 => E (some (.int v11)) f10)))))))))) (xgr f a0 0 2 (fun r12 => xgi f a0 0 7 (fun v13 => xrl f r12 4 v13 (fun r14 => (∃ fs, f r14 = some (xO 2 fs)) ∧ xSp xT0 d j_Tr_empty [.ref r14] f (fun w15 f16 => xvv w15 ((∃ fs, f16 a0 = some (xO 0 fs)) ∧ xSp xT0 d j_PC_keepTree [.ref a0] f16 (fun w17 f18 => xvi w17 (fun v19 => E (some (.int v19)) f18))))))))) (E (some (.int (-3))) f))
theorem b_PC_tree_15 {d : Nat} {E : Option Value → xH → Prop} {f : xH} {a0 : Nat} {x1 : Int32} (h : B_PC_tree_15 d E f a0 x1) : xWp (xT0, xSp xT0 d, none, m_PC_tree, E) 15 [some (.ref a0), some (.int x1)] [] f 0 0 := by
  unfold B_PC_tree_15 at h
  refine s_aln l_PC_tree_15 rfl ?_
  refine s_gi l_PC_tree_16 h (fun v1 h => ?_)
  refine s_bp 12 l_PC_tree_19 rfl ?_
  refine s_ifc l_PC_tree_21 h (fun h => ?_) (fun h => ?_)
  · refine s_iln l_PC_tree_27 rfl ?_
    refine s_if l_PC_tree_28 h (fun h => ?_) (fun h => ?_)
    · refine s_aln l_PC_tree_46 rfl ?_
      refine s_gr l_PC_tree_47 h (fun r2 h => ?_)
      refine s_aln l_PC_tree_50 rfl ?_
      refine s_gi l_PC_tree_51 h (fun v3 h => ?_)
      refine s_aal l_PC_tree_54 h (fun r4 h => ?_)
      refine s_aln l_PC_tree_55 rfl ?_
      refine s_gr l_PC_tree_56 h (fun r5 h => ?_)
      refine s_iln l_PC_tree_59 rfl ?_
      refine s_aal l_PC_tree_60 h (fun r6 h => ?_)
      refine s_cvv (As := [.ref r6]) (r := []) l_PC_tree_61 rfl ⟨rfl, rfl⟩ rfl (Nat.le_of_ble_eq_true rfl) rfl ⟨Nat.zero_le _, Nat.zero_le _⟩ h (fun f8 h => ?_)
      refine s_aln l_PC_tree_64 rfl ?_
      refine s_cvi (As := []) (r := []) l_PC_tree_65 rfl ⟨rfl, rfl⟩ rfl (Nat.le_of_ble_eq_true rfl) rfl ⟨Nat.zero_le _, Nat.zero_le _⟩ h (fun v11 f10 h => ?_)
      exact s_iret l_PC_tree_68 rfl ⟨Nat.zero_le _, Nat.zero_le _⟩ h
    · refine s_aln l_PC_tree_31 rfl ?_
      refine s_gr l_PC_tree_32 h (fun r12 h => ?_)
      refine s_aln l_PC_tree_35 rfl ?_
      refine s_gi l_PC_tree_36 h (fun v13 h => ?_)
      refine s_aal l_PC_tree_39 h (fun r14 h => ?_)
      refine s_cvv (As := []) (r := []) l_PC_tree_40 rfl ⟨rfl, rfl⟩ rfl (Nat.le_of_ble_eq_true rfl) rfl ⟨Nat.zero_le _, Nat.zero_le _⟩ h (fun f16 h => ?_)
      refine s_goto l_PC_tree_43 ?_
      refine s_aln l_PC_tree_64 rfl ?_
      refine s_cvi (As := []) (r := []) l_PC_tree_65 rfl ⟨rfl, rfl⟩ rfl (Nat.le_of_ble_eq_true rfl) rfl ⟨Nat.zero_le _, Nat.zero_le _⟩ h (fun v19 f18 h => ?_)
      exact s_iret l_PC_tree_68 rfl ⟨Nat.zero_le _, Nat.zero_le _⟩ h
  · refine s_bp (-3) l_PC_tree_24 rfl ?_
    exact s_iret l_PC_tree_26 rfl ⟨Nat.zero_le _, Nat.zero_le _⟩ h
theorem l_PC_isTree_0 : xlk (xm_cd m_PC_isTree) 0 = some (.iload_n 1, 1, (0, 0, 0, [])) := rfl
theorem l_PC_isTree_1 : xlk (xm_cd m_PC_isTree) 1 = some (.ifCond .lt 15, 3, (0, 16, 0, [])) := rfl
theorem l_PC_isTree_4 : xlk (xm_cd m_PC_isTree) 4 = some (.iload_n 1, 1, (0, 0, 0, [])) := rfl
theorem l_PC_isTree_5 : xlk (xm_cd m_PC_isTree) 5 = some (.aload_n 0, 1, (0, 0, 0, [])) := rfl
theorem l_PC_isTree_6 : xlk (xm_cd m_PC_isTree) 6 = some (.getfield 56, 3, (268, 0, 7, [])) := rfl
theorem l_PC_isTree_9 : xlk (xm_cd m_PC_isTree) 9 = some (.if_icmp .ge 7, 3, (0, 16, 0, [])) := rfl
theorem l_PC_isTree_12 : xlk (xm_cd m_PC_isTree) 12 = some (.iconst 1, 1, (0, 0, 0, [])) := rfl
theorem l_PC_isTree_13 : xlk (xm_cd m_PC_isTree) 13 = some (.goto 4, 3, (0, 17, 0, [])) := rfl
theorem l_PC_isTree_16 : xlk (xm_cd m_PC_isTree) 16 = some (.iconst 0, 1, (0, 0, 0, [])) := rfl
theorem l_PC_isTree_17 : xlk (xm_cd m_PC_isTree) 17 = some (.ireturn, 1, (0, 0, 0, [])) := rfl
def B_PC_isTree_0 (d : Nat) (E : Option Value → xH → Prop) (f : xH) (a0 : Nat) (x1 : Int32) : Prop :=
  xbr (x1 < 0) (E (some (.int 0)) f) (xgi f a0 0 7 (fun v1 => xbr (v1 ≤ x1) (E (some (.int 0)) f) (E (some (.int 1)) f)))
theorem b_PC_isTree_0 {d : Nat} {E : Option Value → xH → Prop} {f : xH} {a0 : Nat} {x1 : Int32} (h : B_PC_isTree_0 d E f a0 x1) : xWp (xT0, xSp xT0 d, none, m_PC_isTree, E) 0 [some (.ref a0), some (.int x1)] [] f 0 0 := by
  unfold B_PC_isTree_0 at h
  refine s_iln l_PC_isTree_0 rfl ?_
  refine s_if l_PC_isTree_1 h (fun h => ?_) (fun h => ?_)
  · refine s_ic 0 l_PC_isTree_16 rfl ?_
    exact s_zret l_PC_isTree_17 rfl ⟨Nat.zero_le _, Nat.zero_le _⟩ ⟨Or.inl rfl, h⟩
  · refine s_iln l_PC_isTree_4 rfl ?_
    refine s_aln l_PC_isTree_5 rfl ?_
    refine s_gi l_PC_isTree_6 h (fun v1 h => ?_)
    refine s_ifc l_PC_isTree_9 h (fun h => ?_) (fun h => ?_)
    · refine s_ic 0 l_PC_isTree_16 rfl ?_
      exact s_zret l_PC_isTree_17 rfl ⟨Nat.zero_le _, Nat.zero_le _⟩ ⟨Or.inl rfl, h⟩
    · refine s_ic 1 l_PC_isTree_12 rfl ?_
      refine s_goto l_PC_isTree_13 ?_
      exact s_zret l_PC_isTree_17 rfl ⟨Nat.zero_le _, Nat.zero_le _⟩ ⟨Or.inr rfl, h⟩
theorem l_PC_keepTree_0 : xlk (xm_cd m_PC_keepTree) 0 = some (.aload_n 0, 1, (0, 0, 0, [])) := rfl
theorem l_PC_keepTree_1 : xlk (xm_cd m_PC_keepTree) 1 = some (.dup, 1, (0, 0, 0, [])) := rfl
theorem l_PC_keepTree_2 : xlk (xm_cd m_PC_keepTree) 2 = some (.getfield 56, 3, (268, 0, 7, [])) := rfl
theorem l_PC_keepTree_5 : xlk (xm_cd m_PC_keepTree) 5 = some (.iconst 1, 1, (0, 0, 0, [])) := rfl
theorem l_PC_keepTree_6 : xlk (xm_cd m_PC_keepTree) 6 = some (.iadd, 1, (0, 0, 0, [])) := rfl
theorem l_PC_keepTree_7 : xlk (xm_cd m_PC_keepTree) 7 = some (.putfield 56, 3, (268, 0, 7, [(0, 0)])) := rfl
theorem l_PC_keepTree_10 : xlk (xm_cd m_PC_keepTree) 10 = some (.aload_n 0, 1, (0, 0, 0, [])) := rfl
theorem l_PC_keepTree_11 : xlk (xm_cd m_PC_keepTree) 11 = some (.getfield 56, 3, (268, 0, 7, [])) := rfl
theorem l_PC_keepTree_14 : xlk (xm_cd m_PC_keepTree) 14 = some (.iconst 1, 1, (0, 0, 0, [])) := rfl
theorem l_PC_keepTree_15 : xlk (xm_cd m_PC_keepTree) 15 = some (.isub, 1, (0, 0, 0, [])) := rfl
theorem l_PC_keepTree_16 : xlk (xm_cd m_PC_keepTree) 16 = some (.ireturn, 1, (0, 0, 0, [])) := rfl
def B_PC_keepTree_0 (d : Nat) (E : Option Value → xH → Prop) (f : xH) (a0 : Nat) : Prop :=
  xgi f a0 0 7 (fun v1 => xpf f a0 0 7 (.int (v1 + 1)) (fun f2 => xgi f2 a0 0 7 (fun v3 => E (some (.int (v3 - 1))) f2)))
theorem b_PC_keepTree_0 {d : Nat} {E : Option Value → xH → Prop} {f : xH} {a0 : Nat} (h : B_PC_keepTree_0 d E f a0) : xWp (xT0, xSp xT0 d, none, m_PC_keepTree, E) 0 [some (.ref a0)] [] f 0 0 := by
  unfold B_PC_keepTree_0 at h
  refine s_aln l_PC_keepTree_0 rfl ?_
  refine s_dup l_PC_keepTree_1 rfl ?_
  refine s_gi l_PC_keepTree_2 h (fun v1 h => ?_)
  refine s_ic 1 l_PC_keepTree_5 rfl ?_
  refine s_iadd l_PC_keepTree_6 ?_
  refine s_pf l_PC_keepTree_7 ⟨_, rfl⟩ h (fun f2 h => ?_)
  refine s_aln l_PC_keepTree_10 rfl ?_
  refine s_gi l_PC_keepTree_11 h (fun v3 h => ?_)
  refine s_ic 1 l_PC_keepTree_14 rfl ?_
  refine s_isub l_PC_keepTree_15 ?_
  exact s_iret l_PC_keepTree_16 rfl ⟨Nat.zero_le _, Nat.zero_le _⟩ h
theorem l_PC_put_0 : xlk (xm_cd m_PC_put) 0 = some (.aload_n 0, 1, (0, 0, 0, [])) := rfl
theorem l_PC_put_1 : xlk (xm_cd m_PC_put) 1 = some (.iload_n 1, 1, (0, 0, 0, [])) := rfl
theorem l_PC_put_2 : xlk (xm_cd m_PC_put) 2 = some (.invokevirtual 83, 3, (326, 22, 1, [])) := rfl
theorem l_PC_put_5 : xlk (xm_cd m_PC_put) 5 = some (.ifCond .eq 25, 3, (0, 30, 0, [])) := rfl
theorem l_PC_put_8 : xlk (xm_cd m_PC_put) 8 = some (.aload_n 0, 1, (0, 0, 0, [])) := rfl
theorem l_PC_put_9 : xlk (xm_cd m_PC_put) 9 = some (.getfield 18, 3, (262, 0, 1, [])) := rfl
theorem l_PC_put_12 : xlk (xm_cd m_PC_put) 12 = some (.invokevirtual 63, 3, (283, 12, 0, [])) := rfl
theorem l_PC_put_15 : xlk (xm_cd m_PC_put) 15 = some (.ifCond .eq 15, 3, (0, 30, 0, [])) := rfl
theorem l_PC_put_18 : xlk (xm_cd m_PC_put) 18 = some (.aload_n 0, 1, (0, 0, 0, [])) := rfl
theorem l_PC_put_19 : xlk (xm_cd m_PC_put) 19 = some (.getfield 14, 3, (261, 0, 0, [])) := rfl
theorem l_PC_put_22 : xlk (xm_cd m_PC_put) 22 = some (.invokevirtual 63, 3, (283, 12, 0, [])) := rfl
theorem l_PC_put_25 : xlk (xm_cd m_PC_put) 25 = some (.bipush 48, 2, (0, 0, 0, [])) := rfl
theorem l_PC_put_27 : xlk (xm_cd m_PC_put) 27 = some (.if_icmp .le 5, 3, (0, 32, 0, [])) := rfl
theorem l_PC_put_30 : xlk (xm_cd m_PC_put) 30 = some (.iconst (-1), 1, (0, 0, 0, [])) := rfl
theorem l_PC_put_31 : xlk (xm_cd m_PC_put) 31 = some (.ireturn, 1, (0, 0, 0, [])) := rfl
theorem l_PC_put_32 : xlk (xm_cd m_PC_put) 32 = some (.aload_n 0, 1, (0, 0, 0, [])) := rfl
theorem l_PC_put_33 : xlk (xm_cd m_PC_put) 33 = some (.getfield 23, 3, (263, 0, 2, [])) := rfl
theorem l_PC_put_36 : xlk (xm_cd m_PC_put) 36 = some (.iload_n 1, 1, (0, 0, 0, [])) := rfl
theorem l_PC_put_37 : xlk (xm_cd m_PC_put) 37 = some (.aaload, 1, (0, 4, 0, [])) := rfl
theorem l_PC_put_38 : xlk (xm_cd m_PC_put) 38 = some (.aload_n 0, 1, (0, 0, 0, [])) := rfl
theorem l_PC_put_39 : xlk (xm_cd m_PC_put) 39 = some (.getfield 18, 3, (262, 0, 1, [])) := rfl
theorem l_PC_put_42 : xlk (xm_cd m_PC_put) 42 = some (.aload_n 0, 1, (0, 0, 0, [])) := rfl
theorem l_PC_put_43 : xlk (xm_cd m_PC_put) 43 = some (.getfield 14, 3, (261, 0, 0, [])) := rfl
theorem l_PC_put_46 : xlk (xm_cd m_PC_put) 46 = some (.invokevirtual 94, 3, (345, 27, 2, [])) := rfl
theorem l_PC_put_49 : xlk (xm_cd m_PC_put) 49 = some (.istore_n 2, 1, (0, 0, 0, [])) := rfl
theorem l_PC_put_50 : xlk (xm_cd m_PC_put) 50 = some (.iload_n 2, 1, (0, 0, 0, [])) := rfl
theorem l_PC_put_51 : xlk (xm_cd m_PC_put) 51 = some (.ifCond .lt 10, 3, (0, 61, 0, [])) := rfl
theorem l_PC_put_54 : xlk (xm_cd m_PC_put) 54 = some (.aload_n 0, 1, (0, 0, 0, [])) := rfl
theorem l_PC_put_55 : xlk (xm_cd m_PC_put) 55 = some (.getfield 14, 3, (261, 0, 0, [])) := rfl
theorem l_PC_put_58 : xlk (xm_cd m_PC_put) 58 = some (.invokevirtual 80, 3, (318, 20, 0, [])) := rfl
theorem l_PC_put_61 : xlk (xm_cd m_PC_put) 61 = some (.iload_n 2, 1, (0, 0, 0, [])) := rfl
theorem l_PC_put_62 : xlk (xm_cd m_PC_put) 62 = some (.ireturn, 1, (0, 0, 0, [])) := rfl
def B_PC_put_0 (d : Nat) (E : Option Value → xH → Prop) (f : xH) (a0 : Nat) (x1 : Int32) : Prop :=
  (∃ fs, f a0 = some (xO 0 fs)) ∧ xSp xT0 d j_PC_isTree [.ref a0, .int x1] f (fun w1 f2 => xvi w1 (fun v3 => xbr (v3 = 0) (E (some (.int (-1))) f2) (xgr f2 a0 0 1 (fun r4 => (∃ fs, f2 r4 = some (xO 1 fs)) ∧ xSp xT0 d j_By_size [.ref r4] f2 (fun w5 f6 => xvi w5 (fun v7 => xbr (v7 = 0) (E (some (.int (-1))) f6) (xgr f6 a0 0 0 (fun r8 => (∃ fs, f6 r8 = some (xO 1 fs)) ∧ xSp xT0 d j_By_size [.ref r8] f6 (fun w9 f10 => xvi w9 (fun v11 => xbr (v11 ≤ 48) (xgr f10 a0 0 2 (fun r12 => xrl f10 r12 4 x1 (fun r13 => xgr f10 a0 0 1 (fun r14 => xgr f10 a0 0 0 (fun r15 => (∃ fs, f10 r13 = some (xO 2 fs)) ∧ xSp xT0 d j_Tr_take [.ref r13, .ref r14, .ref r15] f10 (fun w16 f17 => xvi w16 (fun v18 => xbr (v18 < 0) (E (some (.int v18)) f17) (xgr f17 a0 0 0 (fun r19 => (∃ fs, f17 r19 = some (xO 1 fs)) ∧ xSp xT0 d j_By_empty [.ref r19] f17 (fun w20 f21 => xvv w20 (E (some (.int v18)) f21))))))))))) (E (some (.int (-1))) f10)))))))))))
theorem b_PC_put_0 {d : Nat} {E : Option Value → xH → Prop} {f : xH} {a0 : Nat} {x1 : Int32} (h : B_PC_put_0 d E f a0 x1) : xWp (xT0, xSp xT0 d, none, m_PC_put, E) 0 [some (.ref a0), some (.int x1), none] [] f 0 0 := by
  unfold B_PC_put_0 at h
  refine s_aln l_PC_put_0 rfl ?_
  refine s_iln l_PC_put_1 rfl ?_
  refine s_cvi (As := [.int x1]) (r := []) l_PC_put_2 rfl ⟨rfl, rfl⟩ rfl (Nat.le_of_ble_eq_true rfl) rfl ⟨Nat.zero_le _, Nat.zero_le _⟩ h (fun v3 f2 h => ?_)
  refine s_if l_PC_put_5 h (fun h => ?_) (fun h => ?_)
  · refine s_ic (-1) l_PC_put_30 rfl ?_
    exact s_iret l_PC_put_31 rfl ⟨Nat.zero_le _, Nat.zero_le _⟩ h
  · refine s_aln l_PC_put_8 rfl ?_
    refine s_gr l_PC_put_9 h (fun r4 h => ?_)
    refine s_cvi (As := []) (r := []) l_PC_put_12 rfl ⟨rfl, rfl⟩ rfl (Nat.le_of_ble_eq_true rfl) rfl ⟨Nat.zero_le _, Nat.zero_le _⟩ h (fun v7 f6 h => ?_)
    refine s_if l_PC_put_15 h (fun h => ?_) (fun h => ?_)
    · refine s_ic (-1) l_PC_put_30 rfl ?_
      exact s_iret l_PC_put_31 rfl ⟨Nat.zero_le _, Nat.zero_le _⟩ h
    · refine s_aln l_PC_put_18 rfl ?_
      refine s_gr l_PC_put_19 h (fun r8 h => ?_)
      refine s_cvi (As := []) (r := []) l_PC_put_22 rfl ⟨rfl, rfl⟩ rfl (Nat.le_of_ble_eq_true rfl) rfl ⟨Nat.zero_le _, Nat.zero_le _⟩ h (fun v11 f10 h => ?_)
      refine s_bp 48 l_PC_put_25 rfl ?_
      refine s_ifc l_PC_put_27 h (fun h => ?_) (fun h => ?_)
      · refine s_aln l_PC_put_32 rfl ?_
        refine s_gr l_PC_put_33 h (fun r12 h => ?_)
        refine s_iln l_PC_put_36 rfl ?_
        refine s_aal l_PC_put_37 h (fun r13 h => ?_)
        refine s_aln l_PC_put_38 rfl ?_
        refine s_gr l_PC_put_39 h (fun r14 h => ?_)
        refine s_aln l_PC_put_42 rfl ?_
        refine s_gr l_PC_put_43 h (fun r15 h => ?_)
        refine s_cvi (As := [.ref r14, .ref r15]) (r := []) l_PC_put_46 rfl ⟨rfl, rfl⟩ rfl (Nat.le_of_ble_eq_true rfl) rfl ⟨Nat.zero_le _, Nat.zero_le _⟩ h (fun v18 f17 h => ?_)
        refine s_isn l_PC_put_49 (Nat.le_of_ble_eq_true rfl) ?_
        refine s_iln l_PC_put_50 rfl ?_
        refine s_if l_PC_put_51 h (fun h => ?_) (fun h => ?_)
        · refine s_iln l_PC_put_61 rfl ?_
          exact s_iret l_PC_put_62 rfl ⟨Nat.zero_le _, Nat.zero_le _⟩ h
        · refine s_aln l_PC_put_54 rfl ?_
          refine s_gr l_PC_put_55 h (fun r19 h => ?_)
          refine s_cvv (As := []) (r := []) l_PC_put_58 rfl ⟨rfl, rfl⟩ rfl (Nat.le_of_ble_eq_true rfl) rfl ⟨Nat.zero_le _, Nat.zero_le _⟩ h (fun f21 h => ?_)
          refine s_iln l_PC_put_61 rfl ?_
          exact s_iret l_PC_put_62 rfl ⟨Nat.zero_le _, Nat.zero_le _⟩ h
      · refine s_ic (-1) l_PC_put_30 rfl ?_
        exact s_iret l_PC_put_31 rfl ⟨Nat.zero_le _, Nat.zero_le _⟩ h
theorem l_PC_drop_0 : xlk (xm_cd m_PC_drop) 0 = some (.aload_n 0, 1, (0, 0, 0, [])) := rfl
theorem l_PC_drop_1 : xlk (xm_cd m_PC_drop) 1 = some (.iload_n 1, 1, (0, 0, 0, [])) := rfl
theorem l_PC_drop_2 : xlk (xm_cd m_PC_drop) 2 = some (.invokevirtual 83, 3, (326, 22, 1, [])) := rfl
theorem l_PC_drop_5 : xlk (xm_cd m_PC_drop) 5 = some (.ifCond .eq 13, 3, (0, 18, 0, [])) := rfl
theorem l_PC_drop_8 : xlk (xm_cd m_PC_drop) 8 = some (.aload_n 0, 1, (0, 0, 0, [])) := rfl
theorem l_PC_drop_9 : xlk (xm_cd m_PC_drop) 9 = some (.getfield 18, 3, (262, 0, 1, [])) := rfl
theorem l_PC_drop_12 : xlk (xm_cd m_PC_drop) 12 = some (.invokevirtual 63, 3, (283, 12, 0, [])) := rfl
theorem l_PC_drop_15 : xlk (xm_cd m_PC_drop) 15 = some (.ifCond .ne 5, 3, (0, 20, 0, [])) := rfl
theorem l_PC_drop_18 : xlk (xm_cd m_PC_drop) 18 = some (.iconst (-1), 1, (0, 0, 0, [])) := rfl
theorem l_PC_drop_19 : xlk (xm_cd m_PC_drop) 19 = some (.ireturn, 1, (0, 0, 0, [])) := rfl
theorem l_PC_drop_20 : xlk (xm_cd m_PC_drop) 20 = some (.aload_n 0, 1, (0, 0, 0, [])) := rfl
theorem l_PC_drop_21 : xlk (xm_cd m_PC_drop) 21 = some (.getfield 23, 3, (263, 0, 2, [])) := rfl
theorem l_PC_drop_24 : xlk (xm_cd m_PC_drop) 24 = some (.iload_n 1, 1, (0, 0, 0, [])) := rfl
theorem l_PC_drop_25 : xlk (xm_cd m_PC_drop) 25 = some (.aaload, 1, (0, 4, 0, [])) := rfl
theorem l_PC_drop_26 : xlk (xm_cd m_PC_drop) 26 = some (.aload_n 0, 1, (0, 0, 0, [])) := rfl
theorem l_PC_drop_27 : xlk (xm_cd m_PC_drop) 27 = some (.getfield 18, 3, (262, 0, 1, [])) := rfl
theorem l_PC_drop_30 : xlk (xm_cd m_PC_drop) 30 = some (.invokevirtual 98, 3, (376, 28, 1, [])) := rfl
theorem l_PC_drop_33 : xlk (xm_cd m_PC_drop) 33 = some (.istore_n 2, 1, (0, 0, 0, [])) := rfl
theorem l_PC_drop_34 : xlk (xm_cd m_PC_drop) 34 = some (.iload_n 2, 1, (0, 0, 0, [])) := rfl
theorem l_PC_drop_35 : xlk (xm_cd m_PC_drop) 35 = some (.iconst (-1), 1, (0, 0, 0, [])) := rfl
theorem l_PC_drop_36 : xlk (xm_cd m_PC_drop) 36 = some (.if_icmp .ne 5, 3, (0, 41, 0, [])) := rfl
theorem l_PC_drop_39 : xlk (xm_cd m_PC_drop) 39 = some (.iconst (-1), 1, (0, 0, 0, [])) := rfl
theorem l_PC_drop_40 : xlk (xm_cd m_PC_drop) 40 = some (.ireturn, 1, (0, 0, 0, [])) := rfl
theorem l_PC_drop_41 : xlk (xm_cd m_PC_drop) 41 = some (.aload_n 0, 1, (0, 0, 0, [])) := rfl
theorem l_PC_drop_42 : xlk (xm_cd m_PC_drop) 42 = some (.getfield 23, 3, (263, 0, 2, [])) := rfl
theorem l_PC_drop_45 : xlk (xm_cd m_PC_drop) 45 = some (.iload_n 1, 1, (0, 0, 0, [])) := rfl
theorem l_PC_drop_46 : xlk (xm_cd m_PC_drop) 46 = some (.aaload, 1, (0, 4, 0, [])) := rfl
theorem l_PC_drop_47 : xlk (xm_cd m_PC_drop) 47 = some (.iload_n 2, 1, (0, 0, 0, [])) := rfl
theorem l_PC_drop_48 : xlk (xm_cd m_PC_drop) 48 = some (.invokevirtual 102, 3, (377, 35, 1, [])) := rfl
theorem l_PC_drop_51 : xlk (xm_cd m_PC_drop) 51 = some (.aload_n 0, 1, (0, 0, 0, [])) := rfl
theorem l_PC_drop_52 : xlk (xm_cd m_PC_drop) 52 = some (.getfield 23, 3, (263, 0, 2, [])) := rfl
theorem l_PC_drop_55 : xlk (xm_cd m_PC_drop) 55 = some (.iload_n 1, 1, (0, 0, 0, [])) := rfl
theorem l_PC_drop_56 : xlk (xm_cd m_PC_drop) 56 = some (.aaload, 1, (0, 4, 0, [])) := rfl
theorem l_PC_drop_57 : xlk (xm_cd m_PC_drop) 57 = some (.invokevirtual 105, 3, (385, 37, 0, [])) := rfl
theorem l_PC_drop_60 : xlk (xm_cd m_PC_drop) 60 = some (.ireturn, 1, (0, 0, 0, [])) := rfl
def B_PC_drop_0 (d : Nat) (E : Option Value → xH → Prop) (f : xH) (a0 : Nat) (x1 : Int32) : Prop :=
  (∃ fs, f a0 = some (xO 0 fs)) ∧ xSp xT0 d j_PC_isTree [.ref a0, .int x1] f (fun w1 f2 => xvi w1 (fun v3 => xbr (v3 = 0) (E (some (.int (-1))) f2) (xgr f2 a0 0 1 (fun r4 => (∃ fs, f2 r4 = some (xO 1 fs)) ∧ xSp xT0 d j_By_size [.ref r4] f2 (fun w5 f6 => xvi w5 (fun v7 => xbr (¬ v7 = 0) (xgr f6 a0 0 2 (fun r8 => xrl f6 r8 4 x1 (fun r9 => xgr f6 a0 0 1 (fun r10 => (∃ fs, f6 r9 = some (xO 2 fs)) ∧ xSp xT0 d j_Tr_find [.ref r9, .ref r10] f6 (fun w11 f12 => xvi w11 (fun v13 => xbr (¬ v13 = (-1)) (xgr f12 a0 0 2 (fun r14 => xrl f12 r14 4 x1 (fun r15 => (∃ fs, f12 r15 = some (xO 2 fs)) ∧ xSp xT0 d j_Tr_remove [.ref r15, .int v13] f12 (fun w16 f17 => xvv w16 (xgr f17 a0 0 2 (fun r18 => xrl f17 r18 4 x1 (fun r19 => (∃ fs, f17 r19 = some (xO 2 fs)) ∧ xSp xT0 d j_Tr_size [.ref r19] f17 (fun w20 f21 => xvi w20 (fun v22 => E (some (.int v22)) f21))))))))) (E (some (.int (-1))) f12))))))) (E (some (.int (-1))) f6)))))))
theorem b_PC_drop_0 {d : Nat} {E : Option Value → xH → Prop} {f : xH} {a0 : Nat} {x1 : Int32} (h : B_PC_drop_0 d E f a0 x1) : xWp (xT0, xSp xT0 d, none, m_PC_drop, E) 0 [some (.ref a0), some (.int x1), none] [] f 0 0 := by
  unfold B_PC_drop_0 at h
  refine s_aln l_PC_drop_0 rfl ?_
  refine s_iln l_PC_drop_1 rfl ?_
  refine s_cvi (As := [.int x1]) (r := []) l_PC_drop_2 rfl ⟨rfl, rfl⟩ rfl (Nat.le_of_ble_eq_true rfl) rfl ⟨Nat.zero_le _, Nat.zero_le _⟩ h (fun v3 f2 h => ?_)
  refine s_if l_PC_drop_5 h (fun h => ?_) (fun h => ?_)
  · refine s_ic (-1) l_PC_drop_18 rfl ?_
    exact s_iret l_PC_drop_19 rfl ⟨Nat.zero_le _, Nat.zero_le _⟩ h
  · refine s_aln l_PC_drop_8 rfl ?_
    refine s_gr l_PC_drop_9 h (fun r4 h => ?_)
    refine s_cvi (As := []) (r := []) l_PC_drop_12 rfl ⟨rfl, rfl⟩ rfl (Nat.le_of_ble_eq_true rfl) rfl ⟨Nat.zero_le _, Nat.zero_le _⟩ h (fun v7 f6 h => ?_)
    refine s_if l_PC_drop_15 h (fun h => ?_) (fun h => ?_)
    · refine s_aln l_PC_drop_20 rfl ?_
      refine s_gr l_PC_drop_21 h (fun r8 h => ?_)
      refine s_iln l_PC_drop_24 rfl ?_
      refine s_aal l_PC_drop_25 h (fun r9 h => ?_)
      refine s_aln l_PC_drop_26 rfl ?_
      refine s_gr l_PC_drop_27 h (fun r10 h => ?_)
      refine s_cvi (As := [.ref r10]) (r := []) l_PC_drop_30 rfl ⟨rfl, rfl⟩ rfl (Nat.le_of_ble_eq_true rfl) rfl ⟨Nat.zero_le _, Nat.zero_le _⟩ h (fun v13 f12 h => ?_)
      refine s_isn l_PC_drop_33 (Nat.le_of_ble_eq_true rfl) ?_
      refine s_iln l_PC_drop_34 rfl ?_
      refine s_ic (-1) l_PC_drop_35 rfl ?_
      refine s_ifc l_PC_drop_36 h (fun h => ?_) (fun h => ?_)
      · refine s_aln l_PC_drop_41 rfl ?_
        refine s_gr l_PC_drop_42 h (fun r14 h => ?_)
        refine s_iln l_PC_drop_45 rfl ?_
        refine s_aal l_PC_drop_46 h (fun r15 h => ?_)
        refine s_iln l_PC_drop_47 rfl ?_
        refine s_cvv (As := [.int v13]) (r := []) l_PC_drop_48 rfl ⟨rfl, rfl⟩ rfl (Nat.le_of_ble_eq_true rfl) rfl ⟨Nat.zero_le _, Nat.zero_le _⟩ h (fun f17 h => ?_)
        refine s_aln l_PC_drop_51 rfl ?_
        refine s_gr l_PC_drop_52 h (fun r18 h => ?_)
        refine s_iln l_PC_drop_55 rfl ?_
        refine s_aal l_PC_drop_56 h (fun r19 h => ?_)
        refine s_cvi (As := []) (r := []) l_PC_drop_57 rfl ⟨rfl, rfl⟩ rfl (Nat.le_of_ble_eq_true rfl) rfl ⟨Nat.zero_le _, Nat.zero_le _⟩ h (fun v22 f21 h => ?_)
        exact s_iret l_PC_drop_60 rfl ⟨Nat.zero_le _, Nat.zero_le _⟩ h
      · refine s_ic (-1) l_PC_drop_39 rfl ?_
        exact s_iret l_PC_drop_40 rfl ⟨Nat.zero_le _, Nat.zero_le _⟩ h
    · refine s_ic (-1) l_PC_drop_18 rfl ?_
      exact s_iret l_PC_drop_19 rfl ⟨Nat.zero_le _, Nat.zero_le _⟩ h
theorem l_PC_file_0 : xlk (xm_cd m_PC_file) 0 = some (.aload_n 0, 1, (0, 0, 0, [])) := rfl
theorem l_PC_file_1 : xlk (xm_cd m_PC_file) 1 = some (.iload_n 1, 1, (0, 0, 0, [])) := rfl
theorem l_PC_file_2 : xlk (xm_cd m_PC_file) 2 = some (.invokevirtual 83, 3, (326, 22, 1, [])) := rfl
theorem l_PC_file_5 : xlk (xm_cd m_PC_file) 5 = some (.ifCond .ne 5, 3, (0, 10, 0, [])) := rfl
theorem l_PC_file_8 : xlk (xm_cd m_PC_file) 8 = some (.iconst (-1), 1, (0, 0, 0, [])) := rfl
theorem l_PC_file_9 : xlk (xm_cd m_PC_file) 9 = some (.ireturn, 1, (0, 0, 0, [])) := rfl
theorem l_PC_file_10 : xlk (xm_cd m_PC_file) 10 = some (.aload_n 0, 1, (0, 0, 0, [])) := rfl
theorem l_PC_file_11 : xlk (xm_cd m_PC_file) 11 = some (.getfield 23, 3, (263, 0, 2, [])) := rfl
theorem l_PC_file_14 : xlk (xm_cd m_PC_file) 14 = some (.iload_n 1, 1, (0, 0, 0, [])) := rfl
theorem l_PC_file_15 : xlk (xm_cd m_PC_file) 15 = some (.aaload, 1, (0, 4, 0, [])) := rfl
theorem l_PC_file_16 : xlk (xm_cd m_PC_file) 16 = some (.astore 4, 2, (0, 0, 0, [])) := rfl
theorem l_PC_file_18 : xlk (xm_cd m_PC_file) 18 = some (.iload_n 3, 1, (0, 0, 0, [])) := rfl
theorem l_PC_file_19 : xlk (xm_cd m_PC_file) 19 = some (.iconst 3, 1, (0, 0, 0, [])) := rfl
theorem l_PC_file_20 : xlk (xm_cd m_PC_file) 20 = some (.if_icmp .ne 9, 3, (0, 29, 0, [])) := rfl
theorem l_PC_file_23 : xlk (xm_cd m_PC_file) 23 = some (.aload 4, 2, (0, 0, 0, [])) := rfl
theorem l_PC_file_25 : xlk (xm_cd m_PC_file) 25 = some (.invokevirtual 105, 3, (385, 37, 0, [])) := rfl
theorem l_PC_file_28 : xlk (xm_cd m_PC_file) 28 = some (.ireturn, 1, (0, 0, 0, [])) := rfl
theorem l_PC_file_29 : xlk (xm_cd m_PC_file) 29 = some (.aload 4, 2, (0, 0, 0, [])) := rfl
theorem l_PC_file_31 : xlk (xm_cd m_PC_file) 31 = some (.iload_n 2, 1, (0, 0, 0, [])) := rfl
theorem l_PC_file_32 : xlk (xm_cd m_PC_file) 32 = some (.invokevirtual 106, 3, (393, 36, 1, [])) := rfl
theorem l_PC_file_35 : xlk (xm_cd m_PC_file) 35 = some (.ifCond .ne 5, 3, (0, 40, 0, [])) := rfl
theorem l_PC_file_38 : xlk (xm_cd m_PC_file) 38 = some (.iconst (-1), 1, (0, 0, 0, [])) := rfl
theorem l_PC_file_39 : xlk (xm_cd m_PC_file) 39 = some (.ireturn, 1, (0, 0, 0, [])) := rfl
theorem l_PC_file_40 : xlk (xm_cd m_PC_file) 40 = some (.iload_n 3, 1, (0, 0, 0, [])) := rfl
theorem l_PC_file_41 : xlk (xm_cd m_PC_file) 41 = some (.tableswitch 57 0 2 #[27, 37, 47], 27, (0, 98, 0, [(0, 68), (1, 78), (2, 88)])) := rfl
theorem l_PC_file_68 : xlk (xm_cd m_PC_file) 68 = some (.aload 4, 2, (0, 0, 0, [])) := rfl
theorem l_PC_file_70 : xlk (xm_cd m_PC_file) 70 = some (.iload_n 2, 1, (0, 0, 0, [])) := rfl
theorem l_PC_file_71 : xlk (xm_cd m_PC_file) 71 = some (.invokevirtual 109, 3, (394, 39, 1, [])) := rfl
theorem l_PC_file_74 : xlk (xm_cd m_PC_file) 74 = some (.invokevirtual 63, 3, (283, 12, 0, [])) := rfl
theorem l_PC_file_77 : xlk (xm_cd m_PC_file) 77 = some (.ireturn, 1, (0, 0, 0, [])) := rfl
theorem l_PC_file_78 : xlk (xm_cd m_PC_file) 78 = some (.aload 4, 2, (0, 0, 0, [])) := rfl
theorem l_PC_file_80 : xlk (xm_cd m_PC_file) 80 = some (.iload_n 2, 1, (0, 0, 0, [])) := rfl
theorem l_PC_file_81 : xlk (xm_cd m_PC_file) 81 = some (.invokevirtual 113, 3, (398, 40, 1, [])) := rfl
theorem l_PC_file_84 : xlk (xm_cd m_PC_file) 84 = some (.invokevirtual 63, 3, (283, 12, 0, [])) := rfl
theorem l_PC_file_87 : xlk (xm_cd m_PC_file) 87 = some (.ireturn, 1, (0, 0, 0, [])) := rfl
theorem l_PC_file_88 : xlk (xm_cd m_PC_file) 88 = some (.aload 4, 2, (0, 0, 0, [])) := rfl
theorem l_PC_file_90 : xlk (xm_cd m_PC_file) 90 = some (.iload_n 2, 1, (0, 0, 0, [])) := rfl
theorem l_PC_file_91 : xlk (xm_cd m_PC_file) 91 = some (.invokevirtual 113, 3, (398, 40, 1, [])) := rfl
theorem l_PC_file_94 : xlk (xm_cd m_PC_file) 94 = some (.invokevirtual 116, 3, (402, 41, 0, [])) := rfl
theorem l_PC_file_97 : xlk (xm_cd m_PC_file) 97 = some (.ireturn, 1, (0, 0, 0, [])) := rfl
theorem l_PC_file_98 : xlk (xm_cd m_PC_file) 98 = some (.iconst (-1), 1, (0, 0, 0, [])) := rfl
theorem l_PC_file_99 : xlk (xm_cd m_PC_file) 99 = some (.ireturn, 1, (0, 0, 0, [])) := rfl
def B_PC_file_0 (d : Nat) (E : Option Value → xH → Prop) (f : xH) (a0 : Nat) (x1 : Int32) (x2 : Int32) (x3 : Int32) : Prop :=
  (∃ fs, f a0 = some (xO 0 fs)) ∧ xSp xT0 d j_PC_isTree [.ref a0, .int x1] f (fun w1 f2 => xvi w1 (fun v3 => xbr (¬ v3 = 0) (xgr f2 a0 0 2 (fun r4 => xrl f2 r4 4 x1 (fun r5 => xbr (¬ x3 = 3) ((∃ fs, f2 r5 = some (xO 2 fs)) ∧ xSp xT0 d j_Tr_has [.ref r5, .int x2] f2 (fun w6 f7 => xvi w6 (fun v8 => xbr (¬ v8 = 0) (xbr (x3 = 0) ((∃ fs, f7 r5 = some (xO 2 fs)) ∧ xSp xT0 d j_Tr_pathAt [.ref r5, .int x2] f7 (fun w9 f10 => xvr w9 (fun r11 => (∃ fs, f10 r11 = some (xO 1 fs)) ∧ xSp xT0 d j_By_size [.ref r11] f10 (fun w12 f13 => xvi w12 (fun v14 => E (some (.int v14)) f13))))) (xbr (x3 = 1) ((∃ fs, f7 r5 = some (xO 2 fs)) ∧ xSp xT0 d j_Tr_contentAt [.ref r5, .int x2] f7 (fun w15 f16 => xvr w15 (fun r17 => (∃ fs, f16 r17 = some (xO 1 fs)) ∧ xSp xT0 d j_By_size [.ref r17] f16 (fun w18 f19 => xvi w18 (fun v20 => E (some (.int v20)) f19))))) (xbr (x3 = 2) ((∃ fs, f7 r5 = some (xO 2 fs)) ∧ xSp xT0 d j_Tr_contentAt [.ref r5, .int x2] f7 (fun w21 f22 => xvr w21 (fun r23 => (∃ fs, f22 r23 = some (xO 1 fs)) ∧ xSp xT0 d j_By_sum [.ref r23] f22 (fun w24 f25 => xvi w24 (fun v26 => E (some (.int v26)) f25))))) (E (some (.int (-1))) f7)))) (E (some (.int (-1))) f7)))) ((∃ fs, f2 r5 = some (xO 2 fs)) ∧ xSp xT0 d j_Tr_size [.ref r5] f2 (fun w27 f28 => xvi w27 (fun v29 => E (some (.int v29)) f28)))))) (E (some (.int (-1))) f2)))
theorem b_PC_file_0 {d : Nat} {E : Option Value → xH → Prop} {f : xH} {a0 : Nat} {x1 : Int32} {x2 : Int32} {x3 : Int32} (h : B_PC_file_0 d E f a0 x1 x2 x3) : xWp (xT0, xSp xT0 d, none, m_PC_file, E) 0 [some (.ref a0), some (.int x1), some (.int x2), some (.int x3), none] [] f 0 0 := by
  unfold B_PC_file_0 at h
  refine s_aln l_PC_file_0 rfl ?_
  refine s_iln l_PC_file_1 rfl ?_
  refine s_cvi (As := [.int x1]) (r := []) l_PC_file_2 rfl ⟨rfl, rfl⟩ rfl (Nat.le_of_ble_eq_true rfl) rfl ⟨Nat.zero_le _, Nat.zero_le _⟩ h (fun v3 f2 h => ?_)
  refine s_if l_PC_file_5 h (fun h => ?_) (fun h => ?_)
  · refine s_aln l_PC_file_10 rfl ?_
    refine s_gr l_PC_file_11 h (fun r4 h => ?_)
    refine s_iln l_PC_file_14 rfl ?_
    refine s_aal l_PC_file_15 h (fun r5 h => ?_)
    refine s_as l_PC_file_16 (Nat.le_of_ble_eq_true rfl) ?_
    refine s_iln l_PC_file_18 rfl ?_
    refine s_ic 3 l_PC_file_19 rfl ?_
    refine s_ifc l_PC_file_20 h (fun h => ?_) (fun h => ?_)
    · refine s_al l_PC_file_29 rfl ?_
      refine s_iln l_PC_file_31 rfl ?_
      refine s_cvi (As := [.int x2]) (r := []) l_PC_file_32 rfl ⟨rfl, rfl⟩ rfl (Nat.le_of_ble_eq_true rfl) rfl ⟨Nat.zero_le _, Nat.zero_le _⟩ h (fun v8 f7 h => ?_)
      refine s_if l_PC_file_35 h (fun h => ?_) (fun h => ?_)
      · refine s_iln l_PC_file_40 rfl ?_
        refine s_ts l_PC_file_41 ⟨fun q0 => ?_, fun n0 => ⟨fun q1 => ?_, fun n1 => ⟨fun q2 => ?_, fun n2 => ?_⟩⟩⟩
        · have h := (h).1 q0
          refine s_al l_PC_file_68 rfl ?_
          refine s_iln l_PC_file_70 rfl ?_
          refine s_cvr (As := [.int x2]) (r := []) l_PC_file_71 rfl ⟨rfl, rfl⟩ rfl (Nat.le_of_ble_eq_true rfl) rfl ⟨Nat.zero_le _, Nat.zero_le _⟩ h (fun r11 f10 h => ?_)
          refine s_cvi (As := []) (r := []) l_PC_file_74 rfl ⟨rfl, rfl⟩ rfl (Nat.le_of_ble_eq_true rfl) rfl ⟨Nat.zero_le _, Nat.zero_le _⟩ h (fun v14 f13 h => ?_)
          exact s_iret l_PC_file_77 rfl ⟨Nat.zero_le _, Nat.zero_le _⟩ h
        · have h := ((h).2 n0).1 q1
          refine s_al l_PC_file_78 rfl ?_
          refine s_iln l_PC_file_80 rfl ?_
          refine s_cvr (As := [.int x2]) (r := []) l_PC_file_81 rfl ⟨rfl, rfl⟩ rfl (Nat.le_of_ble_eq_true rfl) rfl ⟨Nat.zero_le _, Nat.zero_le _⟩ h (fun r17 f16 h => ?_)
          refine s_cvi (As := []) (r := []) l_PC_file_84 rfl ⟨rfl, rfl⟩ rfl (Nat.le_of_ble_eq_true rfl) rfl ⟨Nat.zero_le _, Nat.zero_le _⟩ h (fun v20 f19 h => ?_)
          exact s_iret l_PC_file_87 rfl ⟨Nat.zero_le _, Nat.zero_le _⟩ h
        · have h := (((h).2 n0).2 n1).1 q2
          refine s_al l_PC_file_88 rfl ?_
          refine s_iln l_PC_file_90 rfl ?_
          refine s_cvr (As := [.int x2]) (r := []) l_PC_file_91 rfl ⟨rfl, rfl⟩ rfl (Nat.le_of_ble_eq_true rfl) rfl ⟨Nat.zero_le _, Nat.zero_le _⟩ h (fun r23 f22 h => ?_)
          refine s_cvi (As := []) (r := []) l_PC_file_94 rfl ⟨rfl, rfl⟩ rfl (Nat.le_of_ble_eq_true rfl) rfl ⟨Nat.zero_le _, Nat.zero_le _⟩ h (fun v26 f25 h => ?_)
          exact s_iret l_PC_file_97 rfl ⟨Nat.zero_le _, Nat.zero_le _⟩ h
        · have h := (((h).2 n0).2 n1).2 n2
          refine s_ic (-1) l_PC_file_98 rfl ?_
          exact s_iret l_PC_file_99 rfl ⟨Nat.zero_le _, Nat.zero_le _⟩ h
      · refine s_ic (-1) l_PC_file_38 rfl ?_
        exact s_iret l_PC_file_39 rfl ⟨Nat.zero_le _, Nat.zero_le _⟩ h
    · refine s_al l_PC_file_23 rfl ?_
      refine s_cvi (As := []) (r := []) l_PC_file_25 rfl ⟨rfl, rfl⟩ rfl (Nat.le_of_ble_eq_true rfl) rfl ⟨Nat.zero_le _, Nat.zero_le _⟩ h (fun v29 f28 h => ?_)
      exact s_iret l_PC_file_28 rfl ⟨Nat.zero_le _, Nat.zero_le _⟩ h
  · refine s_ic (-1) l_PC_file_8 rfl ?_
    exact s_iret l_PC_file_9 rfl ⟨Nat.zero_le _, Nat.zero_le _⟩ h
theorem l_PC_byteOf_0 : xlk (xm_cd m_PC_byteOf) 0 = some (.aload_n 0, 1, (0, 0, 0, [])) := rfl
theorem l_PC_byteOf_1 : xlk (xm_cd m_PC_byteOf) 1 = some (.iload_n 1, 1, (0, 0, 0, [])) := rfl
theorem l_PC_byteOf_2 : xlk (xm_cd m_PC_byteOf) 2 = some (.invokevirtual 83, 3, (326, 22, 1, [])) := rfl
theorem l_PC_byteOf_5 : xlk (xm_cd m_PC_byteOf) 5 = some (.ifCond .eq 16, 3, (0, 21, 0, [])) := rfl
theorem l_PC_byteOf_8 : xlk (xm_cd m_PC_byteOf) 8 = some (.aload_n 0, 1, (0, 0, 0, [])) := rfl
theorem l_PC_byteOf_9 : xlk (xm_cd m_PC_byteOf) 9 = some (.getfield 23, 3, (263, 0, 2, [])) := rfl
theorem l_PC_byteOf_12 : xlk (xm_cd m_PC_byteOf) 12 = some (.iload_n 1, 1, (0, 0, 0, [])) := rfl
theorem l_PC_byteOf_13 : xlk (xm_cd m_PC_byteOf) 13 = some (.aaload, 1, (0, 4, 0, [])) := rfl
theorem l_PC_byteOf_14 : xlk (xm_cd m_PC_byteOf) 14 = some (.iload_n 2, 1, (0, 0, 0, [])) := rfl
theorem l_PC_byteOf_15 : xlk (xm_cd m_PC_byteOf) 15 = some (.invokevirtual 106, 3, (393, 36, 1, [])) := rfl
theorem l_PC_byteOf_18 : xlk (xm_cd m_PC_byteOf) 18 = some (.ifCond .ne 5, 3, (0, 23, 0, [])) := rfl
theorem l_PC_byteOf_21 : xlk (xm_cd m_PC_byteOf) 21 = some (.iconst (-1), 1, (0, 0, 0, [])) := rfl
theorem l_PC_byteOf_22 : xlk (xm_cd m_PC_byteOf) 22 = some (.ireturn, 1, (0, 0, 0, [])) := rfl
theorem l_PC_byteOf_23 : xlk (xm_cd m_PC_byteOf) 23 = some (.iload_n 3, 1, (0, 0, 0, [])) := rfl
theorem l_PC_byteOf_24 : xlk (xm_cd m_PC_byteOf) 24 = some (.lookupswitch 60 #[(0, 28), (1, 44)], 28, (0, 84, 0, [(0, 52), (1, 68)])) := rfl
theorem l_PC_byteOf_52 : xlk (xm_cd m_PC_byteOf) 52 = some (.aload_n 0, 1, (0, 0, 0, [])) := rfl
theorem l_PC_byteOf_53 : xlk (xm_cd m_PC_byteOf) 53 = some (.getfield 23, 3, (263, 0, 2, [])) := rfl
theorem l_PC_byteOf_56 : xlk (xm_cd m_PC_byteOf) 56 = some (.iload_n 1, 1, (0, 0, 0, [])) := rfl
theorem l_PC_byteOf_57 : xlk (xm_cd m_PC_byteOf) 57 = some (.aaload, 1, (0, 4, 0, [])) := rfl
theorem l_PC_byteOf_58 : xlk (xm_cd m_PC_byteOf) 58 = some (.iload_n 2, 1, (0, 0, 0, [])) := rfl
theorem l_PC_byteOf_59 : xlk (xm_cd m_PC_byteOf) 59 = some (.invokevirtual 113, 3, (398, 40, 1, [])) := rfl
theorem l_PC_byteOf_62 : xlk (xm_cd m_PC_byteOf) 62 = some (.iload 4, 2, (0, 0, 0, [])) := rfl
theorem l_PC_byteOf_64 : xlk (xm_cd m_PC_byteOf) 64 = some (.invokevirtual 119, 3, (411, 43, 1, [])) := rfl
theorem l_PC_byteOf_67 : xlk (xm_cd m_PC_byteOf) 67 = some (.ireturn, 1, (0, 0, 0, [])) := rfl
theorem l_PC_byteOf_68 : xlk (xm_cd m_PC_byteOf) 68 = some (.aload_n 0, 1, (0, 0, 0, [])) := rfl
theorem l_PC_byteOf_69 : xlk (xm_cd m_PC_byteOf) 69 = some (.getfield 23, 3, (263, 0, 2, [])) := rfl
theorem l_PC_byteOf_72 : xlk (xm_cd m_PC_byteOf) 72 = some (.iload_n 1, 1, (0, 0, 0, [])) := rfl
theorem l_PC_byteOf_73 : xlk (xm_cd m_PC_byteOf) 73 = some (.aaload, 1, (0, 4, 0, [])) := rfl
theorem l_PC_byteOf_74 : xlk (xm_cd m_PC_byteOf) 74 = some (.iload_n 2, 1, (0, 0, 0, [])) := rfl
theorem l_PC_byteOf_75 : xlk (xm_cd m_PC_byteOf) 75 = some (.invokevirtual 109, 3, (394, 39, 1, [])) := rfl
theorem l_PC_byteOf_78 : xlk (xm_cd m_PC_byteOf) 78 = some (.iload 4, 2, (0, 0, 0, [])) := rfl
theorem l_PC_byteOf_80 : xlk (xm_cd m_PC_byteOf) 80 = some (.invokevirtual 119, 3, (411, 43, 1, [])) := rfl
theorem l_PC_byteOf_83 : xlk (xm_cd m_PC_byteOf) 83 = some (.ireturn, 1, (0, 0, 0, [])) := rfl
theorem l_PC_byteOf_84 : xlk (xm_cd m_PC_byteOf) 84 = some (.iconst (-1), 1, (0, 0, 0, [])) := rfl
theorem l_PC_byteOf_85 : xlk (xm_cd m_PC_byteOf) 85 = some (.ireturn, 1, (0, 0, 0, [])) := rfl
def B_PC_byteOf_0 (d : Nat) (E : Option Value → xH → Prop) (f : xH) (a0 : Nat) (x1 : Int32) (x2 : Int32) (x3 : Int32) (x4 : Int32) : Prop :=
  (∃ fs, f a0 = some (xO 0 fs)) ∧ xSp xT0 d j_PC_isTree [.ref a0, .int x1] f (fun w1 f2 => xvi w1 (fun v3 => xbr (v3 = 0) (E (some (.int (-1))) f2) (xgr f2 a0 0 2 (fun r4 => xrl f2 r4 4 x1 (fun r5 => (∃ fs, f2 r5 = some (xO 2 fs)) ∧ xSp xT0 d j_Tr_has [.ref r5, .int x2] f2 (fun w6 f7 => xvi w6 (fun v8 => xbr (¬ v8 = 0) (xbr (x3 = 0) (xgr f7 a0 0 2 (fun r9 => xrl f7 r9 4 x1 (fun r10 => (∃ fs, f7 r10 = some (xO 2 fs)) ∧ xSp xT0 d j_Tr_contentAt [.ref r10, .int x2] f7 (fun w11 f12 => xvr w11 (fun r13 => (∃ fs, f12 r13 = some (xO 1 fs)) ∧ xSp xT0 d j_By_at [.ref r13, .int x4] f12 (fun w14 f15 => xvi w14 (fun v16 => E (some (.int v16)) f15))))))) (xbr (x3 = 1) (xgr f7 a0 0 2 (fun r17 => xrl f7 r17 4 x1 (fun r18 => (∃ fs, f7 r18 = some (xO 2 fs)) ∧ xSp xT0 d j_Tr_pathAt [.ref r18, .int x2] f7 (fun w19 f20 => xvr w19 (fun r21 => (∃ fs, f20 r21 = some (xO 1 fs)) ∧ xSp xT0 d j_By_at [.ref r21, .int x4] f20 (fun w22 f23 => xvi w22 (fun v24 => E (some (.int v24)) f23))))))) (E (some (.int (-1))) f7))) (E (some (.int (-1))) f7))))))))
theorem b_PC_byteOf_0 {d : Nat} {E : Option Value → xH → Prop} {f : xH} {a0 : Nat} {x1 : Int32} {x2 : Int32} {x3 : Int32} {x4 : Int32} (h : B_PC_byteOf_0 d E f a0 x1 x2 x3 x4) : xWp (xT0, xSp xT0 d, none, m_PC_byteOf, E) 0 [some (.ref a0), some (.int x1), some (.int x2), some (.int x3), some (.int x4)] [] f 0 0 := by
  unfold B_PC_byteOf_0 at h
  refine s_aln l_PC_byteOf_0 rfl ?_
  refine s_iln l_PC_byteOf_1 rfl ?_
  refine s_cvi (As := [.int x1]) (r := []) l_PC_byteOf_2 rfl ⟨rfl, rfl⟩ rfl (Nat.le_of_ble_eq_true rfl) rfl ⟨Nat.zero_le _, Nat.zero_le _⟩ h (fun v3 f2 h => ?_)
  refine s_if l_PC_byteOf_5 h (fun h => ?_) (fun h => ?_)
  · refine s_ic (-1) l_PC_byteOf_21 rfl ?_
    exact s_iret l_PC_byteOf_22 rfl ⟨Nat.zero_le _, Nat.zero_le _⟩ h
  · refine s_aln l_PC_byteOf_8 rfl ?_
    refine s_gr l_PC_byteOf_9 h (fun r4 h => ?_)
    refine s_iln l_PC_byteOf_12 rfl ?_
    refine s_aal l_PC_byteOf_13 h (fun r5 h => ?_)
    refine s_iln l_PC_byteOf_14 rfl ?_
    refine s_cvi (As := [.int x2]) (r := []) l_PC_byteOf_15 rfl ⟨rfl, rfl⟩ rfl (Nat.le_of_ble_eq_true rfl) rfl ⟨Nat.zero_le _, Nat.zero_le _⟩ h (fun v8 f7 h => ?_)
    refine s_if l_PC_byteOf_18 h (fun h => ?_) (fun h => ?_)
    · refine s_iln l_PC_byteOf_23 rfl ?_
      refine s_ls l_PC_byteOf_24 ⟨fun q0 => ?_, fun n0 => ⟨fun q1 => ?_, fun n1 => ?_⟩⟩
      · have h := (h).1 q0
        refine s_aln l_PC_byteOf_52 rfl ?_
        refine s_gr l_PC_byteOf_53 h (fun r9 h => ?_)
        refine s_iln l_PC_byteOf_56 rfl ?_
        refine s_aal l_PC_byteOf_57 h (fun r10 h => ?_)
        refine s_iln l_PC_byteOf_58 rfl ?_
        refine s_cvr (As := [.int x2]) (r := []) l_PC_byteOf_59 rfl ⟨rfl, rfl⟩ rfl (Nat.le_of_ble_eq_true rfl) rfl ⟨Nat.zero_le _, Nat.zero_le _⟩ h (fun r13 f12 h => ?_)
        refine s_il l_PC_byteOf_62 rfl ?_
        refine s_cvi (As := [.int x4]) (r := []) l_PC_byteOf_64 rfl ⟨rfl, rfl⟩ rfl (Nat.le_of_ble_eq_true rfl) rfl ⟨Nat.zero_le _, Nat.zero_le _⟩ h (fun v16 f15 h => ?_)
        exact s_iret l_PC_byteOf_67 rfl ⟨Nat.zero_le _, Nat.zero_le _⟩ h
      · have h := ((h).2 n0).1 q1
        refine s_aln l_PC_byteOf_68 rfl ?_
        refine s_gr l_PC_byteOf_69 h (fun r17 h => ?_)
        refine s_iln l_PC_byteOf_72 rfl ?_
        refine s_aal l_PC_byteOf_73 h (fun r18 h => ?_)
        refine s_iln l_PC_byteOf_74 rfl ?_
        refine s_cvr (As := [.int x2]) (r := []) l_PC_byteOf_75 rfl ⟨rfl, rfl⟩ rfl (Nat.le_of_ble_eq_true rfl) rfl ⟨Nat.zero_le _, Nat.zero_le _⟩ h (fun r21 f20 h => ?_)
        refine s_il l_PC_byteOf_78 rfl ?_
        refine s_cvi (As := [.int x4]) (r := []) l_PC_byteOf_80 rfl ⟨rfl, rfl⟩ rfl (Nat.le_of_ble_eq_true rfl) rfl ⟨Nat.zero_le _, Nat.zero_le _⟩ h (fun v24 f23 h => ?_)
        exact s_iret l_PC_byteOf_83 rfl ⟨Nat.zero_le _, Nat.zero_le _⟩ h
      · have h := ((h).2 n0).2 n1
        refine s_ic (-1) l_PC_byteOf_84 rfl ?_
        exact s_iret l_PC_byteOf_85 rfl ⟨Nat.zero_le _, Nat.zero_le _⟩ h
    · refine s_ic (-1) l_PC_byteOf_21 rfl ?_
      exact s_iret l_PC_byteOf_22 rfl ⟨Nat.zero_le _, Nat.zero_le _⟩ h
theorem l_PC_same_0 : xlk (xm_cd m_PC_same) 0 = some (.aload_n 0, 1, (0, 0, 0, [])) := rfl
theorem l_PC_same_1 : xlk (xm_cd m_PC_same) 1 = some (.iload_n 1, 1, (0, 0, 0, [])) := rfl
theorem l_PC_same_2 : xlk (xm_cd m_PC_same) 2 = some (.invokevirtual 83, 3, (326, 22, 1, [])) := rfl
theorem l_PC_same_5 : xlk (xm_cd m_PC_same) 5 = some (.ifCond .eq 11, 3, (0, 16, 0, [])) := rfl
theorem l_PC_same_8 : xlk (xm_cd m_PC_same) 8 = some (.aload_n 0, 1, (0, 0, 0, [])) := rfl
theorem l_PC_same_9 : xlk (xm_cd m_PC_same) 9 = some (.iload_n 2, 1, (0, 0, 0, [])) := rfl
theorem l_PC_same_10 : xlk (xm_cd m_PC_same) 10 = some (.invokevirtual 83, 3, (326, 22, 1, [])) := rfl
theorem l_PC_same_13 : xlk (xm_cd m_PC_same) 13 = some (.ifCond .ne 5, 3, (0, 18, 0, [])) := rfl
theorem l_PC_same_16 : xlk (xm_cd m_PC_same) 16 = some (.iconst (-1), 1, (0, 0, 0, [])) := rfl
theorem l_PC_same_17 : xlk (xm_cd m_PC_same) 17 = some (.ireturn, 1, (0, 0, 0, [])) := rfl
theorem l_PC_same_18 : xlk (xm_cd m_PC_same) 18 = some (.aload_n 0, 1, (0, 0, 0, [])) := rfl
theorem l_PC_same_19 : xlk (xm_cd m_PC_same) 19 = some (.getfield 23, 3, (263, 0, 2, [])) := rfl
theorem l_PC_same_22 : xlk (xm_cd m_PC_same) 22 = some (.iload_n 1, 1, (0, 0, 0, [])) := rfl
theorem l_PC_same_23 : xlk (xm_cd m_PC_same) 23 = some (.aaload, 1, (0, 4, 0, [])) := rfl
theorem l_PC_same_24 : xlk (xm_cd m_PC_same) 24 = some (.aload_n 0, 1, (0, 0, 0, [])) := rfl
theorem l_PC_same_25 : xlk (xm_cd m_PC_same) 25 = some (.getfield 23, 3, (263, 0, 2, [])) := rfl
theorem l_PC_same_28 : xlk (xm_cd m_PC_same) 28 = some (.iload_n 2, 1, (0, 0, 0, [])) := rfl
theorem l_PC_same_29 : xlk (xm_cd m_PC_same) 29 = some (.aaload, 1, (0, 4, 0, [])) := rfl
theorem l_PC_same_30 : xlk (xm_cd m_PC_same) 30 = some (.invokevirtual 123, 3, (419, 45, 1, [])) := rfl
theorem l_PC_same_33 : xlk (xm_cd m_PC_same) 33 = some (.ifCond .eq 7, 3, (0, 40, 0, [])) := rfl
theorem l_PC_same_36 : xlk (xm_cd m_PC_same) 36 = some (.iconst 1, 1, (0, 0, 0, [])) := rfl
theorem l_PC_same_37 : xlk (xm_cd m_PC_same) 37 = some (.goto 4, 3, (0, 41, 0, [])) := rfl
theorem l_PC_same_40 : xlk (xm_cd m_PC_same) 40 = some (.iconst 0, 1, (0, 0, 0, [])) := rfl
theorem l_PC_same_41 : xlk (xm_cd m_PC_same) 41 = some (.ireturn, 1, (0, 0, 0, [])) := rfl
def B_PC_same_0 (d : Nat) (E : Option Value → xH → Prop) (f : xH) (a0 : Nat) (x1 : Int32) (x2 : Int32) : Prop :=
  (∃ fs, f a0 = some (xO 0 fs)) ∧ xSp xT0 d j_PC_isTree [.ref a0, .int x1] f (fun w1 f2 => xvi w1 (fun v3 => xbr (v3 = 0) (E (some (.int (-1))) f2) ((∃ fs, f2 a0 = some (xO 0 fs)) ∧ xSp xT0 d j_PC_isTree [.ref a0, .int x2] f2 (fun w4 f5 => xvi w4 (fun v6 => xbr (¬ v6 = 0) (xgr f5 a0 0 2 (fun r7 => xrl f5 r7 4 x1 (fun r8 => xgr f5 a0 0 2 (fun r9 => xrl f5 r9 4 x2 (fun r10 => (∃ fs, f5 r8 = some (xO 2 fs)) ∧ xSp xT0 d j_Tr_equalTo [.ref r8, .ref r10] f5 (fun w11 f12 => xvi w11 (fun v13 => xbr (v13 = 0) (E (some (.int 0)) f12) (E (some (.int 1)) f12)))))))) (E (some (.int (-1))) f5))))))
theorem b_PC_same_0 {d : Nat} {E : Option Value → xH → Prop} {f : xH} {a0 : Nat} {x1 : Int32} {x2 : Int32} (h : B_PC_same_0 d E f a0 x1 x2) : xWp (xT0, xSp xT0 d, none, m_PC_same, E) 0 [some (.ref a0), some (.int x1), some (.int x2)] [] f 0 0 := by
  unfold B_PC_same_0 at h
  refine s_aln l_PC_same_0 rfl ?_
  refine s_iln l_PC_same_1 rfl ?_
  refine s_cvi (As := [.int x1]) (r := []) l_PC_same_2 rfl ⟨rfl, rfl⟩ rfl (Nat.le_of_ble_eq_true rfl) rfl ⟨Nat.zero_le _, Nat.zero_le _⟩ h (fun v3 f2 h => ?_)
  refine s_if l_PC_same_5 h (fun h => ?_) (fun h => ?_)
  · refine s_ic (-1) l_PC_same_16 rfl ?_
    exact s_iret l_PC_same_17 rfl ⟨Nat.zero_le _, Nat.zero_le _⟩ h
  · refine s_aln l_PC_same_8 rfl ?_
    refine s_iln l_PC_same_9 rfl ?_
    refine s_cvi (As := [.int x2]) (r := []) l_PC_same_10 rfl ⟨rfl, rfl⟩ rfl (Nat.le_of_ble_eq_true rfl) rfl ⟨Nat.zero_le _, Nat.zero_le _⟩ h (fun v6 f5 h => ?_)
    refine s_if l_PC_same_13 h (fun h => ?_) (fun h => ?_)
    · refine s_aln l_PC_same_18 rfl ?_
      refine s_gr l_PC_same_19 h (fun r7 h => ?_)
      refine s_iln l_PC_same_22 rfl ?_
      refine s_aal l_PC_same_23 h (fun r8 h => ?_)
      refine s_aln l_PC_same_24 rfl ?_
      refine s_gr l_PC_same_25 h (fun r9 h => ?_)
      refine s_iln l_PC_same_28 rfl ?_
      refine s_aal l_PC_same_29 h (fun r10 h => ?_)
      refine s_cvi (As := [.ref r10]) (r := []) l_PC_same_30 rfl ⟨rfl, rfl⟩ rfl (Nat.le_of_ble_eq_true rfl) rfl ⟨Nat.zero_le _, Nat.zero_le _⟩ h (fun v13 f12 h => ?_)
      refine s_if l_PC_same_33 h (fun h => ?_) (fun h => ?_)
      · refine s_ic 0 l_PC_same_40 rfl ?_
        exact s_iret l_PC_same_41 rfl ⟨Nat.zero_le _, Nat.zero_le _⟩ h
      · refine s_ic 1 l_PC_same_36 rfl ?_
        refine s_goto l_PC_same_37 ?_
        exact s_iret l_PC_same_41 rfl ⟨Nat.zero_le _, Nat.zero_le _⟩ h
    · refine s_ic (-1) l_PC_same_16 rfl ?_
      exact s_iret l_PC_same_17 rfl ⟨Nat.zero_le _, Nat.zero_le _⟩ h
theorem l_PC_clear_0 : xlk (xm_cd m_PC_clear) 0 = some (.aload_n 0, 1, (0, 0, 0, [])) := rfl
theorem l_PC_clear_1 : xlk (xm_cd m_PC_clear) 1 = some (.getfield 56, 3, (268, 0, 7, [])) := rfl
theorem l_PC_clear_4 : xlk (xm_cd m_PC_clear) 4 = some (.istore_n 1, 1, (0, 0, 0, [])) := rfl
theorem l_PC_clear_5 : xlk (xm_cd m_PC_clear) 5 = some (.aload_n 0, 1, (0, 0, 0, [])) := rfl
theorem l_PC_clear_6 : xlk (xm_cd m_PC_clear) 6 = some (.iconst 0, 1, (0, 0, 0, [])) := rfl
theorem l_PC_clear_7 : xlk (xm_cd m_PC_clear) 7 = some (.putfield 56, 3, (268, 0, 7, [(0, 0)])) := rfl
theorem l_PC_clear_10 : xlk (xm_cd m_PC_clear) 10 = some (.aload_n 0, 1, (0, 0, 0, [])) := rfl
theorem l_PC_clear_11 : xlk (xm_cd m_PC_clear) 11 = some (.iconst 0, 1, (0, 0, 0, [])) := rfl
theorem l_PC_clear_12 : xlk (xm_cd m_PC_clear) 12 = some (.putfield 60, 3, (269, 0, 8, [(0, 0)])) := rfl
theorem l_PC_clear_15 : xlk (xm_cd m_PC_clear) 15 = some (.iload_n 1, 1, (0, 0, 0, [])) := rfl
theorem l_PC_clear_16 : xlk (xm_cd m_PC_clear) 16 = some (.ireturn, 1, (0, 0, 0, [])) := rfl
def B_PC_clear_0 (d : Nat) (E : Option Value → xH → Prop) (f : xH) (a0 : Nat) : Prop :=
  xgi f a0 0 7 (fun v1 => xpf f a0 0 7 (.int 0) (fun f2 => xpf f2 a0 0 8 (.int 0) (fun f3 => E (some (.int v1)) f3)))
theorem b_PC_clear_0 {d : Nat} {E : Option Value → xH → Prop} {f : xH} {a0 : Nat} (h : B_PC_clear_0 d E f a0) : xWp (xT0, xSp xT0 d, none, m_PC_clear, E) 0 [some (.ref a0), none] [] f 0 0 := by
  unfold B_PC_clear_0 at h
  refine s_aln l_PC_clear_0 rfl ?_
  refine s_gi l_PC_clear_1 h (fun v1 h => ?_)
  refine s_isn l_PC_clear_4 (Nat.le_of_ble_eq_true rfl) ?_
  refine s_aln l_PC_clear_5 rfl ?_
  refine s_ic 0 l_PC_clear_6 rfl ?_
  refine s_pf l_PC_clear_7 ⟨_, rfl⟩ h (fun f2 h => ?_)
  refine s_aln l_PC_clear_10 rfl ?_
  refine s_ic 0 l_PC_clear_11 rfl ?_
  refine s_pf l_PC_clear_12 ⟨_, rfl⟩ h (fun f3 h => ?_)
  refine s_iln l_PC_clear_15 rfl ?_
  exact s_iret l_PC_clear_16 rfl ⟨Nat.zero_le _, Nat.zero_le _⟩ h
theorem l_PC_patch_0 : xlk (xm_cd m_PC_patch) 0 = some (.aload_n 0, 1, (0, 0, 0, [])) := rfl
theorem l_PC_patch_1 : xlk (xm_cd m_PC_patch) 1 = some (.iload_n 1, 1, (0, 0, 0, [])) := rfl
theorem l_PC_patch_2 : xlk (xm_cd m_PC_patch) 2 = some (.invokevirtual 83, 3, (326, 22, 1, [])) := rfl
theorem l_PC_patch_5 : xlk (xm_cd m_PC_patch) 5 = some (.ifCond .eq 11, 3, (0, 16, 0, [])) := rfl
theorem l_PC_patch_8 : xlk (xm_cd m_PC_patch) 8 = some (.aload_n 0, 1, (0, 0, 0, [])) := rfl
theorem l_PC_patch_9 : xlk (xm_cd m_PC_patch) 9 = some (.iload_n 2, 1, (0, 0, 0, [])) := rfl
theorem l_PC_patch_10 : xlk (xm_cd m_PC_patch) 10 = some (.invokevirtual 83, 3, (326, 22, 1, [])) := rfl
theorem l_PC_patch_13 : xlk (xm_cd m_PC_patch) 13 = some (.ifCond .ne 5, 3, (0, 18, 0, [])) := rfl
theorem l_PC_patch_16 : xlk (xm_cd m_PC_patch) 16 = some (.iconst (-1), 1, (0, 0, 0, [])) := rfl
theorem l_PC_patch_17 : xlk (xm_cd m_PC_patch) 17 = some (.ireturn, 1, (0, 0, 0, [])) := rfl
theorem l_PC_patch_18 : xlk (xm_cd m_PC_patch) 18 = some (.aload_n 0, 1, (0, 0, 0, [])) := rfl
theorem l_PC_patch_19 : xlk (xm_cd m_PC_patch) 19 = some (.getfield 60, 3, (269, 0, 8, [])) := rfl
theorem l_PC_patch_22 : xlk (xm_cd m_PC_patch) 22 = some (.bipush 8, 2, (0, 0, 0, [])) := rfl
theorem l_PC_patch_24 : xlk (xm_cd m_PC_patch) 24 = some (.if_icmp .lt 6, 3, (0, 30, 0, [])) := rfl
theorem l_PC_patch_27 : xlk (xm_cd m_PC_patch) 27 = some (.bipush (-3), 2, (0, 0, 0, [])) := rfl
theorem l_PC_patch_29 : xlk (xm_cd m_PC_patch) 29 = some (.ireturn, 1, (0, 0, 0, [])) := rfl
theorem l_PC_patch_30 : xlk (xm_cd m_PC_patch) 30 = some (.aload_n 0, 1, (0, 0, 0, [])) := rfl
theorem l_PC_patch_31 : xlk (xm_cd m_PC_patch) 31 = some (.getfield 38, 3, (265, 0, 4, [])) := rfl
theorem l_PC_patch_34 : xlk (xm_cd m_PC_patch) 34 = some (.aload_n 0, 1, (0, 0, 0, [])) := rfl
theorem l_PC_patch_35 : xlk (xm_cd m_PC_patch) 35 = some (.getfield 23, 3, (263, 0, 2, [])) := rfl
theorem l_PC_patch_38 : xlk (xm_cd m_PC_patch) 38 = some (.iload_n 1, 1, (0, 0, 0, [])) := rfl
theorem l_PC_patch_39 : xlk (xm_cd m_PC_patch) 39 = some (.aaload, 1, (0, 4, 0, [])) := rfl
theorem l_PC_patch_40 : xlk (xm_cd m_PC_patch) 40 = some (.aload_n 0, 1, (0, 0, 0, [])) := rfl
theorem l_PC_patch_41 : xlk (xm_cd m_PC_patch) 41 = some (.getfield 23, 3, (263, 0, 2, [])) := rfl
theorem l_PC_patch_44 : xlk (xm_cd m_PC_patch) 44 = some (.iload_n 2, 1, (0, 0, 0, [])) := rfl
theorem l_PC_patch_45 : xlk (xm_cd m_PC_patch) 45 = some (.aaload, 1, (0, 4, 0, [])) := rfl
theorem l_PC_patch_46 : xlk (xm_cd m_PC_patch) 46 = some (.aload_n 0, 1, (0, 0, 0, [])) := rfl
theorem l_PC_patch_47 : xlk (xm_cd m_PC_patch) 47 = some (.getfield 30, 3, (264, 0, 3, [])) := rfl
theorem l_PC_patch_50 : xlk (xm_cd m_PC_patch) 50 = some (.aload_n 0, 1, (0, 0, 0, [])) := rfl
theorem l_PC_patch_51 : xlk (xm_cd m_PC_patch) 51 = some (.getfield 60, 3, (269, 0, 8, [])) := rfl
theorem l_PC_patch_54 : xlk (xm_cd m_PC_patch) 54 = some (.aaload, 1, (0, 6, 0, [])) := rfl
theorem l_PC_patch_55 : xlk (xm_cd m_PC_patch) 55 = some (.invokevirtual 127, 3, (431, 48, 3, [])) := rfl
theorem l_PC_patch_58 : xlk (xm_cd m_PC_patch) 58 = some (.aload_n 0, 1, (0, 0, 0, [])) := rfl
theorem l_PC_patch_59 : xlk (xm_cd m_PC_patch) 59 = some (.invokevirtual 131, 3, (542, 75, 0, [])) := rfl
theorem l_PC_patch_62 : xlk (xm_cd m_PC_patch) 62 = some (.ireturn, 1, (0, 0, 0, [])) := rfl
def B_PC_patch_0 (d : Nat) (E : Option Value → xH → Prop) (f : xH) (a0 : Nat) (x1 : Int32) (x2 : Int32) : Prop :=
  (∃ fs, f a0 = some (xO 0 fs)) ∧ xSp xT0 d j_PC_isTree [.ref a0, .int x1] f (fun w1 f2 => xvi w1 (fun v3 => xbr (v3 = 0) (E (some (.int (-1))) f2) ((∃ fs, f2 a0 = some (xO 0 fs)) ∧ xSp xT0 d j_PC_isTree [.ref a0, .int x2] f2 (fun w4 f5 => xvi w4 (fun v6 => xbr (¬ v6 = 0) (xgi f5 a0 0 8 (fun v7 => xbr (v7 < 8) (xgr f5 a0 0 4 (fun r8 => xgr f5 a0 0 2 (fun r9 => xrl f5 r9 4 x1 (fun r10 => xgr f5 a0 0 2 (fun r11 => xrl f5 r11 4 x2 (fun r12 => xgr f5 a0 0 3 (fun r13 => xgi f5 a0 0 8 (fun v14 => xrl f5 r13 6 v14 (fun r15 => (∃ fs, f5 r8 = some (xO 7 fs)) ∧ xSp xT0 d j_Di_difference [.ref r8, .ref r10, .ref r12, .ref r15] f5 (fun w16 f17 => xvv w16 ((∃ fs, f17 a0 = some (xO 0 fs)) ∧ xSp xT0 d j_PC_keepPatch [.ref a0] f17 (fun w18 f19 => xvi w18 (fun v20 => E (some (.int v20)) f19))))))))))))) (E (some (.int (-3))) f5))) (E (some (.int (-1))) f5))))))
theorem b_PC_patch_0 {d : Nat} {E : Option Value → xH → Prop} {f : xH} {a0 : Nat} {x1 : Int32} {x2 : Int32} (h : B_PC_patch_0 d E f a0 x1 x2) : xWp (xT0, xSp xT0 d, none, m_PC_patch, E) 0 [some (.ref a0), some (.int x1), some (.int x2)] [] f 0 0 := by
  unfold B_PC_patch_0 at h
  refine s_aln l_PC_patch_0 rfl ?_
  refine s_iln l_PC_patch_1 rfl ?_
  refine s_cvi (As := [.int x1]) (r := []) l_PC_patch_2 rfl ⟨rfl, rfl⟩ rfl (Nat.le_of_ble_eq_true rfl) rfl ⟨Nat.zero_le _, Nat.zero_le _⟩ h (fun v3 f2 h => ?_)
  refine s_if l_PC_patch_5 h (fun h => ?_) (fun h => ?_)
  · refine s_ic (-1) l_PC_patch_16 rfl ?_
    exact s_iret l_PC_patch_17 rfl ⟨Nat.zero_le _, Nat.zero_le _⟩ h
  · refine s_aln l_PC_patch_8 rfl ?_
    refine s_iln l_PC_patch_9 rfl ?_
    refine s_cvi (As := [.int x2]) (r := []) l_PC_patch_10 rfl ⟨rfl, rfl⟩ rfl (Nat.le_of_ble_eq_true rfl) rfl ⟨Nat.zero_le _, Nat.zero_le _⟩ h (fun v6 f5 h => ?_)
    refine s_if l_PC_patch_13 h (fun h => ?_) (fun h => ?_)
    · refine s_aln l_PC_patch_18 rfl ?_
      refine s_gi l_PC_patch_19 h (fun v7 h => ?_)
      refine s_bp 8 l_PC_patch_22 rfl ?_
      refine s_ifc l_PC_patch_24 h (fun h => ?_) (fun h => ?_)
      · refine s_aln l_PC_patch_30 rfl ?_
        refine s_gr l_PC_patch_31 h (fun r8 h => ?_)
        refine s_aln l_PC_patch_34 rfl ?_
        refine s_gr l_PC_patch_35 h (fun r9 h => ?_)
        refine s_iln l_PC_patch_38 rfl ?_
        refine s_aal l_PC_patch_39 h (fun r10 h => ?_)
        refine s_aln l_PC_patch_40 rfl ?_
        refine s_gr l_PC_patch_41 h (fun r11 h => ?_)
        refine s_iln l_PC_patch_44 rfl ?_
        refine s_aal l_PC_patch_45 h (fun r12 h => ?_)
        refine s_aln l_PC_patch_46 rfl ?_
        refine s_gr l_PC_patch_47 h (fun r13 h => ?_)
        refine s_aln l_PC_patch_50 rfl ?_
        refine s_gi l_PC_patch_51 h (fun v14 h => ?_)
        refine s_aal l_PC_patch_54 h (fun r15 h => ?_)
        refine s_cvv (As := [.ref r10, .ref r12, .ref r15]) (r := []) l_PC_patch_55 rfl ⟨rfl, rfl⟩ rfl (Nat.le_of_ble_eq_true rfl) rfl ⟨Nat.zero_le _, Nat.zero_le _⟩ h (fun f17 h => ?_)
        refine s_aln l_PC_patch_58 rfl ?_
        refine s_cvi (As := []) (r := []) l_PC_patch_59 rfl ⟨rfl, rfl⟩ rfl (Nat.le_of_ble_eq_true rfl) rfl ⟨Nat.zero_le _, Nat.zero_le _⟩ h (fun v20 f19 h => ?_)
        exact s_iret l_PC_patch_62 rfl ⟨Nat.zero_le _, Nat.zero_le _⟩ h
      · refine s_bp (-3) l_PC_patch_27 rfl ?_
        exact s_iret l_PC_patch_29 rfl ⟨Nat.zero_le _, Nat.zero_le _⟩ h
    · refine s_ic (-1) l_PC_patch_16 rfl ?_
      exact s_iret l_PC_patch_17 rfl ⟨Nat.zero_le _, Nat.zero_le _⟩ h
theorem l_PC_keepPatch_0 : xlk (xm_cd m_PC_keepPatch) 0 = some (.aload_n 0, 1, (0, 0, 0, [])) := rfl
theorem l_PC_keepPatch_1 : xlk (xm_cd m_PC_keepPatch) 1 = some (.dup, 1, (0, 0, 0, [])) := rfl
theorem l_PC_keepPatch_2 : xlk (xm_cd m_PC_keepPatch) 2 = some (.getfield 60, 3, (269, 0, 8, [])) := rfl
theorem l_PC_keepPatch_5 : xlk (xm_cd m_PC_keepPatch) 5 = some (.iconst 1, 1, (0, 0, 0, [])) := rfl
theorem l_PC_keepPatch_6 : xlk (xm_cd m_PC_keepPatch) 6 = some (.iadd, 1, (0, 0, 0, [])) := rfl
theorem l_PC_keepPatch_7 : xlk (xm_cd m_PC_keepPatch) 7 = some (.putfield 60, 3, (269, 0, 8, [(0, 0)])) := rfl
theorem l_PC_keepPatch_10 : xlk (xm_cd m_PC_keepPatch) 10 = some (.aload_n 0, 1, (0, 0, 0, [])) := rfl
theorem l_PC_keepPatch_11 : xlk (xm_cd m_PC_keepPatch) 11 = some (.getfield 60, 3, (269, 0, 8, [])) := rfl
theorem l_PC_keepPatch_14 : xlk (xm_cd m_PC_keepPatch) 14 = some (.iconst 1, 1, (0, 0, 0, [])) := rfl
theorem l_PC_keepPatch_15 : xlk (xm_cd m_PC_keepPatch) 15 = some (.isub, 1, (0, 0, 0, [])) := rfl
theorem l_PC_keepPatch_16 : xlk (xm_cd m_PC_keepPatch) 16 = some (.ireturn, 1, (0, 0, 0, [])) := rfl
def B_PC_keepPatch_0 (d : Nat) (E : Option Value → xH → Prop) (f : xH) (a0 : Nat) : Prop :=
  xgi f a0 0 8 (fun v1 => xpf f a0 0 8 (.int (v1 + 1)) (fun f2 => xgi f2 a0 0 8 (fun v3 => E (some (.int (v3 - 1))) f2)))
theorem b_PC_keepPatch_0 {d : Nat} {E : Option Value → xH → Prop} {f : xH} {a0 : Nat} (h : B_PC_keepPatch_0 d E f a0) : xWp (xT0, xSp xT0 d, none, m_PC_keepPatch, E) 0 [some (.ref a0)] [] f 0 0 := by
  unfold B_PC_keepPatch_0 at h
  refine s_aln l_PC_keepPatch_0 rfl ?_
  refine s_dup l_PC_keepPatch_1 rfl ?_
  refine s_gi l_PC_keepPatch_2 h (fun v1 h => ?_)
  refine s_ic 1 l_PC_keepPatch_5 rfl ?_
  refine s_iadd l_PC_keepPatch_6 ?_
  refine s_pf l_PC_keepPatch_7 ⟨_, rfl⟩ h (fun f2 h => ?_)
  refine s_aln l_PC_keepPatch_10 rfl ?_
  refine s_gi l_PC_keepPatch_11 h (fun v3 h => ?_)
  refine s_ic 1 l_PC_keepPatch_14 rfl ?_
  refine s_isub l_PC_keepPatch_15 ?_
  exact s_iret l_PC_keepPatch_16 rfl ⟨Nat.zero_le _, Nat.zero_le _⟩ h
theorem l_PC_step_0 : xlk (xm_cd m_PC_step) 0 = some (.aload_n 0, 1, (0, 0, 0, [])) := rfl
theorem l_PC_step_1 : xlk (xm_cd m_PC_step) 1 = some (.iload_n 1, 1, (0, 0, 0, [])) := rfl
theorem l_PC_step_2 : xlk (xm_cd m_PC_step) 2 = some (.invokevirtual 134, 3, (549, 77, 1, [])) := rfl
theorem l_PC_step_5 : xlk (xm_cd m_PC_step) 5 = some (.ifCond .ne 5, 3, (0, 10, 0, [])) := rfl
theorem l_PC_step_8 : xlk (xm_cd m_PC_step) 8 = some (.iconst (-1), 1, (0, 0, 0, [])) := rfl
theorem l_PC_step_9 : xlk (xm_cd m_PC_step) 9 = some (.ireturn, 1, (0, 0, 0, [])) := rfl
theorem l_PC_step_10 : xlk (xm_cd m_PC_step) 10 = some (.iload_n 3, 1, (0, 0, 0, [])) := rfl
theorem l_PC_step_11 : xlk (xm_cd m_PC_step) 11 = some (.bipush 9, 2, (0, 0, 0, [])) := rfl
theorem l_PC_step_13 : xlk (xm_cd m_PC_step) 13 = some (.if_icmp .ne 13, 3, (0, 26, 0, [])) := rfl
theorem l_PC_step_16 : xlk (xm_cd m_PC_step) 16 = some (.aload_n 0, 1, (0, 0, 0, [])) := rfl
theorem l_PC_step_17 : xlk (xm_cd m_PC_step) 17 = some (.getfield 30, 3, (264, 0, 3, [])) := rfl
theorem l_PC_step_20 : xlk (xm_cd m_PC_step) 20 = some (.iload_n 1, 1, (0, 0, 0, [])) := rfl
theorem l_PC_step_21 : xlk (xm_cd m_PC_step) 21 = some (.aaload, 1, (0, 6, 0, [])) := rfl
theorem l_PC_step_22 : xlk (xm_cd m_PC_step) 22 = some (.invokevirtual 137, 3, (552, 78, 0, [])) := rfl
theorem l_PC_step_25 : xlk (xm_cd m_PC_step) 25 = some (.ireturn, 1, (0, 0, 0, [])) := rfl
theorem l_PC_step_26 : xlk (xm_cd m_PC_step) 26 = some (.aload_n 0, 1, (0, 0, 0, [])) := rfl
theorem l_PC_step_27 : xlk (xm_cd m_PC_step) 27 = some (.getfield 30, 3, (264, 0, 3, [])) := rfl
theorem l_PC_step_30 : xlk (xm_cd m_PC_step) 30 = some (.iload_n 1, 1, (0, 0, 0, [])) := rfl
theorem l_PC_step_31 : xlk (xm_cd m_PC_step) 31 = some (.aaload, 1, (0, 6, 0, [])) := rfl
theorem l_PC_step_32 : xlk (xm_cd m_PC_step) 32 = some (.iload_n 2, 1, (0, 0, 0, [])) := rfl
theorem l_PC_step_33 : xlk (xm_cd m_PC_step) 33 = some (.invokevirtual 138, 3, (556, 79, 1, [])) := rfl
theorem l_PC_step_36 : xlk (xm_cd m_PC_step) 36 = some (.ifCond .eq 20, 3, (0, 56, 0, [])) := rfl
theorem l_PC_step_39 : xlk (xm_cd m_PC_step) 39 = some (.aload_n 0, 1, (0, 0, 0, [])) := rfl
theorem l_PC_step_40 : xlk (xm_cd m_PC_step) 40 = some (.getfield 30, 3, (264, 0, 3, [])) := rfl
theorem l_PC_step_43 : xlk (xm_cd m_PC_step) 43 = some (.iload_n 1, 1, (0, 0, 0, [])) := rfl
theorem l_PC_step_44 : xlk (xm_cd m_PC_step) 44 = some (.aaload, 1, (0, 6, 0, [])) := rfl
theorem l_PC_step_45 : xlk (xm_cd m_PC_step) 45 = some (.iload_n 2, 1, (0, 0, 0, [])) := rfl
theorem l_PC_step_46 : xlk (xm_cd m_PC_step) 46 = some (.invokevirtual 139, 3, (560, 80, 1, [])) := rfl
theorem l_PC_step_49 : xlk (xm_cd m_PC_step) 49 = some (.iload_n 3, 1, (0, 0, 0, [])) := rfl
theorem l_PC_step_50 : xlk (xm_cd m_PC_step) 50 = some (.invokevirtual 142, 3, (565, 81, 1, [])) := rfl
theorem l_PC_step_53 : xlk (xm_cd m_PC_step) 53 = some (.goto 4, 3, (0, 57, 0, [])) := rfl
theorem l_PC_step_56 : xlk (xm_cd m_PC_step) 56 = some (.iconst (-1), 1, (0, 0, 0, [])) := rfl
theorem l_PC_step_57 : xlk (xm_cd m_PC_step) 57 = some (.ireturn, 1, (0, 0, 0, [])) := rfl
def B_PC_step_0 (d : Nat) (E : Option Value → xH → Prop) (f : xH) (a0 : Nat) (x1 : Int32) (x2 : Int32) (x3 : Int32) : Prop :=
  (∃ fs, f a0 = some (xO 0 fs)) ∧ xSp xT0 d j_PC_isPatch [.ref a0, .int x1] f (fun w1 f2 => xvi w1 (fun v3 => xbr (¬ v3 = 0) (xbr (¬ x3 = 9) (xgr f2 a0 0 3 (fun r4 => xrl f2 r4 6 x1 (fun r5 => (∃ fs, f2 r5 = some (xO 5 fs)) ∧ xSp xT0 d j_Pa_has [.ref r5, .int x2] f2 (fun w6 f7 => xvi w6 (fun v8 => xbr (v8 = 0) (E (some (.int (-1))) f7) (xgr f7 a0 0 3 (fun r9 => xrl f7 r9 6 x1 (fun r10 => (∃ fs, f7 r10 = some (xO 5 fs)) ∧ xSp xT0 d j_Pa_at [.ref r10, .int x2] f7 (fun w11 f12 => xvr w11 (fun r13 => (∃ fs, f12 r13 = some (xO 4 fs)) ∧ xSp xT0 d j_St_tell [.ref r13, .int x3] f12 (fun w14 f15 => xvi w14 (fun v16 => E (some (.int v16)) f15)))))))))))) (xgr f2 a0 0 3 (fun r17 => xrl f2 r17 6 x1 (fun r18 => (∃ fs, f2 r18 = some (xO 5 fs)) ∧ xSp xT0 d j_Pa_size [.ref r18] f2 (fun w19 f20 => xvi w19 (fun v21 => E (some (.int v21)) f20)))))) (E (some (.int (-1))) f2)))
theorem b_PC_step_0 {d : Nat} {E : Option Value → xH → Prop} {f : xH} {a0 : Nat} {x1 : Int32} {x2 : Int32} {x3 : Int32} (h : B_PC_step_0 d E f a0 x1 x2 x3) : xWp (xT0, xSp xT0 d, none, m_PC_step, E) 0 [some (.ref a0), some (.int x1), some (.int x2), some (.int x3)] [] f 0 0 := by
  unfold B_PC_step_0 at h
  refine s_aln l_PC_step_0 rfl ?_
  refine s_iln l_PC_step_1 rfl ?_
  refine s_cvi (As := [.int x1]) (r := []) l_PC_step_2 rfl ⟨rfl, rfl⟩ rfl (Nat.le_of_ble_eq_true rfl) rfl ⟨Nat.zero_le _, Nat.zero_le _⟩ h (fun v3 f2 h => ?_)
  refine s_if l_PC_step_5 h (fun h => ?_) (fun h => ?_)
  · refine s_iln l_PC_step_10 rfl ?_
    refine s_bp 9 l_PC_step_11 rfl ?_
    refine s_ifc l_PC_step_13 h (fun h => ?_) (fun h => ?_)
    · refine s_aln l_PC_step_26 rfl ?_
      refine s_gr l_PC_step_27 h (fun r4 h => ?_)
      refine s_iln l_PC_step_30 rfl ?_
      refine s_aal l_PC_step_31 h (fun r5 h => ?_)
      refine s_iln l_PC_step_32 rfl ?_
      refine s_cvi (As := [.int x2]) (r := []) l_PC_step_33 rfl ⟨rfl, rfl⟩ rfl (Nat.le_of_ble_eq_true rfl) rfl ⟨Nat.zero_le _, Nat.zero_le _⟩ h (fun v8 f7 h => ?_)
      refine s_if l_PC_step_36 h (fun h => ?_) (fun h => ?_)
      · refine s_ic (-1) l_PC_step_56 rfl ?_
        exact s_iret l_PC_step_57 rfl ⟨Nat.zero_le _, Nat.zero_le _⟩ h
      · refine s_aln l_PC_step_39 rfl ?_
        refine s_gr l_PC_step_40 h (fun r9 h => ?_)
        refine s_iln l_PC_step_43 rfl ?_
        refine s_aal l_PC_step_44 h (fun r10 h => ?_)
        refine s_iln l_PC_step_45 rfl ?_
        refine s_cvr (As := [.int x2]) (r := []) l_PC_step_46 rfl ⟨rfl, rfl⟩ rfl (Nat.le_of_ble_eq_true rfl) rfl ⟨Nat.zero_le _, Nat.zero_le _⟩ h (fun r13 f12 h => ?_)
        refine s_iln l_PC_step_49 rfl ?_
        refine s_cvi (As := [.int x3]) (r := []) l_PC_step_50 rfl ⟨rfl, rfl⟩ rfl (Nat.le_of_ble_eq_true rfl) rfl ⟨Nat.zero_le _, Nat.zero_le _⟩ h (fun v16 f15 h => ?_)
        refine s_goto l_PC_step_53 ?_
        exact s_iret l_PC_step_57 rfl ⟨Nat.zero_le _, Nat.zero_le _⟩ h
    · refine s_aln l_PC_step_16 rfl ?_
      refine s_gr l_PC_step_17 h (fun r17 h => ?_)
      refine s_iln l_PC_step_20 rfl ?_
      refine s_aal l_PC_step_21 h (fun r18 h => ?_)
      refine s_cvi (As := []) (r := []) l_PC_step_22 rfl ⟨rfl, rfl⟩ rfl (Nat.le_of_ble_eq_true rfl) rfl ⟨Nat.zero_le _, Nat.zero_le _⟩ h (fun v21 f20 h => ?_)
      exact s_iret l_PC_step_25 rfl ⟨Nat.zero_le _, Nat.zero_le _⟩ h
  · refine s_ic (-1) l_PC_step_8 rfl ?_
    exact s_iret l_PC_step_9 rfl ⟨Nat.zero_le _, Nat.zero_le _⟩ h
theorem l_PC_isPatch_0 : xlk (xm_cd m_PC_isPatch) 0 = some (.iload_n 1, 1, (0, 0, 0, [])) := rfl
theorem l_PC_isPatch_1 : xlk (xm_cd m_PC_isPatch) 1 = some (.ifCond .lt 15, 3, (0, 16, 0, [])) := rfl
theorem l_PC_isPatch_4 : xlk (xm_cd m_PC_isPatch) 4 = some (.iload_n 1, 1, (0, 0, 0, [])) := rfl
theorem l_PC_isPatch_5 : xlk (xm_cd m_PC_isPatch) 5 = some (.aload_n 0, 1, (0, 0, 0, [])) := rfl
theorem l_PC_isPatch_6 : xlk (xm_cd m_PC_isPatch) 6 = some (.getfield 60, 3, (269, 0, 8, [])) := rfl
theorem l_PC_isPatch_9 : xlk (xm_cd m_PC_isPatch) 9 = some (.if_icmp .ge 7, 3, (0, 16, 0, [])) := rfl
theorem l_PC_isPatch_12 : xlk (xm_cd m_PC_isPatch) 12 = some (.iconst 1, 1, (0, 0, 0, [])) := rfl
theorem l_PC_isPatch_13 : xlk (xm_cd m_PC_isPatch) 13 = some (.goto 4, 3, (0, 17, 0, [])) := rfl
theorem l_PC_isPatch_16 : xlk (xm_cd m_PC_isPatch) 16 = some (.iconst 0, 1, (0, 0, 0, [])) := rfl
theorem l_PC_isPatch_17 : xlk (xm_cd m_PC_isPatch) 17 = some (.ireturn, 1, (0, 0, 0, [])) := rfl
def B_PC_isPatch_0 (d : Nat) (E : Option Value → xH → Prop) (f : xH) (a0 : Nat) (x1 : Int32) : Prop :=
  xbr (x1 < 0) (E (some (.int 0)) f) (xgi f a0 0 8 (fun v1 => xbr (v1 ≤ x1) (E (some (.int 0)) f) (E (some (.int 1)) f)))
theorem b_PC_isPatch_0 {d : Nat} {E : Option Value → xH → Prop} {f : xH} {a0 : Nat} {x1 : Int32} (h : B_PC_isPatch_0 d E f a0 x1) : xWp (xT0, xSp xT0 d, none, m_PC_isPatch, E) 0 [some (.ref a0), some (.int x1)] [] f 0 0 := by
  unfold B_PC_isPatch_0 at h
  refine s_iln l_PC_isPatch_0 rfl ?_
  refine s_if l_PC_isPatch_1 h (fun h => ?_) (fun h => ?_)
  · refine s_ic 0 l_PC_isPatch_16 rfl ?_
    exact s_zret l_PC_isPatch_17 rfl ⟨Nat.zero_le _, Nat.zero_le _⟩ ⟨Or.inl rfl, h⟩
  · refine s_iln l_PC_isPatch_4 rfl ?_
    refine s_aln l_PC_isPatch_5 rfl ?_
    refine s_gi l_PC_isPatch_6 h (fun v1 h => ?_)
    refine s_ifc l_PC_isPatch_9 h (fun h => ?_) (fun h => ?_)
    · refine s_ic 0 l_PC_isPatch_16 rfl ?_
      exact s_zret l_PC_isPatch_17 rfl ⟨Nat.zero_le _, Nat.zero_le _⟩ ⟨Or.inl rfl, h⟩
    · refine s_ic 1 l_PC_isPatch_12 rfl ?_
      refine s_goto l_PC_isPatch_13 ?_
      exact s_zret l_PC_isPatch_17 rfl ⟨Nat.zero_le _, Nat.zero_le _⟩ ⟨Or.inr rfl, h⟩
theorem l_PC_stepByte_0 : xlk (xm_cd m_PC_stepByte) 0 = some (.aload_n 0, 1, (0, 0, 0, [])) := rfl
theorem l_PC_stepByte_1 : xlk (xm_cd m_PC_stepByte) 1 = some (.iload_n 1, 1, (0, 0, 0, [])) := rfl
theorem l_PC_stepByte_2 : xlk (xm_cd m_PC_stepByte) 2 = some (.invokevirtual 134, 3, (549, 77, 1, [])) := rfl
theorem l_PC_stepByte_5 : xlk (xm_cd m_PC_stepByte) 5 = some (.ifCond .eq 16, 3, (0, 21, 0, [])) := rfl
theorem l_PC_stepByte_8 : xlk (xm_cd m_PC_stepByte) 8 = some (.aload_n 0, 1, (0, 0, 0, [])) := rfl
theorem l_PC_stepByte_9 : xlk (xm_cd m_PC_stepByte) 9 = some (.getfield 30, 3, (264, 0, 3, [])) := rfl
theorem l_PC_stepByte_12 : xlk (xm_cd m_PC_stepByte) 12 = some (.iload_n 1, 1, (0, 0, 0, [])) := rfl
theorem l_PC_stepByte_13 : xlk (xm_cd m_PC_stepByte) 13 = some (.aaload, 1, (0, 6, 0, [])) := rfl
theorem l_PC_stepByte_14 : xlk (xm_cd m_PC_stepByte) 14 = some (.iload_n 2, 1, (0, 0, 0, [])) := rfl
theorem l_PC_stepByte_15 : xlk (xm_cd m_PC_stepByte) 15 = some (.invokevirtual 138, 3, (556, 79, 1, [])) := rfl
theorem l_PC_stepByte_18 : xlk (xm_cd m_PC_stepByte) 18 = some (.ifCond .ne 5, 3, (0, 23, 0, [])) := rfl
theorem l_PC_stepByte_21 : xlk (xm_cd m_PC_stepByte) 21 = some (.iconst (-1), 1, (0, 0, 0, [])) := rfl
theorem l_PC_stepByte_22 : xlk (xm_cd m_PC_stepByte) 22 = some (.ireturn, 1, (0, 0, 0, [])) := rfl
theorem l_PC_stepByte_23 : xlk (xm_cd m_PC_stepByte) 23 = some (.iload_n 3, 1, (0, 0, 0, [])) := rfl
theorem l_PC_stepByte_24 : xlk (xm_cd m_PC_stepByte) 24 = some (.lookupswitch 66 #[(0, 28), (1, 47)], 28, (0, 90, 0, [(0, 52), (1, 71)])) := rfl
theorem l_PC_stepByte_52 : xlk (xm_cd m_PC_stepByte) 52 = some (.aload_n 0, 1, (0, 0, 0, [])) := rfl
theorem l_PC_stepByte_53 : xlk (xm_cd m_PC_stepByte) 53 = some (.getfield 30, 3, (264, 0, 3, [])) := rfl
theorem l_PC_stepByte_56 : xlk (xm_cd m_PC_stepByte) 56 = some (.iload_n 1, 1, (0, 0, 0, [])) := rfl
theorem l_PC_stepByte_57 : xlk (xm_cd m_PC_stepByte) 57 = some (.aaload, 1, (0, 6, 0, [])) := rfl
theorem l_PC_stepByte_58 : xlk (xm_cd m_PC_stepByte) 58 = some (.iload_n 2, 1, (0, 0, 0, [])) := rfl
theorem l_PC_stepByte_59 : xlk (xm_cd m_PC_stepByte) 59 = some (.invokevirtual 139, 3, (560, 80, 1, [])) := rfl
theorem l_PC_stepByte_62 : xlk (xm_cd m_PC_stepByte) 62 = some (.getfield 147, 3, (0, 4, 0, [])) := rfl
theorem l_PC_stepByte_65 : xlk (xm_cd m_PC_stepByte) 65 = some (.iload 4, 2, (0, 0, 0, [])) := rfl
theorem l_PC_stepByte_67 : xlk (xm_cd m_PC_stepByte) 67 = some (.invokevirtual 119, 3, (411, 43, 1, [])) := rfl
theorem l_PC_stepByte_70 : xlk (xm_cd m_PC_stepByte) 70 = some (.ireturn, 1, (0, 0, 0, [])) := rfl
theorem l_PC_stepByte_71 : xlk (xm_cd m_PC_stepByte) 71 = some (.aload_n 0, 1, (0, 0, 0, [])) := rfl
theorem l_PC_stepByte_72 : xlk (xm_cd m_PC_stepByte) 72 = some (.getfield 30, 3, (264, 0, 3, [])) := rfl
theorem l_PC_stepByte_75 : xlk (xm_cd m_PC_stepByte) 75 = some (.iload_n 1, 1, (0, 0, 0, [])) := rfl
theorem l_PC_stepByte_76 : xlk (xm_cd m_PC_stepByte) 76 = some (.aaload, 1, (0, 6, 0, [])) := rfl
theorem l_PC_stepByte_77 : xlk (xm_cd m_PC_stepByte) 77 = some (.iload_n 2, 1, (0, 0, 0, [])) := rfl
theorem l_PC_stepByte_78 : xlk (xm_cd m_PC_stepByte) 78 = some (.invokevirtual 139, 3, (560, 80, 1, [])) := rfl
theorem l_PC_stepByte_81 : xlk (xm_cd m_PC_stepByte) 81 = some (.getfield 150, 3, (0, 4, 1, [])) := rfl
theorem l_PC_stepByte_84 : xlk (xm_cd m_PC_stepByte) 84 = some (.iload 4, 2, (0, 0, 0, [])) := rfl
theorem l_PC_stepByte_86 : xlk (xm_cd m_PC_stepByte) 86 = some (.invokevirtual 119, 3, (411, 43, 1, [])) := rfl
theorem l_PC_stepByte_89 : xlk (xm_cd m_PC_stepByte) 89 = some (.ireturn, 1, (0, 0, 0, [])) := rfl
theorem l_PC_stepByte_90 : xlk (xm_cd m_PC_stepByte) 90 = some (.iconst (-1), 1, (0, 0, 0, [])) := rfl
theorem l_PC_stepByte_91 : xlk (xm_cd m_PC_stepByte) 91 = some (.ireturn, 1, (0, 0, 0, [])) := rfl
def B_PC_stepByte_0 (d : Nat) (E : Option Value → xH → Prop) (f : xH) (a0 : Nat) (x1 : Int32) (x2 : Int32) (x3 : Int32) (x4 : Int32) : Prop :=
  (∃ fs, f a0 = some (xO 0 fs)) ∧ xSp xT0 d j_PC_isPatch [.ref a0, .int x1] f (fun w1 f2 => xvi w1 (fun v3 => xbr (v3 = 0) (E (some (.int (-1))) f2) (xgr f2 a0 0 3 (fun r4 => xrl f2 r4 6 x1 (fun r5 => (∃ fs, f2 r5 = some (xO 5 fs)) ∧ xSp xT0 d j_Pa_has [.ref r5, .int x2] f2 (fun w6 f7 => xvi w6 (fun v8 => xbr (¬ v8 = 0) (xbr (x3 = 0) (xgr f7 a0 0 3 (fun r9 => xrl f7 r9 6 x1 (fun r10 => (∃ fs, f7 r10 = some (xO 5 fs)) ∧ xSp xT0 d j_Pa_at [.ref r10, .int x2] f7 (fun w11 f12 => xvr w11 (fun r13 => xgr f12 r13 4 0 (fun r14 => (∃ fs, f12 r14 = some (xO 1 fs)) ∧ xSp xT0 d j_By_at [.ref r14, .int x4] f12 (fun w15 f16 => xvi w15 (fun v17 => E (some (.int v17)) f16)))))))) (xbr (x3 = 1) (xgr f7 a0 0 3 (fun r18 => xrl f7 r18 6 x1 (fun r19 => (∃ fs, f7 r19 = some (xO 5 fs)) ∧ xSp xT0 d j_Pa_at [.ref r19, .int x2] f7 (fun w20 f21 => xvr w20 (fun r22 => xgr f21 r22 4 1 (fun r23 => (∃ fs, f21 r23 = some (xO 1 fs)) ∧ xSp xT0 d j_By_at [.ref r23, .int x4] f21 (fun w24 f25 => xvi w24 (fun v26 => E (some (.int v26)) f25)))))))) (E (some (.int (-1))) f7))) (E (some (.int (-1))) f7))))))))
theorem b_PC_stepByte_0 {d : Nat} {E : Option Value → xH → Prop} {f : xH} {a0 : Nat} {x1 : Int32} {x2 : Int32} {x3 : Int32} {x4 : Int32} (h : B_PC_stepByte_0 d E f a0 x1 x2 x3 x4) : xWp (xT0, xSp xT0 d, none, m_PC_stepByte, E) 0 [some (.ref a0), some (.int x1), some (.int x2), some (.int x3), some (.int x4)] [] f 0 0 := by
  unfold B_PC_stepByte_0 at h
  refine s_aln l_PC_stepByte_0 rfl ?_
  refine s_iln l_PC_stepByte_1 rfl ?_
  refine s_cvi (As := [.int x1]) (r := []) l_PC_stepByte_2 rfl ⟨rfl, rfl⟩ rfl (Nat.le_of_ble_eq_true rfl) rfl ⟨Nat.zero_le _, Nat.zero_le _⟩ h (fun v3 f2 h => ?_)
  refine s_if l_PC_stepByte_5 h (fun h => ?_) (fun h => ?_)
  · refine s_ic (-1) l_PC_stepByte_21 rfl ?_
    exact s_iret l_PC_stepByte_22 rfl ⟨Nat.zero_le _, Nat.zero_le _⟩ h
  · refine s_aln l_PC_stepByte_8 rfl ?_
    refine s_gr l_PC_stepByte_9 h (fun r4 h => ?_)
    refine s_iln l_PC_stepByte_12 rfl ?_
    refine s_aal l_PC_stepByte_13 h (fun r5 h => ?_)
    refine s_iln l_PC_stepByte_14 rfl ?_
    refine s_cvi (As := [.int x2]) (r := []) l_PC_stepByte_15 rfl ⟨rfl, rfl⟩ rfl (Nat.le_of_ble_eq_true rfl) rfl ⟨Nat.zero_le _, Nat.zero_le _⟩ h (fun v8 f7 h => ?_)
    refine s_if l_PC_stepByte_18 h (fun h => ?_) (fun h => ?_)
    · refine s_iln l_PC_stepByte_23 rfl ?_
      refine s_ls l_PC_stepByte_24 ⟨fun q0 => ?_, fun n0 => ⟨fun q1 => ?_, fun n1 => ?_⟩⟩
      · have h := (h).1 q0
        refine s_aln l_PC_stepByte_52 rfl ?_
        refine s_gr l_PC_stepByte_53 h (fun r9 h => ?_)
        refine s_iln l_PC_stepByte_56 rfl ?_
        refine s_aal l_PC_stepByte_57 h (fun r10 h => ?_)
        refine s_iln l_PC_stepByte_58 rfl ?_
        refine s_cvr (As := [.int x2]) (r := []) l_PC_stepByte_59 rfl ⟨rfl, rfl⟩ rfl (Nat.le_of_ble_eq_true rfl) rfl ⟨Nat.zero_le _, Nat.zero_le _⟩ h (fun r13 f12 h => ?_)
        refine s_gr l_PC_stepByte_62 h (fun r14 h => ?_)
        refine s_il l_PC_stepByte_65 rfl ?_
        refine s_cvi (As := [.int x4]) (r := []) l_PC_stepByte_67 rfl ⟨rfl, rfl⟩ rfl (Nat.le_of_ble_eq_true rfl) rfl ⟨Nat.zero_le _, Nat.zero_le _⟩ h (fun v17 f16 h => ?_)
        exact s_iret l_PC_stepByte_70 rfl ⟨Nat.zero_le _, Nat.zero_le _⟩ h
      · have h := ((h).2 n0).1 q1
        refine s_aln l_PC_stepByte_71 rfl ?_
        refine s_gr l_PC_stepByte_72 h (fun r18 h => ?_)
        refine s_iln l_PC_stepByte_75 rfl ?_
        refine s_aal l_PC_stepByte_76 h (fun r19 h => ?_)
        refine s_iln l_PC_stepByte_77 rfl ?_
        refine s_cvr (As := [.int x2]) (r := []) l_PC_stepByte_78 rfl ⟨rfl, rfl⟩ rfl (Nat.le_of_ble_eq_true rfl) rfl ⟨Nat.zero_le _, Nat.zero_le _⟩ h (fun r22 f21 h => ?_)
        refine s_gr l_PC_stepByte_81 h (fun r23 h => ?_)
        refine s_il l_PC_stepByte_84 rfl ?_
        refine s_cvi (As := [.int x4]) (r := []) l_PC_stepByte_86 rfl ⟨rfl, rfl⟩ rfl (Nat.le_of_ble_eq_true rfl) rfl ⟨Nat.zero_le _, Nat.zero_le _⟩ h (fun v26 f25 h => ?_)
        exact s_iret l_PC_stepByte_89 rfl ⟨Nat.zero_le _, Nat.zero_le _⟩ h
      · have h := ((h).2 n0).2 n1
        refine s_ic (-1) l_PC_stepByte_90 rfl ?_
        exact s_iret l_PC_stepByte_91 rfl ⟨Nat.zero_le _, Nat.zero_le _⟩ h
    · refine s_ic (-1) l_PC_stepByte_21 rfl ?_
      exact s_iret l_PC_stepByte_22 rfl ⟨Nat.zero_le _, Nat.zero_le _⟩ h
theorem l_PC_piece_0 : xlk (xm_cd m_PC_piece) 0 = some (.aload_n 0, 1, (0, 0, 0, [])) := rfl
theorem l_PC_piece_1 : xlk (xm_cd m_PC_piece) 1 = some (.iload_n 1, 1, (0, 0, 0, [])) := rfl
theorem l_PC_piece_2 : xlk (xm_cd m_PC_piece) 2 = some (.invokevirtual 134, 3, (549, 77, 1, [])) := rfl
theorem l_PC_piece_5 : xlk (xm_cd m_PC_piece) 5 = some (.ifCond .eq 16, 3, (0, 21, 0, [])) := rfl
theorem l_PC_piece_8 : xlk (xm_cd m_PC_piece) 8 = some (.aload_n 0, 1, (0, 0, 0, [])) := rfl
theorem l_PC_piece_9 : xlk (xm_cd m_PC_piece) 9 = some (.getfield 30, 3, (264, 0, 3, [])) := rfl
theorem l_PC_piece_12 : xlk (xm_cd m_PC_piece) 12 = some (.iload_n 1, 1, (0, 0, 0, [])) := rfl
theorem l_PC_piece_13 : xlk (xm_cd m_PC_piece) 13 = some (.aaload, 1, (0, 6, 0, [])) := rfl
theorem l_PC_piece_14 : xlk (xm_cd m_PC_piece) 14 = some (.iload_n 2, 1, (0, 0, 0, [])) := rfl
theorem l_PC_piece_15 : xlk (xm_cd m_PC_piece) 15 = some (.invokevirtual 138, 3, (556, 79, 1, [])) := rfl
theorem l_PC_piece_18 : xlk (xm_cd m_PC_piece) 18 = some (.ifCond .ne 5, 3, (0, 23, 0, [])) := rfl
theorem l_PC_piece_21 : xlk (xm_cd m_PC_piece) 21 = some (.iconst (-1), 1, (0, 0, 0, [])) := rfl
theorem l_PC_piece_22 : xlk (xm_cd m_PC_piece) 22 = some (.ireturn, 1, (0, 0, 0, [])) := rfl
theorem l_PC_piece_23 : xlk (xm_cd m_PC_piece) 23 = some (.iload_n 3, 1, (0, 0, 0, [])) := rfl
theorem l_PC_piece_24 : xlk (xm_cd m_PC_piece) 24 = some (.lookupswitch 70 #[(0, 28), (1, 49)], 28, (0, 94, 0, [(0, 52), (1, 73)])) := rfl
theorem l_PC_piece_52 : xlk (xm_cd m_PC_piece) 52 = some (.aload_n 0, 1, (0, 0, 0, [])) := rfl
theorem l_PC_piece_53 : xlk (xm_cd m_PC_piece) 53 = some (.getfield 30, 3, (264, 0, 3, [])) := rfl
theorem l_PC_piece_56 : xlk (xm_cd m_PC_piece) 56 = some (.iload_n 1, 1, (0, 0, 0, [])) := rfl
theorem l_PC_piece_57 : xlk (xm_cd m_PC_piece) 57 = some (.aaload, 1, (0, 6, 0, [])) := rfl
theorem l_PC_piece_58 : xlk (xm_cd m_PC_piece) 58 = some (.iload_n 2, 1, (0, 0, 0, [])) := rfl
theorem l_PC_piece_59 : xlk (xm_cd m_PC_piece) 59 = some (.invokevirtual 139, 3, (560, 80, 1, [])) := rfl
theorem l_PC_piece_62 : xlk (xm_cd m_PC_piece) 62 = some (.getfield 153, 3, (0, 4, 2, [])) := rfl
theorem l_PC_piece_65 : xlk (xm_cd m_PC_piece) 65 = some (.iload 4, 2, (0, 0, 0, [])) := rfl
theorem l_PC_piece_67 : xlk (xm_cd m_PC_piece) 67 = some (.iload 5, 2, (0, 0, 0, [])) := rfl
theorem l_PC_piece_69 : xlk (xm_cd m_PC_piece) 69 = some (.invokevirtual 157, 3, (584, 86, 2, [])) := rfl
theorem l_PC_piece_72 : xlk (xm_cd m_PC_piece) 72 = some (.ireturn, 1, (0, 0, 0, [])) := rfl
theorem l_PC_piece_73 : xlk (xm_cd m_PC_piece) 73 = some (.aload_n 0, 1, (0, 0, 0, [])) := rfl
theorem l_PC_piece_74 : xlk (xm_cd m_PC_piece) 74 = some (.getfield 30, 3, (264, 0, 3, [])) := rfl
theorem l_PC_piece_77 : xlk (xm_cd m_PC_piece) 77 = some (.iload_n 1, 1, (0, 0, 0, [])) := rfl
theorem l_PC_piece_78 : xlk (xm_cd m_PC_piece) 78 = some (.aaload, 1, (0, 6, 0, [])) := rfl
theorem l_PC_piece_79 : xlk (xm_cd m_PC_piece) 79 = some (.iload_n 2, 1, (0, 0, 0, [])) := rfl
theorem l_PC_piece_80 : xlk (xm_cd m_PC_piece) 80 = some (.invokevirtual 139, 3, (560, 80, 1, [])) := rfl
theorem l_PC_piece_83 : xlk (xm_cd m_PC_piece) 83 = some (.getfield 163, 3, (0, 4, 3, [])) := rfl
theorem l_PC_piece_86 : xlk (xm_cd m_PC_piece) 86 = some (.iload 4, 2, (0, 0, 0, [])) := rfl
theorem l_PC_piece_88 : xlk (xm_cd m_PC_piece) 88 = some (.iload 5, 2, (0, 0, 0, [])) := rfl
theorem l_PC_piece_90 : xlk (xm_cd m_PC_piece) 90 = some (.invokevirtual 157, 3, (584, 86, 2, [])) := rfl
theorem l_PC_piece_93 : xlk (xm_cd m_PC_piece) 93 = some (.ireturn, 1, (0, 0, 0, [])) := rfl
theorem l_PC_piece_94 : xlk (xm_cd m_PC_piece) 94 = some (.iconst (-1), 1, (0, 0, 0, [])) := rfl
theorem l_PC_piece_95 : xlk (xm_cd m_PC_piece) 95 = some (.ireturn, 1, (0, 0, 0, [])) := rfl
def B_PC_piece_0 (d : Nat) (E : Option Value → xH → Prop) (f : xH) (a0 : Nat) (x1 : Int32) (x2 : Int32) (x3 : Int32) (x4 : Int32) (x5 : Int32) : Prop :=
  (∃ fs, f a0 = some (xO 0 fs)) ∧ xSp xT0 d j_PC_isPatch [.ref a0, .int x1] f (fun w1 f2 => xvi w1 (fun v3 => xbr (v3 = 0) (E (some (.int (-1))) f2) (xgr f2 a0 0 3 (fun r4 => xrl f2 r4 6 x1 (fun r5 => (∃ fs, f2 r5 = some (xO 5 fs)) ∧ xSp xT0 d j_Pa_has [.ref r5, .int x2] f2 (fun w6 f7 => xvi w6 (fun v8 => xbr (¬ v8 = 0) (xbr (x3 = 0) (xgr f7 a0 0 3 (fun r9 => xrl f7 r9 6 x1 (fun r10 => (∃ fs, f7 r10 = some (xO 5 fs)) ∧ xSp xT0 d j_Pa_at [.ref r10, .int x2] f7 (fun w11 f12 => xvr w11 (fun r13 => xgr f12 r13 4 2 (fun r14 => (∃ fs, f12 r14 = some (xO 3 fs)) ∧ xSp xT0 d j_De_tellPiece [.ref r14, .int x4, .int x5] f12 (fun w15 f16 => xvi w15 (fun v17 => E (some (.int v17)) f16)))))))) (xbr (x3 = 1) (xgr f7 a0 0 3 (fun r18 => xrl f7 r18 6 x1 (fun r19 => (∃ fs, f7 r19 = some (xO 5 fs)) ∧ xSp xT0 d j_Pa_at [.ref r19, .int x2] f7 (fun w20 f21 => xvr w20 (fun r22 => xgr f21 r22 4 3 (fun r23 => (∃ fs, f21 r23 = some (xO 3 fs)) ∧ xSp xT0 d j_De_tellPiece [.ref r23, .int x4, .int x5] f21 (fun w24 f25 => xvi w24 (fun v26 => E (some (.int v26)) f25)))))))) (E (some (.int (-1))) f7))) (E (some (.int (-1))) f7))))))))
theorem b_PC_piece_0 {d : Nat} {E : Option Value → xH → Prop} {f : xH} {a0 : Nat} {x1 : Int32} {x2 : Int32} {x3 : Int32} {x4 : Int32} {x5 : Int32} (h : B_PC_piece_0 d E f a0 x1 x2 x3 x4 x5) : xWp (xT0, xSp xT0 d, none, m_PC_piece, E) 0 [some (.ref a0), some (.int x1), some (.int x2), some (.int x3), some (.int x4), some (.int x5)] [] f 0 0 := by
  unfold B_PC_piece_0 at h
  refine s_aln l_PC_piece_0 rfl ?_
  refine s_iln l_PC_piece_1 rfl ?_
  refine s_cvi (As := [.int x1]) (r := []) l_PC_piece_2 rfl ⟨rfl, rfl⟩ rfl (Nat.le_of_ble_eq_true rfl) rfl ⟨Nat.zero_le _, Nat.zero_le _⟩ h (fun v3 f2 h => ?_)
  refine s_if l_PC_piece_5 h (fun h => ?_) (fun h => ?_)
  · refine s_ic (-1) l_PC_piece_21 rfl ?_
    exact s_iret l_PC_piece_22 rfl ⟨Nat.zero_le _, Nat.zero_le _⟩ h
  · refine s_aln l_PC_piece_8 rfl ?_
    refine s_gr l_PC_piece_9 h (fun r4 h => ?_)
    refine s_iln l_PC_piece_12 rfl ?_
    refine s_aal l_PC_piece_13 h (fun r5 h => ?_)
    refine s_iln l_PC_piece_14 rfl ?_
    refine s_cvi (As := [.int x2]) (r := []) l_PC_piece_15 rfl ⟨rfl, rfl⟩ rfl (Nat.le_of_ble_eq_true rfl) rfl ⟨Nat.zero_le _, Nat.zero_le _⟩ h (fun v8 f7 h => ?_)
    refine s_if l_PC_piece_18 h (fun h => ?_) (fun h => ?_)
    · refine s_iln l_PC_piece_23 rfl ?_
      refine s_ls l_PC_piece_24 ⟨fun q0 => ?_, fun n0 => ⟨fun q1 => ?_, fun n1 => ?_⟩⟩
      · have h := (h).1 q0
        refine s_aln l_PC_piece_52 rfl ?_
        refine s_gr l_PC_piece_53 h (fun r9 h => ?_)
        refine s_iln l_PC_piece_56 rfl ?_
        refine s_aal l_PC_piece_57 h (fun r10 h => ?_)
        refine s_iln l_PC_piece_58 rfl ?_
        refine s_cvr (As := [.int x2]) (r := []) l_PC_piece_59 rfl ⟨rfl, rfl⟩ rfl (Nat.le_of_ble_eq_true rfl) rfl ⟨Nat.zero_le _, Nat.zero_le _⟩ h (fun r13 f12 h => ?_)
        refine s_gr l_PC_piece_62 h (fun r14 h => ?_)
        refine s_il l_PC_piece_65 rfl ?_
        refine s_il l_PC_piece_67 rfl ?_
        refine s_cvi (As := [.int x4, .int x5]) (r := []) l_PC_piece_69 rfl ⟨rfl, rfl⟩ rfl (Nat.le_of_ble_eq_true rfl) rfl ⟨Nat.zero_le _, Nat.zero_le _⟩ h (fun v17 f16 h => ?_)
        exact s_iret l_PC_piece_72 rfl ⟨Nat.zero_le _, Nat.zero_le _⟩ h
      · have h := ((h).2 n0).1 q1
        refine s_aln l_PC_piece_73 rfl ?_
        refine s_gr l_PC_piece_74 h (fun r18 h => ?_)
        refine s_iln l_PC_piece_77 rfl ?_
        refine s_aal l_PC_piece_78 h (fun r19 h => ?_)
        refine s_iln l_PC_piece_79 rfl ?_
        refine s_cvr (As := [.int x2]) (r := []) l_PC_piece_80 rfl ⟨rfl, rfl⟩ rfl (Nat.le_of_ble_eq_true rfl) rfl ⟨Nat.zero_le _, Nat.zero_le _⟩ h (fun r22 f21 h => ?_)
        refine s_gr l_PC_piece_83 h (fun r23 h => ?_)
        refine s_il l_PC_piece_86 rfl ?_
        refine s_il l_PC_piece_88 rfl ?_
        refine s_cvi (As := [.int x4, .int x5]) (r := []) l_PC_piece_90 rfl ⟨rfl, rfl⟩ rfl (Nat.le_of_ble_eq_true rfl) rfl ⟨Nat.zero_le _, Nat.zero_le _⟩ h (fun v26 f25 h => ?_)
        exact s_iret l_PC_piece_93 rfl ⟨Nat.zero_le _, Nat.zero_le _⟩ h
      · have h := ((h).2 n0).2 n1
        refine s_ic (-1) l_PC_piece_94 rfl ?_
        exact s_iret l_PC_piece_95 rfl ⟨Nat.zero_le _, Nat.zero_le _⟩ h
    · refine s_ic (-1) l_PC_piece_21 rfl ?_
      exact s_iret l_PC_piece_22 rfl ⟨Nat.zero_le _, Nat.zero_le _⟩ h
theorem l_PC_apply_0 : xlk (xm_cd m_PC_apply) 0 = some (.aload_n 0, 1, (0, 0, 0, [])) := rfl
theorem l_PC_apply_1 : xlk (xm_cd m_PC_apply) 1 = some (.iload_n 1, 1, (0, 0, 0, [])) := rfl
theorem l_PC_apply_2 : xlk (xm_cd m_PC_apply) 2 = some (.invokevirtual 134, 3, (549, 77, 1, [])) := rfl
theorem l_PC_apply_5 : xlk (xm_cd m_PC_apply) 5 = some (.ifCond .eq 11, 3, (0, 16, 0, [])) := rfl
theorem l_PC_apply_8 : xlk (xm_cd m_PC_apply) 8 = some (.aload_n 0, 1, (0, 0, 0, [])) := rfl
theorem l_PC_apply_9 : xlk (xm_cd m_PC_apply) 9 = some (.iload_n 2, 1, (0, 0, 0, [])) := rfl
theorem l_PC_apply_10 : xlk (xm_cd m_PC_apply) 10 = some (.invokevirtual 83, 3, (326, 22, 1, [])) := rfl
theorem l_PC_apply_13 : xlk (xm_cd m_PC_apply) 13 = some (.ifCond .ne 5, 3, (0, 18, 0, [])) := rfl
theorem l_PC_apply_16 : xlk (xm_cd m_PC_apply) 16 = some (.iconst (-1), 1, (0, 0, 0, [])) := rfl
theorem l_PC_apply_17 : xlk (xm_cd m_PC_apply) 17 = some (.ireturn, 1, (0, 0, 0, [])) := rfl
theorem l_PC_apply_18 : xlk (xm_cd m_PC_apply) 18 = some (.aload_n 0, 1, (0, 0, 0, [])) := rfl
theorem l_PC_apply_19 : xlk (xm_cd m_PC_apply) 19 = some (.getfield 56, 3, (268, 0, 7, [])) := rfl
theorem l_PC_apply_22 : xlk (xm_cd m_PC_apply) 22 = some (.bipush 12, 2, (0, 0, 0, [])) := rfl
theorem l_PC_apply_24 : xlk (xm_cd m_PC_apply) 24 = some (.if_icmp .lt 6, 3, (0, 30, 0, [])) := rfl
theorem l_PC_apply_27 : xlk (xm_cd m_PC_apply) 27 = some (.bipush (-3), 2, (0, 0, 0, [])) := rfl
theorem l_PC_apply_29 : xlk (xm_cd m_PC_apply) 29 = some (.ireturn, 1, (0, 0, 0, [])) := rfl
theorem l_PC_apply_30 : xlk (xm_cd m_PC_apply) 30 = some (.aload_n 0, 1, (0, 0, 0, [])) := rfl
theorem l_PC_apply_31 : xlk (xm_cd m_PC_apply) 31 = some (.getfield 45, 3, (266, 0, 5, [])) := rfl
theorem l_PC_apply_34 : xlk (xm_cd m_PC_apply) 34 = some (.aload_n 0, 1, (0, 0, 0, [])) := rfl
theorem l_PC_apply_35 : xlk (xm_cd m_PC_apply) 35 = some (.getfield 30, 3, (264, 0, 3, [])) := rfl
theorem l_PC_apply_38 : xlk (xm_cd m_PC_apply) 38 = some (.iload_n 1, 1, (0, 0, 0, [])) := rfl
theorem l_PC_apply_39 : xlk (xm_cd m_PC_apply) 39 = some (.aaload, 1, (0, 6, 0, [])) := rfl
theorem l_PC_apply_40 : xlk (xm_cd m_PC_apply) 40 = some (.aload_n 0, 1, (0, 0, 0, [])) := rfl
theorem l_PC_apply_41 : xlk (xm_cd m_PC_apply) 41 = some (.getfield 23, 3, (263, 0, 2, [])) := rfl
theorem l_PC_apply_44 : xlk (xm_cd m_PC_apply) 44 = some (.iload_n 2, 1, (0, 0, 0, [])) := rfl
theorem l_PC_apply_45 : xlk (xm_cd m_PC_apply) 45 = some (.aaload, 1, (0, 4, 0, [])) := rfl
theorem l_PC_apply_46 : xlk (xm_cd m_PC_apply) 46 = some (.iload_n 3, 1, (0, 0, 0, [])) := rfl
theorem l_PC_apply_47 : xlk (xm_cd m_PC_apply) 47 = some (.aload_n 0, 1, (0, 0, 0, [])) := rfl
theorem l_PC_apply_48 : xlk (xm_cd m_PC_apply) 48 = some (.getfield 23, 3, (263, 0, 2, [])) := rfl
theorem l_PC_apply_51 : xlk (xm_cd m_PC_apply) 51 = some (.aload_n 0, 1, (0, 0, 0, [])) := rfl
theorem l_PC_apply_52 : xlk (xm_cd m_PC_apply) 52 = some (.getfield 56, 3, (268, 0, 7, [])) := rfl
theorem l_PC_apply_55 : xlk (xm_cd m_PC_apply) 55 = some (.aaload, 1, (0, 4, 0, [])) := rfl
theorem l_PC_apply_56 : xlk (xm_cd m_PC_apply) 56 = some (.invokevirtual 166, 3, (598, 90, 4, [])) := rfl
theorem l_PC_apply_59 : xlk (xm_cd m_PC_apply) 59 = some (.istore 4, 2, (0, 0, 0, [])) := rfl
theorem l_PC_apply_61 : xlk (xm_cd m_PC_apply) 61 = some (.iload 4, 2, (0, 0, 0, [])) := rfl
theorem l_PC_apply_63 : xlk (xm_cd m_PC_apply) 63 = some (.ifCond .ne 10, 3, (0, 73, 0, [])) := rfl
theorem l_PC_apply_66 : xlk (xm_cd m_PC_apply) 66 = some (.aload_n 0, 1, (0, 0, 0, [])) := rfl
theorem l_PC_apply_67 : xlk (xm_cd m_PC_apply) 67 = some (.invokevirtual 91, 3, (338, 25, 0, [])) := rfl
theorem l_PC_apply_70 : xlk (xm_cd m_PC_apply) 70 = some (.goto 8, 3, (0, 78, 0, [])) := rfl
theorem l_PC_apply_73 : xlk (xm_cd m_PC_apply) 73 = some (.bipush (-10), 2, (0, 0, 0, [])) := rfl
theorem l_PC_apply_75 : xlk (xm_cd m_PC_apply) 75 = some (.iload 4, 2, (0, 0, 0, [])) := rfl
theorem l_PC_apply_77 : xlk (xm_cd m_PC_apply) 77 = some (.isub, 1, (0, 0, 0, [])) := rfl
theorem l_PC_apply_78 : xlk (xm_cd m_PC_apply) 78 = some (.ireturn, 1, (0, 0, 0, [])) := rfl
def B_PC_apply_0 (d : Nat) (E : Option Value → xH → Prop) (f : xH) (a0 : Nat) (x1 : Int32) (x2 : Int32) (x3 : Int32) : Prop :=
  (∃ fs, f a0 = some (xO 0 fs)) ∧ xSp xT0 d j_PC_isPatch [.ref a0, .int x1] f (fun w1 f2 => xvi w1 (fun v3 => xbr (v3 = 0) (E (some (.int (-1))) f2) ((∃ fs, f2 a0 = some (xO 0 fs)) ∧ xSp xT0 d j_PC_isTree [.ref a0, .int x2] f2 (fun w4 f5 => xvi w4 (fun v6 => xbr (¬ v6 = 0) (xgi f5 a0 0 7 (fun v7 => xbr (v7 < 12) (xgr f5 a0 0 5 (fun r8 => xgr f5 a0 0 3 (fun r9 => xrl f5 r9 6 x1 (fun r10 => xgr f5 a0 0 2 (fun r11 => xrl f5 r11 4 x2 (fun r12 => xgr f5 a0 0 2 (fun r13 => xgi f5 a0 0 7 (fun v14 => xrl f5 r13 4 v14 (fun r15 => (∃ fs, f5 r8 = some (xO 8 fs)) ∧ xSp xT0 d j_Ap_run [.ref r8, .ref r10, .ref r12, .int x3, .ref r15] f5 (fun w16 f17 => xvi w16 (fun v18 => xbr (¬ v18 = 0) (E (some (.int ((-10) - v18))) f17) ((∃ fs, f17 a0 = some (xO 0 fs)) ∧ xSp xT0 d j_PC_keepTree [.ref a0] f17 (fun w19 f20 => xvi w19 (fun v21 => E (some (.int v21)) f20)))))))))))))) (E (some (.int (-3))) f5))) (E (some (.int (-1))) f5))))))
theorem b_PC_apply_0 {d : Nat} {E : Option Value → xH → Prop} {f : xH} {a0 : Nat} {x1 : Int32} {x2 : Int32} {x3 : Int32} (h : B_PC_apply_0 d E f a0 x1 x2 x3) : xWp (xT0, xSp xT0 d, none, m_PC_apply, E) 0 [some (.ref a0), some (.int x1), some (.int x2), some (.int x3), none] [] f 0 0 := by
  unfold B_PC_apply_0 at h
  refine s_aln l_PC_apply_0 rfl ?_
  refine s_iln l_PC_apply_1 rfl ?_
  refine s_cvi (As := [.int x1]) (r := []) l_PC_apply_2 rfl ⟨rfl, rfl⟩ rfl (Nat.le_of_ble_eq_true rfl) rfl ⟨Nat.zero_le _, Nat.zero_le _⟩ h (fun v3 f2 h => ?_)
  refine s_if l_PC_apply_5 h (fun h => ?_) (fun h => ?_)
  · refine s_ic (-1) l_PC_apply_16 rfl ?_
    exact s_iret l_PC_apply_17 rfl ⟨Nat.zero_le _, Nat.zero_le _⟩ h
  · refine s_aln l_PC_apply_8 rfl ?_
    refine s_iln l_PC_apply_9 rfl ?_
    refine s_cvi (As := [.int x2]) (r := []) l_PC_apply_10 rfl ⟨rfl, rfl⟩ rfl (Nat.le_of_ble_eq_true rfl) rfl ⟨Nat.zero_le _, Nat.zero_le _⟩ h (fun v6 f5 h => ?_)
    refine s_if l_PC_apply_13 h (fun h => ?_) (fun h => ?_)
    · refine s_aln l_PC_apply_18 rfl ?_
      refine s_gi l_PC_apply_19 h (fun v7 h => ?_)
      refine s_bp 12 l_PC_apply_22 rfl ?_
      refine s_ifc l_PC_apply_24 h (fun h => ?_) (fun h => ?_)
      · refine s_aln l_PC_apply_30 rfl ?_
        refine s_gr l_PC_apply_31 h (fun r8 h => ?_)
        refine s_aln l_PC_apply_34 rfl ?_
        refine s_gr l_PC_apply_35 h (fun r9 h => ?_)
        refine s_iln l_PC_apply_38 rfl ?_
        refine s_aal l_PC_apply_39 h (fun r10 h => ?_)
        refine s_aln l_PC_apply_40 rfl ?_
        refine s_gr l_PC_apply_41 h (fun r11 h => ?_)
        refine s_iln l_PC_apply_44 rfl ?_
        refine s_aal l_PC_apply_45 h (fun r12 h => ?_)
        refine s_iln l_PC_apply_46 rfl ?_
        refine s_aln l_PC_apply_47 rfl ?_
        refine s_gr l_PC_apply_48 h (fun r13 h => ?_)
        refine s_aln l_PC_apply_51 rfl ?_
        refine s_gi l_PC_apply_52 h (fun v14 h => ?_)
        refine s_aal l_PC_apply_55 h (fun r15 h => ?_)
        refine s_cvi (As := [.ref r10, .ref r12, .int x3, .ref r15]) (r := []) l_PC_apply_56 rfl ⟨rfl, rfl⟩ rfl (Nat.le_of_ble_eq_true rfl) rfl ⟨Nat.zero_le _, Nat.zero_le _⟩ h (fun v18 f17 h => ?_)
        refine s_is l_PC_apply_59 (Nat.le_of_ble_eq_true rfl) ?_
        refine s_il l_PC_apply_61 rfl ?_
        refine s_if l_PC_apply_63 h (fun h => ?_) (fun h => ?_)
        · refine s_bp (-10) l_PC_apply_73 rfl ?_
          refine s_il l_PC_apply_75 rfl ?_
          refine s_isub l_PC_apply_77 ?_
          exact s_iret l_PC_apply_78 rfl ⟨Nat.zero_le _, Nat.zero_le _⟩ h
        · refine s_aln l_PC_apply_66 rfl ?_
          refine s_cvi (As := []) (r := []) l_PC_apply_67 rfl ⟨rfl, rfl⟩ rfl (Nat.le_of_ble_eq_true rfl) rfl ⟨Nat.zero_le _, Nat.zero_le _⟩ h (fun v21 f20 h => ?_)
          refine s_goto l_PC_apply_70 ?_
          exact s_iret l_PC_apply_78 rfl ⟨Nat.zero_le _, Nat.zero_le _⟩ h
      · refine s_bp (-3) l_PC_apply_27 rfl ?_
        exact s_iret l_PC_apply_29 rfl ⟨Nat.zero_le _, Nat.zero_le _⟩ h
    · refine s_ic (-1) l_PC_apply_16 rfl ?_
      exact s_iret l_PC_apply_17 rfl ⟨Nat.zero_le _, Nat.zero_le _⟩ h
theorem l_PC_conflict_0 : xlk (xm_cd m_PC_conflict) 0 = some (.aload_n 0, 1, (0, 0, 0, [])) := rfl
theorem l_PC_conflict_1 : xlk (xm_cd m_PC_conflict) 1 = some (.getfield 45, 3, (266, 0, 5, [])) := rfl
theorem l_PC_conflict_4 : xlk (xm_cd m_PC_conflict) 4 = some (.iload_n 1, 1, (0, 0, 0, [])) := rfl
theorem l_PC_conflict_5 : xlk (xm_cd m_PC_conflict) 5 = some (.iload_n 2, 1, (0, 0, 0, [])) := rfl
theorem l_PC_conflict_6 : xlk (xm_cd m_PC_conflict) 6 = some (.invokevirtual 170, 3, (644, 99, 2, [])) := rfl
theorem l_PC_conflict_9 : xlk (xm_cd m_PC_conflict) 9 = some (.ireturn, 1, (0, 0, 0, [])) := rfl
def B_PC_conflict_0 (d : Nat) (E : Option Value → xH → Prop) (f : xH) (a0 : Nat) (x1 : Int32) (x2 : Int32) : Prop :=
  xgr f a0 0 5 (fun r1 => (∃ fs, f r1 = some (xO 8 fs)) ∧ xSp xT0 d j_Ap_tellConflict [.ref r1, .int x1, .int x2] f (fun w2 f3 => xvi w2 (fun v4 => E (some (.int v4)) f3)))
theorem b_PC_conflict_0 {d : Nat} {E : Option Value → xH → Prop} {f : xH} {a0 : Nat} {x1 : Int32} {x2 : Int32} (h : B_PC_conflict_0 d E f a0 x1 x2) : xWp (xT0, xSp xT0 d, none, m_PC_conflict, E) 0 [some (.ref a0), some (.int x1), some (.int x2)] [] f 0 0 := by
  unfold B_PC_conflict_0 at h
  refine s_aln l_PC_conflict_0 rfl ?_
  refine s_gr l_PC_conflict_1 h (fun r1 h => ?_)
  refine s_iln l_PC_conflict_4 rfl ?_
  refine s_iln l_PC_conflict_5 rfl ?_
  refine s_cvi (As := [.int x1, .int x2]) (r := []) l_PC_conflict_6 rfl ⟨rfl, rfl⟩ rfl (Nat.le_of_ble_eq_true rfl) rfl ⟨Nat.zero_le _, Nat.zero_le _⟩ h (fun v4 f3 h => ?_)
  exact s_iret l_PC_conflict_9 rfl ⟨Nat.zero_le _, Nat.zero_le _⟩ h
theorem l_PC_inverse_0 : xlk (xm_cd m_PC_inverse) 0 = some (.aload_n 0, 1, (0, 0, 0, [])) := rfl
theorem l_PC_inverse_1 : xlk (xm_cd m_PC_inverse) 1 = some (.iload_n 1, 1, (0, 0, 0, [])) := rfl
theorem l_PC_inverse_2 : xlk (xm_cd m_PC_inverse) 2 = some (.invokevirtual 134, 3, (549, 77, 1, [])) := rfl
theorem l_PC_inverse_5 : xlk (xm_cd m_PC_inverse) 5 = some (.ifCond .ne 5, 3, (0, 10, 0, [])) := rfl
theorem l_PC_inverse_8 : xlk (xm_cd m_PC_inverse) 8 = some (.iconst (-1), 1, (0, 0, 0, [])) := rfl
theorem l_PC_inverse_9 : xlk (xm_cd m_PC_inverse) 9 = some (.ireturn, 1, (0, 0, 0, [])) := rfl
theorem l_PC_inverse_10 : xlk (xm_cd m_PC_inverse) 10 = some (.aload_n 0, 1, (0, 0, 0, [])) := rfl
theorem l_PC_inverse_11 : xlk (xm_cd m_PC_inverse) 11 = some (.getfield 60, 3, (269, 0, 8, [])) := rfl
theorem l_PC_inverse_14 : xlk (xm_cd m_PC_inverse) 14 = some (.bipush 8, 2, (0, 0, 0, [])) := rfl
theorem l_PC_inverse_16 : xlk (xm_cd m_PC_inverse) 16 = some (.if_icmp .lt 6, 3, (0, 22, 0, [])) := rfl
theorem l_PC_inverse_19 : xlk (xm_cd m_PC_inverse) 19 = some (.bipush (-3), 2, (0, 0, 0, [])) := rfl
theorem l_PC_inverse_21 : xlk (xm_cd m_PC_inverse) 21 = some (.ireturn, 1, (0, 0, 0, [])) := rfl
theorem l_PC_inverse_22 : xlk (xm_cd m_PC_inverse) 22 = some (.aload_n 0, 1, (0, 0, 0, [])) := rfl
theorem l_PC_inverse_23 : xlk (xm_cd m_PC_inverse) 23 = some (.getfield 30, 3, (264, 0, 3, [])) := rfl
theorem l_PC_inverse_26 : xlk (xm_cd m_PC_inverse) 26 = some (.aload_n 0, 1, (0, 0, 0, [])) := rfl
theorem l_PC_inverse_27 : xlk (xm_cd m_PC_inverse) 27 = some (.getfield 60, 3, (269, 0, 8, [])) := rfl
theorem l_PC_inverse_30 : xlk (xm_cd m_PC_inverse) 30 = some (.aaload, 1, (0, 6, 0, [])) := rfl
theorem l_PC_inverse_31 : xlk (xm_cd m_PC_inverse) 31 = some (.aload_n 0, 1, (0, 0, 0, [])) := rfl
theorem l_PC_inverse_32 : xlk (xm_cd m_PC_inverse) 32 = some (.getfield 30, 3, (264, 0, 3, [])) := rfl
theorem l_PC_inverse_35 : xlk (xm_cd m_PC_inverse) 35 = some (.iload_n 1, 1, (0, 0, 0, [])) := rfl
theorem l_PC_inverse_36 : xlk (xm_cd m_PC_inverse) 36 = some (.aaload, 1, (0, 6, 0, [])) := rfl
theorem l_PC_inverse_37 : xlk (xm_cd m_PC_inverse) 37 = some (.invokevirtual 173, 3, (652, 101, 1, [])) := rfl
theorem l_PC_inverse_40 : xlk (xm_cd m_PC_inverse) 40 = some (.aload_n 0, 1, (0, 0, 0, [])) := rfl
theorem l_PC_inverse_41 : xlk (xm_cd m_PC_inverse) 41 = some (.invokevirtual 131, 3, (542, 75, 0, [])) := rfl
theorem l_PC_inverse_44 : xlk (xm_cd m_PC_inverse) 44 = some (.ireturn, 1, (0, 0, 0, [])) := rfl
def B_PC_inverse_0 (d : Nat) (E : Option Value → xH → Prop) (f : xH) (a0 : Nat) (x1 : Int32) : Prop :=
  (∃ fs, f a0 = some (xO 0 fs)) ∧ xSp xT0 d j_PC_isPatch [.ref a0, .int x1] f (fun w1 f2 => xvi w1 (fun v3 => xbr (¬ v3 = 0) (xgi f2 a0 0 8 (fun v4 => xbr (v4 < 8) (xgr f2 a0 0 3 (fun r5 => xgi f2 a0 0 8 (fun v6 => xrl f2 r5 6 v6 (fun r7 => xgr f2 a0 0 3 (fun r8 => xrl f2 r8 6 x1 (fun r9 => (∃ fs, f2 r7 = some (xO 5 fs)) ∧ xSp xT0 d j_Pa_inverseOf [.ref r7, .ref r9] f2 (fun w10 f11 => xvv w10 ((∃ fs, f11 a0 = some (xO 0 fs)) ∧ xSp xT0 d j_PC_keepPatch [.ref a0] f11 (fun w12 f13 => xvi w12 (fun v14 => E (some (.int v14)) f13)))))))))) (E (some (.int (-3))) f2))) (E (some (.int (-1))) f2)))
theorem b_PC_inverse_0 {d : Nat} {E : Option Value → xH → Prop} {f : xH} {a0 : Nat} {x1 : Int32} (h : B_PC_inverse_0 d E f a0 x1) : xWp (xT0, xSp xT0 d, none, m_PC_inverse, E) 0 [some (.ref a0), some (.int x1)] [] f 0 0 := by
  unfold B_PC_inverse_0 at h
  refine s_aln l_PC_inverse_0 rfl ?_
  refine s_iln l_PC_inverse_1 rfl ?_
  refine s_cvi (As := [.int x1]) (r := []) l_PC_inverse_2 rfl ⟨rfl, rfl⟩ rfl (Nat.le_of_ble_eq_true rfl) rfl ⟨Nat.zero_le _, Nat.zero_le _⟩ h (fun v3 f2 h => ?_)
  refine s_if l_PC_inverse_5 h (fun h => ?_) (fun h => ?_)
  · refine s_aln l_PC_inverse_10 rfl ?_
    refine s_gi l_PC_inverse_11 h (fun v4 h => ?_)
    refine s_bp 8 l_PC_inverse_14 rfl ?_
    refine s_ifc l_PC_inverse_16 h (fun h => ?_) (fun h => ?_)
    · refine s_aln l_PC_inverse_22 rfl ?_
      refine s_gr l_PC_inverse_23 h (fun r5 h => ?_)
      refine s_aln l_PC_inverse_26 rfl ?_
      refine s_gi l_PC_inverse_27 h (fun v6 h => ?_)
      refine s_aal l_PC_inverse_30 h (fun r7 h => ?_)
      refine s_aln l_PC_inverse_31 rfl ?_
      refine s_gr l_PC_inverse_32 h (fun r8 h => ?_)
      refine s_iln l_PC_inverse_35 rfl ?_
      refine s_aal l_PC_inverse_36 h (fun r9 h => ?_)
      refine s_cvv (As := [.ref r9]) (r := []) l_PC_inverse_37 rfl ⟨rfl, rfl⟩ rfl (Nat.le_of_ble_eq_true rfl) rfl ⟨Nat.zero_le _, Nat.zero_le _⟩ h (fun f11 h => ?_)
      refine s_aln l_PC_inverse_40 rfl ?_
      refine s_cvi (As := []) (r := []) l_PC_inverse_41 rfl ⟨rfl, rfl⟩ rfl (Nat.le_of_ble_eq_true rfl) rfl ⟨Nat.zero_le _, Nat.zero_le _⟩ h (fun v14 f13 h => ?_)
      exact s_iret l_PC_inverse_44 rfl ⟨Nat.zero_le _, Nat.zero_le _⟩ h
    · refine s_bp (-3) l_PC_inverse_19 rfl ?_
      exact s_iret l_PC_inverse_21 rfl ⟨Nat.zero_le _, Nat.zero_le _⟩ h
  · refine s_ic (-1) l_PC_inverse_8 rfl ?_
    exact s_iret l_PC_inverse_9 rfl ⟨Nat.zero_le _, Nat.zero_le _⟩ h
theorem l_PC_chain_0 : xlk (xm_cd m_PC_chain) 0 = some (.aload_n 0, 1, (0, 0, 0, [])) := rfl
theorem l_PC_chain_1 : xlk (xm_cd m_PC_chain) 1 = some (.iload_n 1, 1, (0, 0, 0, [])) := rfl
theorem l_PC_chain_2 : xlk (xm_cd m_PC_chain) 2 = some (.invokevirtual 134, 3, (549, 77, 1, [])) := rfl
theorem l_PC_chain_5 : xlk (xm_cd m_PC_chain) 5 = some (.ifCond .eq 11, 3, (0, 16, 0, [])) := rfl
theorem l_PC_chain_8 : xlk (xm_cd m_PC_chain) 8 = some (.aload_n 0, 1, (0, 0, 0, [])) := rfl
theorem l_PC_chain_9 : xlk (xm_cd m_PC_chain) 9 = some (.iload_n 2, 1, (0, 0, 0, [])) := rfl
theorem l_PC_chain_10 : xlk (xm_cd m_PC_chain) 10 = some (.invokevirtual 134, 3, (549, 77, 1, [])) := rfl
theorem l_PC_chain_13 : xlk (xm_cd m_PC_chain) 13 = some (.ifCond .ne 5, 3, (0, 18, 0, [])) := rfl
theorem l_PC_chain_16 : xlk (xm_cd m_PC_chain) 16 = some (.iconst (-1), 1, (0, 0, 0, [])) := rfl
theorem l_PC_chain_17 : xlk (xm_cd m_PC_chain) 17 = some (.ireturn, 1, (0, 0, 0, [])) := rfl
theorem l_PC_chain_18 : xlk (xm_cd m_PC_chain) 18 = some (.aload_n 0, 1, (0, 0, 0, [])) := rfl
theorem l_PC_chain_19 : xlk (xm_cd m_PC_chain) 19 = some (.getfield 60, 3, (269, 0, 8, [])) := rfl
theorem l_PC_chain_22 : xlk (xm_cd m_PC_chain) 22 = some (.bipush 8, 2, (0, 0, 0, [])) := rfl
theorem l_PC_chain_24 : xlk (xm_cd m_PC_chain) 24 = some (.if_icmp .lt 6, 3, (0, 30, 0, [])) := rfl
theorem l_PC_chain_27 : xlk (xm_cd m_PC_chain) 27 = some (.bipush (-3), 2, (0, 0, 0, [])) := rfl
theorem l_PC_chain_29 : xlk (xm_cd m_PC_chain) 29 = some (.ireturn, 1, (0, 0, 0, [])) := rfl
theorem l_PC_chain_30 : xlk (xm_cd m_PC_chain) 30 = some (.aload_n 0, 1, (0, 0, 0, [])) := rfl
theorem l_PC_chain_31 : xlk (xm_cd m_PC_chain) 31 = some (.getfield 30, 3, (264, 0, 3, [])) := rfl
theorem l_PC_chain_34 : xlk (xm_cd m_PC_chain) 34 = some (.iload_n 1, 1, (0, 0, 0, [])) := rfl
theorem l_PC_chain_35 : xlk (xm_cd m_PC_chain) 35 = some (.aaload, 1, (0, 6, 0, [])) := rfl
theorem l_PC_chain_36 : xlk (xm_cd m_PC_chain) 36 = some (.aload_n 0, 1, (0, 0, 0, [])) := rfl
theorem l_PC_chain_37 : xlk (xm_cd m_PC_chain) 37 = some (.getfield 30, 3, (264, 0, 3, [])) := rfl
theorem l_PC_chain_40 : xlk (xm_cd m_PC_chain) 40 = some (.iload_n 2, 1, (0, 0, 0, [])) := rfl
theorem l_PC_chain_41 : xlk (xm_cd m_PC_chain) 41 = some (.aaload, 1, (0, 6, 0, [])) := rfl
theorem l_PC_chain_42 : xlk (xm_cd m_PC_chain) 42 = some (.invokestatic 177, 3, (671, 105, 2, [])) := rfl
theorem l_PC_chain_45 : xlk (xm_cd m_PC_chain) 45 = some (.istore_n 3, 1, (0, 0, 0, [])) := rfl
theorem l_PC_chain_46 : xlk (xm_cd m_PC_chain) 46 = some (.iload_n 3, 1, (0, 0, 0, [])) := rfl
theorem l_PC_chain_47 : xlk (xm_cd m_PC_chain) 47 = some (.ifCond .eq 8, 3, (0, 55, 0, [])) := rfl
theorem l_PC_chain_50 : xlk (xm_cd m_PC_chain) 50 = some (.bipush (-10), 2, (0, 0, 0, [])) := rfl
theorem l_PC_chain_52 : xlk (xm_cd m_PC_chain) 52 = some (.iload_n 3, 1, (0, 0, 0, [])) := rfl
theorem l_PC_chain_53 : xlk (xm_cd m_PC_chain) 53 = some (.isub, 1, (0, 0, 0, [])) := rfl
theorem l_PC_chain_54 : xlk (xm_cd m_PC_chain) 54 = some (.ireturn, 1, (0, 0, 0, [])) := rfl
theorem l_PC_chain_55 : xlk (xm_cd m_PC_chain) 55 = some (.aload_n 0, 1, (0, 0, 0, [])) := rfl
theorem l_PC_chain_56 : xlk (xm_cd m_PC_chain) 56 = some (.getfield 30, 3, (264, 0, 3, [])) := rfl
theorem l_PC_chain_59 : xlk (xm_cd m_PC_chain) 59 = some (.iload_n 1, 1, (0, 0, 0, [])) := rfl
theorem l_PC_chain_60 : xlk (xm_cd m_PC_chain) 60 = some (.aaload, 1, (0, 6, 0, [])) := rfl
theorem l_PC_chain_61 : xlk (xm_cd m_PC_chain) 61 = some (.aload_n 0, 1, (0, 0, 0, [])) := rfl
theorem l_PC_chain_62 : xlk (xm_cd m_PC_chain) 62 = some (.getfield 30, 3, (264, 0, 3, [])) := rfl
theorem l_PC_chain_65 : xlk (xm_cd m_PC_chain) 65 = some (.iload_n 2, 1, (0, 0, 0, [])) := rfl
theorem l_PC_chain_66 : xlk (xm_cd m_PC_chain) 66 = some (.aaload, 1, (0, 6, 0, [])) := rfl
theorem l_PC_chain_67 : xlk (xm_cd m_PC_chain) 67 = some (.aload_n 0, 1, (0, 0, 0, [])) := rfl
theorem l_PC_chain_68 : xlk (xm_cd m_PC_chain) 68 = some (.getfield 30, 3, (264, 0, 3, [])) := rfl
theorem l_PC_chain_71 : xlk (xm_cd m_PC_chain) 71 = some (.aload_n 0, 1, (0, 0, 0, [])) := rfl
theorem l_PC_chain_72 : xlk (xm_cd m_PC_chain) 72 = some (.getfield 60, 3, (269, 0, 8, [])) := rfl
theorem l_PC_chain_75 : xlk (xm_cd m_PC_chain) 75 = some (.aaload, 1, (0, 6, 0, [])) := rfl
theorem l_PC_chain_76 : xlk (xm_cd m_PC_chain) 76 = some (.invokestatic 183, 3, (702, 112, 3, [])) := rfl
theorem l_PC_chain_79 : xlk (xm_cd m_PC_chain) 79 = some (.ifCond .eq 10, 3, (0, 89, 0, [])) := rfl
theorem l_PC_chain_82 : xlk (xm_cd m_PC_chain) 82 = some (.aload_n 0, 1, (0, 0, 0, [])) := rfl
theorem l_PC_chain_83 : xlk (xm_cd m_PC_chain) 83 = some (.invokevirtual 131, 3, (542, 75, 0, [])) := rfl
theorem l_PC_chain_86 : xlk (xm_cd m_PC_chain) 86 = some (.goto 5, 3, (0, 91, 0, [])) := rfl
theorem l_PC_chain_89 : xlk (xm_cd m_PC_chain) 89 = some (.bipush (-3), 2, (0, 0, 0, [])) := rfl
theorem l_PC_chain_91 : xlk (xm_cd m_PC_chain) 91 = some (.ireturn, 1, (0, 0, 0, [])) := rfl
def B_PC_chain_0 (d : Nat) (E : Option Value → xH → Prop) (f : xH) (a0 : Nat) (x1 : Int32) (x2 : Int32) : Prop :=
  (∃ fs, f a0 = some (xO 0 fs)) ∧ xSp xT0 d j_PC_isPatch [.ref a0, .int x1] f (fun w1 f2 => xvi w1 (fun v3 => xbr (v3 = 0) (E (some (.int (-1))) f2) ((∃ fs, f2 a0 = some (xO 0 fs)) ∧ xSp xT0 d j_PC_isPatch [.ref a0, .int x2] f2 (fun w4 f5 => xvi w4 (fun v6 => xbr (¬ v6 = 0) (xgi f5 a0 0 8 (fun v7 => xbr (v7 < 8) (xgr f5 a0 0 3 (fun r8 => xrl f5 r8 6 x1 (fun r9 => xgr f5 a0 0 3 (fun r10 => xrl f5 r10 6 x2 (fun r11 => xSp xT0 d j_Jo_ruleBroken [.ref r9, .ref r11] f5 (fun w12 f13 => xvi w12 (fun v14 => xbr (v14 = 0) (xgr f13 a0 0 3 (fun r15 => xrl f13 r15 6 x1 (fun r16 => xgr f13 a0 0 3 (fun r17 => xrl f13 r17 6 x2 (fun r18 => xgr f13 a0 0 3 (fun r19 => xgi f13 a0 0 8 (fun v20 => xrl f13 r19 6 v20 (fun r21 => xSp xT0 d j_Jo_join [.ref r16, .ref r18, .ref r21] f13 (fun w22 f23 => xvi w22 (fun v24 => xbr (v24 = 0) (E (some (.int (-3))) f23) ((∃ fs, f23 a0 = some (xO 0 fs)) ∧ xSp xT0 d j_PC_keepPatch [.ref a0] f23 (fun w25 f26 => xvi w25 (fun v27 => E (some (.int v27)) f26))))))))))))) (E (some (.int ((-10) - v14))) f13)))))))) (E (some (.int (-3))) f5))) (E (some (.int (-1))) f5))))))
theorem b_PC_chain_0 {d : Nat} {E : Option Value → xH → Prop} {f : xH} {a0 : Nat} {x1 : Int32} {x2 : Int32} (h : B_PC_chain_0 d E f a0 x1 x2) : xWp (xT0, xSp xT0 d, none, m_PC_chain, E) 0 [some (.ref a0), some (.int x1), some (.int x2), none] [] f 0 0 := by
  unfold B_PC_chain_0 at h
  refine s_aln l_PC_chain_0 rfl ?_
  refine s_iln l_PC_chain_1 rfl ?_
  refine s_cvi (As := [.int x1]) (r := []) l_PC_chain_2 rfl ⟨rfl, rfl⟩ rfl (Nat.le_of_ble_eq_true rfl) rfl ⟨Nat.zero_le _, Nat.zero_le _⟩ h (fun v3 f2 h => ?_)
  refine s_if l_PC_chain_5 h (fun h => ?_) (fun h => ?_)
  · refine s_ic (-1) l_PC_chain_16 rfl ?_
    exact s_iret l_PC_chain_17 rfl ⟨Nat.zero_le _, Nat.zero_le _⟩ h
  · refine s_aln l_PC_chain_8 rfl ?_
    refine s_iln l_PC_chain_9 rfl ?_
    refine s_cvi (As := [.int x2]) (r := []) l_PC_chain_10 rfl ⟨rfl, rfl⟩ rfl (Nat.le_of_ble_eq_true rfl) rfl ⟨Nat.zero_le _, Nat.zero_le _⟩ h (fun v6 f5 h => ?_)
    refine s_if l_PC_chain_13 h (fun h => ?_) (fun h => ?_)
    · refine s_aln l_PC_chain_18 rfl ?_
      refine s_gi l_PC_chain_19 h (fun v7 h => ?_)
      refine s_bp 8 l_PC_chain_22 rfl ?_
      refine s_ifc l_PC_chain_24 h (fun h => ?_) (fun h => ?_)
      · refine s_aln l_PC_chain_30 rfl ?_
        refine s_gr l_PC_chain_31 h (fun r8 h => ?_)
        refine s_iln l_PC_chain_34 rfl ?_
        refine s_aal l_PC_chain_35 h (fun r9 h => ?_)
        refine s_aln l_PC_chain_36 rfl ?_
        refine s_gr l_PC_chain_37 h (fun r10 h => ?_)
        refine s_iln l_PC_chain_40 rfl ?_
        refine s_aal l_PC_chain_41 h (fun r11 h => ?_)
        refine s_csi (As := [.ref r9, .ref r11]) (r := []) l_PC_chain_42 rfl ⟨rfl, rfl⟩ rfl (Nat.le_of_ble_eq_true rfl) rfl ⟨Nat.zero_le _, Nat.zero_le _⟩ h (fun v14 f13 h => ?_)
        refine s_isn l_PC_chain_45 (Nat.le_of_ble_eq_true rfl) ?_
        refine s_iln l_PC_chain_46 rfl ?_
        refine s_if l_PC_chain_47 h (fun h => ?_) (fun h => ?_)
        · refine s_aln l_PC_chain_55 rfl ?_
          refine s_gr l_PC_chain_56 h (fun r15 h => ?_)
          refine s_iln l_PC_chain_59 rfl ?_
          refine s_aal l_PC_chain_60 h (fun r16 h => ?_)
          refine s_aln l_PC_chain_61 rfl ?_
          refine s_gr l_PC_chain_62 h (fun r17 h => ?_)
          refine s_iln l_PC_chain_65 rfl ?_
          refine s_aal l_PC_chain_66 h (fun r18 h => ?_)
          refine s_aln l_PC_chain_67 rfl ?_
          refine s_gr l_PC_chain_68 h (fun r19 h => ?_)
          refine s_aln l_PC_chain_71 rfl ?_
          refine s_gi l_PC_chain_72 h (fun v20 h => ?_)
          refine s_aal l_PC_chain_75 h (fun r21 h => ?_)
          refine s_csi (As := [.ref r16, .ref r18, .ref r21]) (r := []) l_PC_chain_76 rfl ⟨rfl, rfl⟩ rfl (Nat.le_of_ble_eq_true rfl) rfl ⟨Nat.zero_le _, Nat.zero_le _⟩ h (fun v24 f23 h => ?_)
          refine s_if l_PC_chain_79 h (fun h => ?_) (fun h => ?_)
          · refine s_bp (-3) l_PC_chain_89 rfl ?_
            exact s_iret l_PC_chain_91 rfl ⟨Nat.zero_le _, Nat.zero_le _⟩ h
          · refine s_aln l_PC_chain_82 rfl ?_
            refine s_cvi (As := []) (r := []) l_PC_chain_83 rfl ⟨rfl, rfl⟩ rfl (Nat.le_of_ble_eq_true rfl) rfl ⟨Nat.zero_le _, Nat.zero_le _⟩ h (fun v27 f26 h => ?_)
            refine s_goto l_PC_chain_86 ?_
            exact s_iret l_PC_chain_91 rfl ⟨Nat.zero_le _, Nat.zero_le _⟩ h
        · refine s_bp (-10) l_PC_chain_50 rfl ?_
          refine s_iln l_PC_chain_52 rfl ?_
          refine s_isub l_PC_chain_53 ?_
          exact s_iret l_PC_chain_54 rfl ⟨Nat.zero_le _, Nat.zero_le _⟩ h
      · refine s_bp (-3) l_PC_chain_27 rfl ?_
        exact s_iret l_PC_chain_29 rfl ⟨Nat.zero_le _, Nat.zero_le _⟩ h
    · refine s_ic (-1) l_PC_chain_16 rfl ?_
      exact s_iret l_PC_chain_17 rfl ⟨Nat.zero_le _, Nat.zero_le _⟩ h
theorem l_PC_power_0 : xlk (xm_cd m_PC_power) 0 = some (.iload_n 1, 1, (0, 0, 0, [])) := rfl
theorem l_PC_power_1 : xlk (xm_cd m_PC_power) 1 = some (.iconst (-1), 1, (0, 0, 0, [])) := rfl
theorem l_PC_power_2 : xlk (xm_cd m_PC_power) 2 = some (.if_icmp .lt 9, 3, (0, 11, 0, [])) := rfl
theorem l_PC_power_5 : xlk (xm_cd m_PC_power) 5 = some (.iload_n 1, 1, (0, 0, 0, [])) := rfl
theorem l_PC_power_6 : xlk (xm_cd m_PC_power) 6 = some (.bipush 40, 2, (0, 0, 0, [])) := rfl
theorem l_PC_power_8 : xlk (xm_cd m_PC_power) 8 = some (.if_icmp .le 5, 3, (0, 13, 0, [])) := rfl
theorem l_PC_power_11 : xlk (xm_cd m_PC_power) 11 = some (.iconst (-1), 1, (0, 0, 0, [])) := rfl
theorem l_PC_power_12 : xlk (xm_cd m_PC_power) 12 = some (.ireturn, 1, (0, 0, 0, [])) := rfl
theorem l_PC_power_13 : xlk (xm_cd m_PC_power) 13 = some (.aload_n 0, 1, (0, 0, 0, [])) := rfl
theorem l_PC_power_14 : xlk (xm_cd m_PC_power) 14 = some (.getfield 52, 3, (267, 0, 6, [])) := rfl
theorem l_PC_power_17 : xlk (xm_cd m_PC_power) 17 = some (.iload_n 1, 1, (0, 0, 0, [])) := rfl
theorem l_PC_power_18 : xlk (xm_cd m_PC_power) 18 = some (.invokevirtual 187, 3, (747, 124, 1, [])) := rfl
theorem l_PC_power_21 : xlk (xm_cd m_PC_power) 21 = some (.ireturn, 1, (0, 0, 0, [])) := rfl
def B_PC_power_0 (d : Nat) (E : Option Value → xH → Prop) (f : xH) (a0 : Nat) (x1 : Int32) : Prop :=
  xbr (x1 < (-1)) (E (some (.int (-1))) f) (xbr (x1 ≤ 40) (xgr f a0 0 6 (fun r1 => (∃ fs, f r1 = some (xO 10 fs)) ∧ xSp xT0 d j_Dk_setPower [.ref r1, .int x1] f (fun w2 f3 => xvi w2 (fun v4 => E (some (.int v4)) f3)))) (E (some (.int (-1))) f))
theorem b_PC_power_0 {d : Nat} {E : Option Value → xH → Prop} {f : xH} {a0 : Nat} {x1 : Int32} (h : B_PC_power_0 d E f a0 x1) : xWp (xT0, xSp xT0 d, none, m_PC_power, E) 0 [some (.ref a0), some (.int x1)] [] f 0 0 := by
  unfold B_PC_power_0 at h
  refine s_iln l_PC_power_0 rfl ?_
  refine s_ic (-1) l_PC_power_1 rfl ?_
  refine s_ifc l_PC_power_2 h (fun h => ?_) (fun h => ?_)
  · refine s_ic (-1) l_PC_power_11 rfl ?_
    exact s_iret l_PC_power_12 rfl ⟨Nat.zero_le _, Nat.zero_le _⟩ h
  · refine s_iln l_PC_power_5 rfl ?_
    refine s_bp 40 l_PC_power_6 rfl ?_
    refine s_ifc l_PC_power_8 h (fun h => ?_) (fun h => ?_)
    · refine s_aln l_PC_power_13 rfl ?_
      refine s_gr l_PC_power_14 h (fun r1 h => ?_)
      refine s_iln l_PC_power_17 rfl ?_
      refine s_cvi (As := [.int x1]) (r := []) l_PC_power_18 rfl ⟨rfl, rfl⟩ rfl (Nat.le_of_ble_eq_true rfl) rfl ⟨Nat.zero_le _, Nat.zero_le _⟩ h (fun v4 f3 h => ?_)
      exact s_iret l_PC_power_21 rfl ⟨Nat.zero_le _, Nat.zero_le _⟩ h
    · refine s_ic (-1) l_PC_power_11 rfl ?_
      exact s_iret l_PC_power_12 rfl ⟨Nat.zero_le _, Nat.zero_le _⟩ h
