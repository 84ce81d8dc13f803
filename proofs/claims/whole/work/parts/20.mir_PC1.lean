/-! blocks of PC, 1 -/
theorem l_PC_install_0 : xlk (xm_cd m_PC_install) 0 = some (.aload_n 0, 1, (0, 0, 0, [])) := rfl
theorem l_PC_install_1 : xlk (xm_cd m_PC_install) 1 = some (.iload_n 1, 1, (0, 0, 0, [])) := rfl
theorem l_PC_install_2 : xlk (xm_cd m_PC_install) 2 = some (.invokevirtual 83, 3, (326, 22, 1, [])) := rfl
theorem l_PC_install_5 : xlk (xm_cd m_PC_install) 5 = some (.ifCond .eq 19, 3, (0, 24, 0, [])) := rfl
theorem l_PC_install_8 : xlk (xm_cd m_PC_install) 8 = some (.aload_n 0, 1, (0, 0, 0, [])) := rfl
theorem l_PC_install_9 : xlk (xm_cd m_PC_install) 9 = some (.getfield 52, 3, (267, 0, 6, [])) := rfl
theorem l_PC_install_12 : xlk (xm_cd m_PC_install) 12 = some (.aload_n 0, 1, (0, 0, 0, [])) := rfl
theorem l_PC_install_13 : xlk (xm_cd m_PC_install) 13 = some (.getfield 23, 3, (263, 0, 2, [])) := rfl
theorem l_PC_install_16 : xlk (xm_cd m_PC_install) 16 = some (.iload_n 1, 1, (0, 0, 0, [])) := rfl
theorem l_PC_install_17 : xlk (xm_cd m_PC_install) 17 = some (.aaload, 1, (0, 4, 0, [])) := rfl
theorem l_PC_install_18 : xlk (xm_cd m_PC_install) 18 = some (.invokevirtual 190, 3, (755, 126, 1, [])) := rfl
theorem l_PC_install_21 : xlk (xm_cd m_PC_install) 21 = some (.goto 4, 3, (0, 25, 0, [])) := rfl
theorem l_PC_install_24 : xlk (xm_cd m_PC_install) 24 = some (.iconst (-1), 1, (0, 0, 0, [])) := rfl
theorem l_PC_install_25 : xlk (xm_cd m_PC_install) 25 = some (.ireturn, 1, (0, 0, 0, [])) := rfl
def B_PC_install_0 (d : Nat) (E : Option Value → xH → Prop) (f : xH) (a0 : Nat) (x1 : Int32) : Prop :=
  (∃ fs, f a0 = some (xO 0 fs)) ∧ xSp xT0 d j_PC_isTree [.ref a0, .int x1] f (fun w1 f2 => xvi w1 (fun v3 => xbr (v3 = 0) (E (some (.int (-1))) f2) (xgr f2 a0 0 6 (fun r4 => xgr f2 a0 0 2 (fun r5 => xrl f2 r5 4 x1 (fun r6 => (∃ fs, f2 r4 = some (xO 10 fs)) ∧ xSp xT0 d j_Dk_write [.ref r4, .ref r6] f2 (fun w7 f8 => xvi w7 (fun v9 => E (some (.int v9)) f8))))))))
theorem b_PC_install_0 {d : Nat} {E : Option Value → xH → Prop} {f : xH} {a0 : Nat} {x1 : Int32} (h : B_PC_install_0 d E f a0 x1) : xWp (xT0, xSp xT0 d, none, m_PC_install, E) 0 [some (.ref a0), some (.int x1)] [] f 0 0 := by
  unfold B_PC_install_0 at h
  refine s_aln l_PC_install_0 rfl ?_
  refine s_iln l_PC_install_1 rfl ?_
  refine s_cvi (As := [.int x1]) (r := []) l_PC_install_2 rfl ⟨rfl, rfl⟩ rfl (Nat.le_of_ble_eq_true rfl) rfl ⟨Nat.zero_le _, Nat.zero_le _⟩ h (fun v3 f2 h => ?_)
  refine s_if l_PC_install_5 h (fun h => ?_) (fun h => ?_)
  · refine s_ic (-1) l_PC_install_24 rfl ?_
    exact s_iret l_PC_install_25 rfl ⟨Nat.zero_le _, Nat.zero_le _⟩ h
  · refine s_aln l_PC_install_8 rfl ?_
    refine s_gr l_PC_install_9 h (fun r4 h => ?_)
    refine s_aln l_PC_install_12 rfl ?_
    refine s_gr l_PC_install_13 h (fun r5 h => ?_)
    refine s_iln l_PC_install_16 rfl ?_
    refine s_aal l_PC_install_17 h (fun r6 h => ?_)
    refine s_cvi (As := [.ref r6]) (r := []) l_PC_install_18 rfl ⟨rfl, rfl⟩ rfl (Nat.le_of_ble_eq_true rfl) rfl ⟨Nat.zero_le _, Nat.zero_le _⟩ h (fun v9 f8 h => ?_)
    refine s_goto l_PC_install_21 ?_
    exact s_iret l_PC_install_25 rfl ⟨Nat.zero_le _, Nat.zero_le _⟩ h
theorem l_PC_open_0 : xlk (xm_cd m_PC_open) 0 = some (.aload_n 0, 1, (0, 0, 0, [])) := rfl
theorem l_PC_open_1 : xlk (xm_cd m_PC_open) 1 = some (.getfield 56, 3, (268, 0, 7, [])) := rfl
theorem l_PC_open_4 : xlk (xm_cd m_PC_open) 4 = some (.bipush 12, 2, (0, 0, 0, [])) := rfl
theorem l_PC_open_6 : xlk (xm_cd m_PC_open) 6 = some (.if_icmp .lt 6, 3, (0, 12, 0, [])) := rfl
theorem l_PC_open_9 : xlk (xm_cd m_PC_open) 9 = some (.bipush (-3), 2, (0, 0, 0, [])) := rfl
theorem l_PC_open_11 : xlk (xm_cd m_PC_open) 11 = some (.ireturn, 1, (0, 0, 0, [])) := rfl
theorem l_PC_open_12 : xlk (xm_cd m_PC_open) 12 = some (.aload_n 0, 1, (0, 0, 0, [])) := rfl
theorem l_PC_open_13 : xlk (xm_cd m_PC_open) 13 = some (.getfield 52, 3, (267, 0, 6, [])) := rfl
theorem l_PC_open_16 : xlk (xm_cd m_PC_open) 16 = some (.aload_n 0, 1, (0, 0, 0, [])) := rfl
theorem l_PC_open_17 : xlk (xm_cd m_PC_open) 17 = some (.getfield 23, 3, (263, 0, 2, [])) := rfl
theorem l_PC_open_20 : xlk (xm_cd m_PC_open) 20 = some (.aload_n 0, 1, (0, 0, 0, [])) := rfl
theorem l_PC_open_21 : xlk (xm_cd m_PC_open) 21 = some (.getfield 56, 3, (268, 0, 7, [])) := rfl
theorem l_PC_open_24 : xlk (xm_cd m_PC_open) 24 = some (.aaload, 1, (0, 4, 0, [])) := rfl
theorem l_PC_open_25 : xlk (xm_cd m_PC_open) 25 = some (.invokevirtual 194, 3, (803, 137, 1, [])) := rfl
theorem l_PC_open_28 : xlk (xm_cd m_PC_open) 28 = some (.aload_n 0, 1, (0, 0, 0, [])) := rfl
theorem l_PC_open_29 : xlk (xm_cd m_PC_open) 29 = some (.invokevirtual 91, 3, (338, 25, 0, [])) := rfl
theorem l_PC_open_32 : xlk (xm_cd m_PC_open) 32 = some (.ireturn, 1, (0, 0, 0, [])) := rfl
def B_PC_open_0 (d : Nat) (E : Option Value → xH → Prop) (f : xH) (a0 : Nat) : Prop :=
  xgi f a0 0 7 (fun v1 => xbr (v1 < 12) (xgr f a0 0 6 (fun r2 => xgr f a0 0 2 (fun r3 => xgi f a0 0 7 (fun v4 => xrl f r3 4 v4 (fun r5 => (∃ fs, f r2 = some (xO 10 fs)) ∧ xSp xT0 d j_Dk_read [.ref r2, .ref r5] f (fun w6 f7 => xvv w6 ((∃ fs, f7 a0 = some (xO 0 fs)) ∧ xSp xT0 d j_PC_keepTree [.ref a0] f7 (fun w8 f9 => xvi w8 (fun v10 => E (some (.int v10)) f9))))))))) (E (some (.int (-3))) f))
theorem b_PC_open_0 {d : Nat} {E : Option Value → xH → Prop} {f : xH} {a0 : Nat} (h : B_PC_open_0 d E f a0) : xWp (xT0, xSp xT0 d, none, m_PC_open, E) 0 [some (.ref a0)] [] f 0 0 := by
  unfold B_PC_open_0 at h
  refine s_aln l_PC_open_0 rfl ?_
  refine s_gi l_PC_open_1 h (fun v1 h => ?_)
  refine s_bp 12 l_PC_open_4 rfl ?_
  refine s_ifc l_PC_open_6 h (fun h => ?_) (fun h => ?_)
  · refine s_aln l_PC_open_12 rfl ?_
    refine s_gr l_PC_open_13 h (fun r2 h => ?_)
    refine s_aln l_PC_open_16 rfl ?_
    refine s_gr l_PC_open_17 h (fun r3 h => ?_)
    refine s_aln l_PC_open_20 rfl ?_
    refine s_gi l_PC_open_21 h (fun v4 h => ?_)
    refine s_aal l_PC_open_24 h (fun r5 h => ?_)
    refine s_cvv (As := [.ref r5]) (r := []) l_PC_open_25 rfl ⟨rfl, rfl⟩ rfl (Nat.le_of_ble_eq_true rfl) rfl ⟨Nat.zero_le _, Nat.zero_le _⟩ h (fun f7 h => ?_)
    refine s_aln l_PC_open_28 rfl ?_
    refine s_cvi (As := []) (r := []) l_PC_open_29 rfl ⟨rfl, rfl⟩ rfl (Nat.le_of_ble_eq_true rfl) rfl ⟨Nat.zero_le _, Nat.zero_le _⟩ h (fun v10 f9 h => ?_)
    exact s_iret l_PC_open_32 rfl ⟨Nat.zero_le _, Nat.zero_le _⟩ h
  · refine s_bp (-3) l_PC_open_9 rfl ?_
    exact s_iret l_PC_open_11 rfl ⟨Nat.zero_le _, Nat.zero_le _⟩ h
theorem l_PC_slot_0 : xlk (xm_cd m_PC_slot) 0 = some (.aload_n 0, 1, (0, 0, 0, [])) := rfl
theorem l_PC_slot_1 : xlk (xm_cd m_PC_slot) 1 = some (.getfield 52, 3, (267, 0, 6, [])) := rfl
theorem l_PC_slot_4 : xlk (xm_cd m_PC_slot) 4 = some (.iload_n 1, 1, (0, 0, 0, [])) := rfl
theorem l_PC_slot_5 : xlk (xm_cd m_PC_slot) 5 = some (.iload_n 2, 1, (0, 0, 0, [])) := rfl
theorem l_PC_slot_6 : xlk (xm_cd m_PC_slot) 6 = some (.invokevirtual 197, 3, (817, 140, 2, [])) := rfl
theorem l_PC_slot_9 : xlk (xm_cd m_PC_slot) 9 = some (.ireturn, 1, (0, 0, 0, [])) := rfl
def B_PC_slot_0 (d : Nat) (E : Option Value → xH → Prop) (f : xH) (a0 : Nat) (x1 : Int32) (x2 : Int32) : Prop :=
  xgr f a0 0 6 (fun r1 => (∃ fs, f r1 = some (xO 10 fs)) ∧ xSp xT0 d j_Dk_tellSlot [.ref r1, .int x1, .int x2] f (fun w2 f3 => xvi w2 (fun v4 => E (some (.int v4)) f3)))
theorem b_PC_slot_0 {d : Nat} {E : Option Value → xH → Prop} {f : xH} {a0 : Nat} {x1 : Int32} {x2 : Int32} (h : B_PC_slot_0 d E f a0 x1 x2) : xWp (xT0, xSp xT0 d, none, m_PC_slot, E) 0 [some (.ref a0), some (.int x1), some (.int x2)] [] f 0 0 := by
  unfold B_PC_slot_0 at h
  refine s_aln l_PC_slot_0 rfl ?_
  refine s_gr l_PC_slot_1 h (fun r1 h => ?_)
  refine s_iln l_PC_slot_4 rfl ?_
  refine s_iln l_PC_slot_5 rfl ?_
  refine s_cvi (As := [.int x1, .int x2]) (r := []) l_PC_slot_6 rfl ⟨rfl, rfl⟩ rfl (Nat.le_of_ble_eq_true rfl) rfl ⟨Nat.zero_le _, Nat.zero_le _⟩ h (fun v4 f3 h => ?_)
  exact s_iret l_PC_slot_9 rfl ⟨Nat.zero_le _, Nat.zero_le _⟩ h
theorem l_PC_count_0 : xlk (xm_cd m_PC_count) 0 = some (.iload_n 1, 1, (0, 0, 0, [])) := rfl
theorem l_PC_count_1 : xlk (xm_cd m_PC_count) 1 = some (.tableswitch 113 0 7 #[47, 52, 57, 65, 73, 81, 89, 105], 47, (0, 114, 0, [(0, 48), (1, 53), (2, 58), (3, 66), (4, 74), (5, 82), (6, 90), (7, 106)])) := rfl
theorem l_PC_count_48 : xlk (xm_cd m_PC_count) 48 = some (.aload_n 0, 1, (0, 0, 0, [])) := rfl
theorem l_PC_count_49 : xlk (xm_cd m_PC_count) 49 = some (.getfield 56, 3, (268, 0, 7, [])) := rfl
theorem l_PC_count_52 : xlk (xm_cd m_PC_count) 52 = some (.ireturn, 1, (0, 0, 0, [])) := rfl
theorem l_PC_count_53 : xlk (xm_cd m_PC_count) 53 = some (.aload_n 0, 1, (0, 0, 0, [])) := rfl
theorem l_PC_count_54 : xlk (xm_cd m_PC_count) 54 = some (.getfield 60, 3, (269, 0, 8, [])) := rfl
theorem l_PC_count_57 : xlk (xm_cd m_PC_count) 57 = some (.ireturn, 1, (0, 0, 0, [])) := rfl
theorem l_PC_count_58 : xlk (xm_cd m_PC_count) 58 = some (.aload_n 0, 1, (0, 0, 0, [])) := rfl
theorem l_PC_count_59 : xlk (xm_cd m_PC_count) 59 = some (.getfield 14, 3, (261, 0, 0, [])) := rfl
theorem l_PC_count_62 : xlk (xm_cd m_PC_count) 62 = some (.invokevirtual 63, 3, (283, 12, 0, [])) := rfl
theorem l_PC_count_65 : xlk (xm_cd m_PC_count) 65 = some (.ireturn, 1, (0, 0, 0, [])) := rfl
theorem l_PC_count_66 : xlk (xm_cd m_PC_count) 66 = some (.aload_n 0, 1, (0, 0, 0, [])) := rfl
theorem l_PC_count_67 : xlk (xm_cd m_PC_count) 67 = some (.getfield 18, 3, (262, 0, 1, [])) := rfl
theorem l_PC_count_70 : xlk (xm_cd m_PC_count) 70 = some (.invokevirtual 63, 3, (283, 12, 0, [])) := rfl
theorem l_PC_count_73 : xlk (xm_cd m_PC_count) 73 = some (.ireturn, 1, (0, 0, 0, [])) := rfl
theorem l_PC_count_74 : xlk (xm_cd m_PC_count) 74 = some (.aload_n 0, 1, (0, 0, 0, [])) := rfl
theorem l_PC_count_75 : xlk (xm_cd m_PC_count) 75 = some (.getfield 52, 3, (267, 0, 6, [])) := rfl
theorem l_PC_count_78 : xlk (xm_cd m_PC_count) 78 = some (.invokevirtual 200, 3, (827, 142, 0, [])) := rfl
theorem l_PC_count_81 : xlk (xm_cd m_PC_count) 81 = some (.ireturn, 1, (0, 0, 0, [])) := rfl
theorem l_PC_count_82 : xlk (xm_cd m_PC_count) 82 = some (.aload_n 0, 1, (0, 0, 0, [])) := rfl
theorem l_PC_count_83 : xlk (xm_cd m_PC_count) 83 = some (.getfield 52, 3, (267, 0, 6, [])) := rfl
theorem l_PC_count_86 : xlk (xm_cd m_PC_count) 86 = some (.invokevirtual 203, 3, (831, 143, 0, [])) := rfl
theorem l_PC_count_89 : xlk (xm_cd m_PC_count) 89 = some (.ireturn, 1, (0, 0, 0, [])) := rfl
theorem l_PC_count_90 : xlk (xm_cd m_PC_count) 90 = some (.aload_n 0, 1, (0, 0, 0, [])) := rfl
theorem l_PC_count_91 : xlk (xm_cd m_PC_count) 91 = some (.getfield 52, 3, (267, 0, 6, [])) := rfl
theorem l_PC_count_94 : xlk (xm_cd m_PC_count) 94 = some (.invokevirtual 206, 3, (835, 144, 0, [])) := rfl
theorem l_PC_count_97 : xlk (xm_cd m_PC_count) 97 = some (.ifCond .eq 7, 3, (0, 104, 0, [])) := rfl
theorem l_PC_count_100 : xlk (xm_cd m_PC_count) 100 = some (.iconst 1, 1, (0, 0, 0, [])) := rfl
theorem l_PC_count_101 : xlk (xm_cd m_PC_count) 101 = some (.goto 4, 3, (0, 105, 0, [])) := rfl
theorem l_PC_count_104 : xlk (xm_cd m_PC_count) 104 = some (.iconst 0, 1, (0, 0, 0, [])) := rfl
theorem l_PC_count_105 : xlk (xm_cd m_PC_count) 105 = some (.ireturn, 1, (0, 0, 0, [])) := rfl
theorem l_PC_count_106 : xlk (xm_cd m_PC_count) 106 = some (.aload_n 0, 1, (0, 0, 0, [])) := rfl
theorem l_PC_count_107 : xlk (xm_cd m_PC_count) 107 = some (.getfield 52, 3, (267, 0, 6, [])) := rfl
theorem l_PC_count_110 : xlk (xm_cd m_PC_count) 110 = some (.invokevirtual 210, 3, (839, 145, 0, [])) := rfl
theorem l_PC_count_113 : xlk (xm_cd m_PC_count) 113 = some (.ireturn, 1, (0, 0, 0, [])) := rfl
theorem l_PC_count_114 : xlk (xm_cd m_PC_count) 114 = some (.iconst (-1), 1, (0, 0, 0, [])) := rfl
theorem l_PC_count_115 : xlk (xm_cd m_PC_count) 115 = some (.ireturn, 1, (0, 0, 0, [])) := rfl
def B_PC_count_0 (d : Nat) (E : Option Value → xH → Prop) (f : xH) (a0 : Nat) (x1 : Int32) : Prop :=
  xbr (x1 = 0) (xgi f a0 0 7 (fun v1 => E (some (.int v1)) f)) (xbr (x1 = 1) (xgi f a0 0 8 (fun v2 => E (some (.int v2)) f)) (xbr (x1 = 2) (xgr f a0 0 0 (fun r3 => (∃ fs, f r3 = some (xO 1 fs)) ∧ xSp xT0 d j_By_size [.ref r3] f (fun w4 f5 => xvi w4 (fun v6 => E (some (.int v6)) f5)))) (xbr (x1 = 3) (xgr f a0 0 1 (fun r7 => (∃ fs, f r7 = some (xO 1 fs)) ∧ xSp xT0 d j_By_size [.ref r7] f (fun w8 f9 => xvi w8 (fun v10 => E (some (.int v10)) f9)))) (xbr (x1 = 4) (xgr f a0 0 6 (fun r11 => (∃ fs, f r11 = some (xO 10 fs)) ∧ xSp xT0 d j_Dk_listed [.ref r11] f (fun w12 f13 => xvi w12 (fun v14 => E (some (.int v14)) f13)))) (xbr (x1 = 5) (xgr f a0 0 6 (fun r15 => (∃ fs, f r15 = some (xO 10 fs)) ∧ xSp xT0 d j_Dk_writings [.ref r15] f (fun w16 f17 => xvi w16 (fun v18 => E (some (.int v18)) f17)))) (xbr (x1 = 6) (xgr f a0 0 6 (fun r19 => (∃ fs, f r19 = some (xO 10 fs)) ∧ xSp xT0 d j_Dk_isDown [.ref r19] f (fun w20 f21 => xvi w20 (fun v22 => xbr (v22 = 0) (E (some (.int 0)) f21) (E (some (.int 1)) f21))))) (xbr (x1 = 7) (xgr f a0 0 6 (fun r23 => (∃ fs, f r23 = some (xO 10 fs)) ∧ xSp xT0 d j_Dk_counting [.ref r23] f (fun w24 f25 => xvi w24 (fun v26 => E (some (.int v26)) f25)))) (E (some (.int (-1))) f))))))))
theorem b_PC_count_0 {d : Nat} {E : Option Value → xH → Prop} {f : xH} {a0 : Nat} {x1 : Int32} (h : B_PC_count_0 d E f a0 x1) : xWp (xT0, xSp xT0 d, none, m_PC_count, E) 0 [some (.ref a0), some (.int x1)] [] f 0 0 := by
  unfold B_PC_count_0 at h
  refine s_iln l_PC_count_0 rfl ?_
  refine s_ts l_PC_count_1 ⟨fun q0 => ?_, fun n0 => ⟨fun q1 => ?_, fun n1 => ⟨fun q2 => ?_, fun n2 => ⟨fun q3 => ?_, fun n3 => ⟨fun q4 => ?_, fun n4 => ⟨fun q5 => ?_, fun n5 => ⟨fun q6 => ?_, fun n6 => ⟨fun q7 => ?_, fun n7 => ?_⟩⟩⟩⟩⟩⟩⟩⟩
  · have h := (h).1 q0
    refine s_aln l_PC_count_48 rfl ?_
    refine s_gi l_PC_count_49 h (fun v1 h => ?_)
    exact s_iret l_PC_count_52 rfl ⟨Nat.zero_le _, Nat.zero_le _⟩ h
  · have h := ((h).2 n0).1 q1
    refine s_aln l_PC_count_53 rfl ?_
    refine s_gi l_PC_count_54 h (fun v2 h => ?_)
    exact s_iret l_PC_count_57 rfl ⟨Nat.zero_le _, Nat.zero_le _⟩ h
  · have h := (((h).2 n0).2 n1).1 q2
    refine s_aln l_PC_count_58 rfl ?_
    refine s_gr l_PC_count_59 h (fun r3 h => ?_)
    refine s_cvi (As := []) (r := []) l_PC_count_62 rfl ⟨rfl, rfl⟩ rfl (Nat.le_of_ble_eq_true rfl) rfl ⟨Nat.zero_le _, Nat.zero_le _⟩ h (fun v6 f5 h => ?_)
    exact s_iret l_PC_count_65 rfl ⟨Nat.zero_le _, Nat.zero_le _⟩ h
  · have h := ((((h).2 n0).2 n1).2 n2).1 q3
    refine s_aln l_PC_count_66 rfl ?_
    refine s_gr l_PC_count_67 h (fun r7 h => ?_)
    refine s_cvi (As := []) (r := []) l_PC_count_70 rfl ⟨rfl, rfl⟩ rfl (Nat.le_of_ble_eq_true rfl) rfl ⟨Nat.zero_le _, Nat.zero_le _⟩ h (fun v10 f9 h => ?_)
    exact s_iret l_PC_count_73 rfl ⟨Nat.zero_le _, Nat.zero_le _⟩ h
  · have h := (((((h).2 n0).2 n1).2 n2).2 n3).1 q4
    refine s_aln l_PC_count_74 rfl ?_
    refine s_gr l_PC_count_75 h (fun r11 h => ?_)
    refine s_cvi (As := []) (r := []) l_PC_count_78 rfl ⟨rfl, rfl⟩ rfl (Nat.le_of_ble_eq_true rfl) rfl ⟨Nat.zero_le _, Nat.zero_le _⟩ h (fun v14 f13 h => ?_)
    exact s_iret l_PC_count_81 rfl ⟨Nat.zero_le _, Nat.zero_le _⟩ h
  · have h := ((((((h).2 n0).2 n1).2 n2).2 n3).2 n4).1 q5
    refine s_aln l_PC_count_82 rfl ?_
    refine s_gr l_PC_count_83 h (fun r15 h => ?_)
    refine s_cvi (As := []) (r := []) l_PC_count_86 rfl ⟨rfl, rfl⟩ rfl (Nat.le_of_ble_eq_true rfl) rfl ⟨Nat.zero_le _, Nat.zero_le _⟩ h (fun v18 f17 h => ?_)
    exact s_iret l_PC_count_89 rfl ⟨Nat.zero_le _, Nat.zero_le _⟩ h
  · have h := (((((((h).2 n0).2 n1).2 n2).2 n3).2 n4).2 n5).1 q6
    refine s_aln l_PC_count_90 rfl ?_
    refine s_gr l_PC_count_91 h (fun r19 h => ?_)
    refine s_cvi (As := []) (r := []) l_PC_count_94 rfl ⟨rfl, rfl⟩ rfl (Nat.le_of_ble_eq_true rfl) rfl ⟨Nat.zero_le _, Nat.zero_le _⟩ h (fun v22 f21 h => ?_)
    refine s_if l_PC_count_97 h (fun h => ?_) (fun h => ?_)
    · refine s_ic 0 l_PC_count_104 rfl ?_
      exact s_iret l_PC_count_105 rfl ⟨Nat.zero_le _, Nat.zero_le _⟩ h
    · refine s_ic 1 l_PC_count_100 rfl ?_
      refine s_goto l_PC_count_101 ?_
      exact s_iret l_PC_count_105 rfl ⟨Nat.zero_le _, Nat.zero_le _⟩ h
  · have h := ((((((((h).2 n0).2 n1).2 n2).2 n3).2 n4).2 n5).2 n6).1 q7
    refine s_aln l_PC_count_106 rfl ?_
    refine s_gr l_PC_count_107 h (fun r23 h => ?_)
    refine s_cvi (As := []) (r := []) l_PC_count_110 rfl ⟨rfl, rfl⟩ rfl (Nat.le_of_ble_eq_true rfl) rfl ⟨Nat.zero_le _, Nat.zero_le _⟩ h (fun v26 f25 h => ?_)
    exact s_iret l_PC_count_113 rfl ⟨Nat.zero_le _, Nat.zero_le _⟩ h
  · have h := ((((((((h).2 n0).2 n1).2 n2).2 n3).2 n4).2 n5).2 n6).2 n7
    refine s_ic (-1) l_PC_count_114 rfl ?_
    exact s_iret l_PC_count_115 rfl ⟨Nat.zero_le _, Nat.zero_le _⟩ h
