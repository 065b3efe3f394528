/-! walks, printed by a program of mine: each method meets its function -/
theorem dX12_empties_0 : decode cX12_empties 0 = .ok (.aload_n 0, 1) := by decide +kernel
theorem dX12_empties_1 : decode cX12_empties 1 = .ok (.iconst 0, 1) := by decide +kernel
theorem dX12_empties_2 : decode cX12_empties 2 = .ok (.putfield 131, 3) := by decide +kernel
theorem dX12_empties_5 : decode cX12_empties 5 = .ok (.aload_n 0, 1) := by decide +kernel
theorem dX12_empties_6 : decode cX12_empties 6 = .ok (.getfield 108, 3) := by decide +kernel
theorem dX12_empties_9 : decode cX12_empties 9 = .ok (.istore_n 1, 1) := by decide +kernel
theorem dX12_empties_10 : decode cX12_empties 10 = .ok (.aload_n 0, 1) := by decide +kernel
theorem dX12_empties_11 : decode cX12_empties 11 = .ok (.iconst 0, 1) := by decide +kernel
theorem dX12_empties_12 : decode cX12_empties 12 = .ok (.putfield 108, 3) := by decide +kernel
theorem dX12_empties_15 : decode cX12_empties 15 = .ok (.iload_n 1, 1) := by decide +kernel
theorem dX12_empties_16 : decode cX12_empties 16 = .ok (.ireturn, 1) := by decide +kernel
set_option maxRecDepth 100000 in
set_option maxHeartbeats 4000000 in
theorem c_X12_empties {l : Launch} {G : Gx} (hap : k_ap G shR.length) (M0 : Mem) (r : Int32 × Mem) (hf : f_X12_empties M0 = some r) : k_Met l yX12_empties cX12_empties 2 (some .int) 0 0 G shR [.ref (G.2.1 0)] M0 (k_Qi G shR r.1 r.2) := by
  refine k_Met_of (by decide) hap (Nat.le_of_ble_eq_true rfl) ?_
  intro p e s m args below meth c C hr hlk
  have C : Cx p s m args c cX12_empties RX12 2 G shR := C
  unfold f_X12_empties at hf
  refine k_lv (lv' := [(0, .ref (G.2.1 0))]) [0] rfl ?_
  refine k_aload_n C dX12_empties_0 0 rfl ?_
  refine k_iconst C dX12_empties_1 (v := (0 : Int32)) rfl ?_
  refine k_put C shR_0 (j := 20) rfl FL_X12_131 FW_X12_20 dX12_empties_2 ?_
  refine k_aload_n C dX12_empties_5 0 rfl ?_
  refine k_geti C shR_0 (j := 6) rfl FL_X12_108 dX12_empties_6 ?_
  refine k_istore_n C dX12_empties_9 (by decide) [1, 0] (lv' := [(0, .ref (G.2.1 0)), (1, .int ((wI M0 0 20 (0 : Int32)).1 0 6))]) rfl ?_
  refine k_aload_n C dX12_empties_10 0 rfl ?_
  refine k_iconst C dX12_empties_11 (v := (0 : Int32)) rfl ?_
  refine k_put C shR_0 (j := 6) rfl FL_X12_108 FW_X12_6 dX12_empties_12 ?_
  refine k_iload_n C dX12_empties_15 1 rfl ?_
  exact k_iret C hr hlk (prf hf) (prs hf) dX12_empties_16
theorem dX12_turn_0 : decode cX12_turn 0 = .ok (.aload_n 0, 1) := by decide +kernel
theorem dX12_turn_1 : decode cX12_turn 1 = .ok (.iload_n 1, 1) := by decide +kernel
theorem dX12_turn_2 : decode cX12_turn 2 = .ok (.invokevirtual 104, 3) := by decide +kernel
theorem dX12_turn_5 : decode cX12_turn 5 = .ok (.ifCond .ne 7, 3) := by decide +kernel
theorem dX12_turn_8 : decode cX12_turn 8 = .ok (.iconst (-1), 1) := by decide +kernel
theorem dX12_turn_9 : decode cX12_turn 9 = .ok (.goto 24, 3) := by decide +kernel
theorem dX12_turn_12 : decode cX12_turn 12 = .ok (.iload_n 2, 1) := by decide +kernel
theorem dX12_turn_13 : decode cX12_turn 13 = .ok (.iconst 0, 1) := by decide +kernel
theorem dX12_turn_14 : decode cX12_turn 14 = .ok (.iconst 5, 1) := by decide +kernel
theorem dX12_turn_15 : decode cX12_turn 15 = .ok (.invokestatic 86, 3) := by decide +kernel
theorem dX12_turn_18 : decode cX12_turn 18 = .ok (.ifCond .ne 8, 3) := by decide +kernel
theorem dX12_turn_21 : decode cX12_turn 21 = .ok (.bipush (-2), 2) := by decide +kernel
theorem dX12_turn_23 : decode cX12_turn 23 = .ok (.goto 10, 3) := by decide +kernel
theorem dX12_turn_26 : decode cX12_turn 26 = .ok (.iload_n 3, 1) := by decide +kernel
theorem dX12_turn_27 : decode cX12_turn 27 = .ok (.iconst 0, 1) := by decide +kernel
theorem dX12_turn_28 : decode cX12_turn 28 = .ok (.bipush 9, 2) := by decide +kernel
theorem dX12_turn_30 : decode cX12_turn 30 = .ok (.invokestatic 68, 3) := by decide +kernel
theorem dX12_turn_33 : decode cX12_turn 33 = .ok (.istore 4, 2) := by decide +kernel
theorem dX12_turn_35 : decode cX12_turn 35 = .ok (.iload 4, 2) := by decide +kernel
theorem dX12_turn_37 : decode cX12_turn 37 = .ok (.ifCond .eq 10, 3) := by decide +kernel
theorem dX12_turn_40 : decode cX12_turn 40 = .ok (.aload_n 0, 1) := by decide +kernel
theorem dX12_turn_41 : decode cX12_turn 41 = .ok (.iload 4, 2) := by decide +kernel
theorem dX12_turn_43 : decode cX12_turn 43 = .ok (.invokevirtual 75, 3) := by decide +kernel
theorem dX12_turn_46 : decode cX12_turn 46 = .ok (.ireturn, 1) := by decide +kernel
theorem dX12_turn_47 : decode cX12_turn 47 = .ok (.aload_n 0, 1) := by decide +kernel
theorem dX12_turn_48 : decode cX12_turn 48 = .ok (.invokevirtual 167, 3) := by decide +kernel
theorem dX12_turn_51 : decode cX12_turn 51 = .ok (.bipush 10, 2) := by decide +kernel
theorem dX12_turn_53 : decode cX12_turn 53 = .ok (.aload_n 0, 1) := by decide +kernel
theorem dX12_turn_54 : decode cX12_turn 54 = .ok (.getfield 13, 3) := by decide +kernel
theorem dX12_turn_57 : decode cX12_turn 57 = .ok (.iload_n 1, 1) := by decide +kernel
theorem dX12_turn_58 : decode cX12_turn 58 = .ok (.iaload, 1) := by decide +kernel
theorem dX12_turn_59 : decode cX12_turn 59 = .ok (.imul, 1) := by decide +kernel
theorem dX12_turn_60 : decode cX12_turn 60 = .ok (.aload_n 0, 1) := by decide +kernel
theorem dX12_turn_61 : decode cX12_turn 61 = .ok (.getfield 16, 3) := by decide +kernel
theorem dX12_turn_64 : decode cX12_turn 64 = .ok (.iload_n 1, 1) := by decide +kernel
theorem dX12_turn_65 : decode cX12_turn 65 = .ok (.iaload, 1) := by decide +kernel
theorem dX12_turn_66 : decode cX12_turn 66 = .ok (.iadd, 1) := by decide +kernel
theorem dX12_turn_67 : decode cX12_turn 67 = .ok (.istore 5, 2) := by decide +kernel
theorem dX12_turn_69 : decode cX12_turn 69 = .ok (.aload_n 0, 1) := by decide +kernel
theorem dX12_turn_70 : decode cX12_turn 70 = .ok (.getfield 13, 3) := by decide +kernel
theorem dX12_turn_73 : decode cX12_turn 73 = .ok (.iload_n 1, 1) := by decide +kernel
theorem dX12_turn_74 : decode cX12_turn 74 = .ok (.iload_n 2, 1) := by decide +kernel
theorem dX12_turn_75 : decode cX12_turn 75 = .ok (.iastore, 1) := by decide +kernel
theorem dX12_turn_76 : decode cX12_turn 76 = .ok (.aload_n 0, 1) := by decide +kernel
theorem dX12_turn_77 : decode cX12_turn 77 = .ok (.getfield 16, 3) := by decide +kernel
theorem dX12_turn_80 : decode cX12_turn 80 = .ok (.iload_n 1, 1) := by decide +kernel
theorem dX12_turn_81 : decode cX12_turn 81 = .ok (.iload_n 3, 1) := by decide +kernel
theorem dX12_turn_82 : decode cX12_turn 82 = .ok (.iastore, 1) := by decide +kernel
theorem dX12_turn_83 : decode cX12_turn 83 = .ok (.iload 5, 2) := by decide +kernel
theorem dX12_turn_85 : decode cX12_turn 85 = .ok (.ireturn, 1) := by decide +kernel
set_option maxRecDepth 100000 in
set_option maxHeartbeats 4000000 in
theorem c_X12_turn {l : Launch} {G : Gx} (hap : k_ap G shR.length) (v1 : Int32) (v2 : Int32) (v3 : Int32) (M0 : Mem) (r : Int32 × Mem) (hf : f_X12_turn v1 v2 v3 M0 = some r) : k_Met l yX12_turn cX12_turn 6 (some .int) 3 65 G shR [.ref (G.2.1 0), .int v1, .int v2, .int v3] M0 (k_Qi G shR r.1 r.2) := by
  refine k_Met_of (by decide) hap (Nat.le_of_ble_eq_true rfl) ?_
  intro p e s m args below meth c C hr hlk
  have C : Cx p s m args c cX12_turn RX12 6 G shR := C
  have k_b33 : ∀ (v1 : Int32) (v2 : Int32) (v3 : Int32) (s0 : Int32) (M : Mem), f_X12_turn_b33 v1 v2 v3 s0 M = some r → K p l e (k_rm 3 65) s m args below meth c 6 G shR (MQ below (k_Qi G shR r.1 r.2) args s 0 0 (k_A G shR.length)) 33 [(0, .ref (G.2.1 0)), (1, .int v1), (2, .int v2), (3, .int v3)] [.int s0] M := by
    intro v1 v2 v3 s0 M hf
    unfold f_X12_turn_b33 at hf
    refine k_istore C dX12_turn_33 (by decide) [1, 2, 3, 4, 0] (lv' := [(0, .ref (G.2.1 0)), (1, .int v1), (2, .int v2), (3, .int v3), (4, .int s0)]) rfl ?_
    refine k_iload C dX12_turn_35 4 rfl ?_
    rcases ite_g hf with ⟨c1, hf⟩ | ⟨c1, hf⟩
    · refine k_if_eq_t C dX12_turn_37 (tgt := 47) (by decide) c1 ?_
      refine k_aload_n C dX12_turn_47 0 rfl ?_
      obtain ⟨M2, hM2, hf⟩ := bnd hf
      refine k_callVv C (As := []) (c_X12_keepsBack hap M M2 hM2) ML_X12_keepsBack wd_1447 shR_0 rfl rfl rfl ⟨Nat.le_of_ble_eq_true rfl, Nat.le_of_ble_eq_true rfl⟩ (Nat.le_of_ble_eq_true rfl) dX12_turn_48 ?_
      refine k_bipush C dX12_turn_51 (v := (10 : Int32)) rfl ?_
      refine k_aload_n C dX12_turn_53 0 rfl ?_
      refine k_getr C shR_0 (j := 1) rfl FL_X12_13 dX12_turn_54 ?_
      refine k_iload_n C dX12_turn_57 1 rfl ?_
      obtain ⟨t3, ht3, hf⟩ := bnd hf
      refine k_iald C shR_2 ht3 dX12_turn_58 ?_
      refine k_imul C dX12_turn_59 ?_
      refine k_aload_n C dX12_turn_60 0 rfl ?_
      refine k_getr C shR_0 (j := 2) rfl FL_X12_16 dX12_turn_61 ?_
      refine k_iload_n C dX12_turn_64 1 rfl ?_
      obtain ⟨t4, ht4, hf⟩ := bnd hf
      refine k_iald C shR_3 ht4 dX12_turn_65 ?_
      refine k_iadd C dX12_turn_66 ?_
      refine k_istore C dX12_turn_67 (by decide) [1, 2, 3, 4, 0] (lv' := [(0, .ref (G.2.1 0)), (1, .int v1), (2, .int v2), (3, .int v3), (5, .int (((10 : Int32) * t3) + t4))]) rfl ?_
      refine k_aload_n C dX12_turn_69 0 rfl ?_
      refine k_getr C shR_0 (j := 1) rfl FL_X12_13 dX12_turn_70 ?_
      refine k_iload_n C dX12_turn_73 1 rfl ?_
      refine k_iload_n C dX12_turn_74 2 rfl ?_
      obtain ⟨M5, hM5, hf⟩ := bnd hf
      refine k_iast C shR_2 hM5 dX12_turn_75 ?_
      refine k_aload_n C dX12_turn_76 0 rfl ?_
      refine k_getr C shR_0 (j := 2) rfl FL_X12_16 dX12_turn_77 ?_
      refine k_iload_n C dX12_turn_80 1 rfl ?_
      refine k_iload_n C dX12_turn_81 3 rfl ?_
      obtain ⟨M6, hM6, hf⟩ := bnd hf
      refine k_iast C shR_3 hM6 dX12_turn_82 ?_
      refine k_iload C dX12_turn_83 4 rfl ?_
      exact k_iret C hr hlk (prf hf) (prs hf) dX12_turn_85
    · refine k_if_eq_f C dX12_turn_37 (tgt := 47) (by decide) c1 ?_
      refine k_aload_n C dX12_turn_40 0 rfl ?_
      refine k_iload C dX12_turn_41 4 rfl ?_
      obtain ⟨⟨t7, M7⟩, ht7, hf⟩ := bnd hf
      replace hf := bp_s hf
      refine k_callVi C (As := [.int s0]) (c_X12_no hap s0 M (t7, M7) ht7) ML_X12_no wd_1369 shR_0 rfl rfl rfl ⟨Nat.le_of_ble_eq_true rfl, Nat.le_of_ble_eq_true rfl⟩ (Nat.le_of_ble_eq_true rfl) dX12_turn_43 ?_
      exact k_iret C hr hlk (prf hf) (prs hf) dX12_turn_46
  unfold f_X12_turn at hf
  refine k_lv (lv' := [(0, .ref (G.2.1 0)), (1, .int v1), (2, .int v2), (3, .int v3)]) [0, 1, 2, 3] rfl ?_
  refine k_aload_n C dX12_turn_0 0 rfl ?_
  refine k_iload_n C dX12_turn_1 1 rfl ?_
  refine k_callVi C (As := [.int v1]) (c_X12_isDoing hap v1 M0 _ rfl) ML_X12_isDoing wd_1416 shR_0 rfl rfl rfl ⟨Nat.le_of_ble_eq_true rfl, Nat.le_of_ble_eq_true rfl⟩ (Nat.le_of_ble_eq_true rfl) dX12_turn_2 ?_
  have hj8 : K p l e (k_rm 3 65) s m args below meth c 6 G shR (MQ below (k_Qi G shR r.1 r.2) args s 0 0 (k_A G shR.length)) 33 [(0, .ref (G.2.1 0)), (1, .int v1), (2, .int v2), (3, .int v3)] [.int (if (f_X12_isDoing v1 M0) = 0 then (-1 : Int32) else (if (f_X12_isIn v2 (0 : Int32) (5 : Int32)) = 0 then (-2 : Int32) else (f_X12_bound v3 (0 : Int32) (9 : Int32))))] M0 := by
    exact k_b33 v1 v2 v3 (if (f_X12_isDoing v1 M0) = 0 then (-1 : Int32) else (if (f_X12_isIn v2 (0 : Int32) (5 : Int32)) = 0 then (-2 : Int32) else (f_X12_bound v3 (0 : Int32) (9 : Int32)))) M0 hf
  by_cases c9 : (f_X12_isDoing v1 M0) = 0
  · refine k_if_ne_f C dX12_turn_5 (tgt := 12) (by decide) c9 ?_
    refine k_iconst C dX12_turn_8 (v := (-1 : Int32)) rfl ?_
    refine k_goto C dX12_turn_9 (tgt := 33) (by decide) ?_
    exact k_val (by rw [if_pos c9]) hj8
  · refine k_if_ne_t C dX12_turn_5 (tgt := 12) (by decide) c9 ?_
    refine k_iload_n C dX12_turn_12 2 rfl ?_
    refine k_iconst C dX12_turn_13 (v := (0 : Int32)) rfl ?_
    refine k_iconst C dX12_turn_14 (v := (5 : Int32)) rfl ?_
    refine k_callSi C (As := [.int v2, .int (0 : Int32), .int (5 : Int32)]) (c_X12_isIn hap v2 (0 : Int32) (5 : Int32) M0 _ rfl) MS_X12_isIn wd_1393 rfl rfl ⟨Nat.le_of_ble_eq_true rfl, Nat.le_of_ble_eq_true rfl⟩ (Nat.le_of_ble_eq_true rfl) dX12_turn_15 ?_
    by_cases c10 : (f_X12_isIn v2 (0 : Int32) (5 : Int32)) = 0
    · refine k_if_ne_f C dX12_turn_18 (tgt := 26) (by decide) c10 ?_
      refine k_bipush C dX12_turn_21 (v := (-2 : Int32)) rfl ?_
      refine k_goto C dX12_turn_23 (tgt := 33) (by decide) ?_
      exact k_val (by rw [if_neg c9, if_pos c10]) hj8
    · refine k_if_ne_t C dX12_turn_18 (tgt := 26) (by decide) c10 ?_
      refine k_iload_n C dX12_turn_26 3 rfl ?_
      refine k_iconst C dX12_turn_27 (v := (0 : Int32)) rfl ?_
      refine k_bipush C dX12_turn_28 (v := (9 : Int32)) rfl ?_
      refine k_callSi C (As := [.int v3, .int (0 : Int32), .int (9 : Int32)]) (c_X12_bound hap v3 (0 : Int32) (9 : Int32) M0 _ rfl) MS_X12_bound wd_1366 rfl rfl ⟨Nat.le_of_ble_eq_true rfl, Nat.le_of_ble_eq_true rfl⟩ (Nat.le_of_ble_eq_true rfl) dX12_turn_30 ?_
      exact k_val (by rw [if_neg c9, if_neg c10]) hj8
theorem dX12_marks_0 : decode cX12_marks 0 = .ok (.aload_n 0, 1) := by decide +kernel
theorem dX12_marks_1 : decode cX12_marks 1 = .ok (.iload_n 1, 1) := by decide +kernel
theorem dX12_marks_2 : decode cX12_marks 2 = .ok (.invokevirtual 104, 3) := by decide +kernel
theorem dX12_marks_5 : decode cX12_marks 5 = .ok (.ifCond .eq 10, 3) := by decide +kernel
theorem dX12_marks_8 : decode cX12_marks 8 = .ok (.iload_n 2, 1) := by decide +kernel
theorem dX12_marks_9 : decode cX12_marks 9 = .ok (.invokestatic 117, 3) := by decide +kernel
theorem dX12_marks_12 : decode cX12_marks 12 = .ok (.ifCond .ne 9, 3) := by decide +kernel
theorem dX12_marks_15 : decode cX12_marks 15 = .ok (.aload_n 0, 1) := by decide +kernel
theorem dX12_marks_16 : decode cX12_marks 16 = .ok (.iconst (-1), 1) := by decide +kernel
theorem dX12_marks_17 : decode cX12_marks 17 = .ok (.invokevirtual 75, 3) := by decide +kernel
theorem dX12_marks_20 : decode cX12_marks 20 = .ok (.ireturn, 1) := by decide +kernel
theorem dX12_marks_21 : decode cX12_marks 21 = .ok (.aload_n 0, 1) := by decide +kernel
theorem dX12_marks_22 : decode cX12_marks 22 = .ok (.invokevirtual 167, 3) := by decide +kernel
theorem dX12_marks_25 : decode cX12_marks 25 = .ok (.aload_n 0, 1) := by decide +kernel
theorem dX12_marks_26 : decode cX12_marks 26 = .ok (.getfield 19, 3) := by decide +kernel
theorem dX12_marks_29 : decode cX12_marks 29 = .ok (.iload_n 1, 1) := by decide +kernel
theorem dX12_marks_30 : decode cX12_marks 30 = .ok (.dup2, 1) := by decide +kernel
theorem dX12_marks_31 : decode cX12_marks 31 = .ok (.iaload, 1) := by decide +kernel
theorem dX12_marks_32 : decode cX12_marks 32 = .ok (.iconst 1, 1) := by decide +kernel
theorem dX12_marks_33 : decode cX12_marks 33 = .ok (.iload_n 2, 1) := by decide +kernel
theorem dX12_marks_34 : decode cX12_marks 34 = .ok (.ishl, 1) := by decide +kernel
theorem dX12_marks_35 : decode cX12_marks 35 = .ok (.ixor, 1) := by decide +kernel
theorem dX12_marks_36 : decode cX12_marks 36 = .ok (.iastore, 1) := by decide +kernel
theorem dX12_marks_37 : decode cX12_marks 37 = .ok (.aload_n 0, 1) := by decide +kernel
theorem dX12_marks_38 : decode cX12_marks 38 = .ok (.getfield 19, 3) := by decide +kernel
theorem dX12_marks_41 : decode cX12_marks 41 = .ok (.iload_n 1, 1) := by decide +kernel
theorem dX12_marks_42 : decode cX12_marks 42 = .ok (.iaload, 1) := by decide +kernel
theorem dX12_marks_43 : decode cX12_marks 43 = .ok (.iload_n 2, 1) := by decide +kernel
theorem dX12_marks_44 : decode cX12_marks 44 = .ok (.ishr, 1) := by decide +kernel
theorem dX12_marks_45 : decode cX12_marks 45 = .ok (.iconst 1, 1) := by decide +kernel
theorem dX12_marks_46 : decode cX12_marks 46 = .ok (.iand, 1) := by decide +kernel
theorem dX12_marks_47 : decode cX12_marks 47 = .ok (.ireturn, 1) := by decide +kernel
set_option maxRecDepth 100000 in
set_option maxHeartbeats 4000000 in
theorem c_X12_marks {l : Launch} {G : Gx} (hap : k_ap G shR.length) (v1 : Int32) (v2 : Int32) (M0 : Mem) (r : Int32 × Mem) (hf : f_X12_marks v1 v2 M0 = some r) : k_Met l yX12_marks cX12_marks 3 (some .int) 3 65 G shR [.ref (G.2.1 0), .int v1, .int v2] M0 (k_Qi G shR r.1 r.2) := by
  refine k_Met_of (by decide) hap (Nat.le_of_ble_eq_true rfl) ?_
  intro p e s m args below meth c C hr hlk
  have C : Cx p s m args c cX12_marks RX12 3 G shR := C
  unfold f_X12_marks at hf
  refine k_lv (lv' := [(0, .ref (G.2.1 0)), (1, .int v1), (2, .int v2)]) [0, 1, 2] rfl ?_
  refine k_aload_n C dX12_marks_0 0 rfl ?_
  refine k_iload_n C dX12_marks_1 1 rfl ?_
  refine k_callVi C (As := [.int v1]) (c_X12_isDoing hap v1 M0 _ rfl) ML_X12_isDoing wd_1416 shR_0 rfl rfl rfl ⟨Nat.le_of_ble_eq_true rfl, Nat.le_of_ble_eq_true rfl⟩ (Nat.le_of_ble_eq_true rfl) dX12_marks_2 ?_
  rcases ite_g hf with ⟨c1, hf⟩ | ⟨c1, hf⟩
  · refine k_if_eq_t C dX12_marks_5 (tgt := 15) (by decide) c1 ?_
    refine k_aload_n C dX12_marks_15 0 rfl ?_
    refine k_iconst C dX12_marks_16 (v := (-1 : Int32)) rfl ?_
    obtain ⟨⟨t2, M2⟩, ht2, hf⟩ := bnd hf
    replace hf := bp_s hf
    refine k_callVi C (As := [.int (-1 : Int32)]) (c_X12_no hap (-1 : Int32) M0 (t2, M2) ht2) ML_X12_no wd_1369 shR_0 rfl rfl rfl ⟨Nat.le_of_ble_eq_true rfl, Nat.le_of_ble_eq_true rfl⟩ (Nat.le_of_ble_eq_true rfl) dX12_marks_17 ?_
    exact k_iret C hr hlk (prf hf) (prs hf) dX12_marks_20
  · refine k_if_eq_f C dX12_marks_5 (tgt := 15) (by decide) c1 ?_
    refine k_iload_n C dX12_marks_8 2 rfl ?_
    refine k_callSi C (As := [.int v2]) (c_X12_isMark hap v2 M0 _ rfl) MS_X12_isMark wd_1420 rfl rfl ⟨Nat.le_of_ble_eq_true rfl, Nat.le_of_ble_eq_true rfl⟩ (Nat.le_of_ble_eq_true rfl) dX12_marks_9 ?_
    rcases ite_g hf with ⟨c3, hf⟩ | ⟨c3, hf⟩
    · refine k_if_ne_f C dX12_marks_12 (tgt := 21) (by decide) c3 ?_
      refine k_aload_n C dX12_marks_15 0 rfl ?_
      refine k_iconst C dX12_marks_16 (v := (-1 : Int32)) rfl ?_
      obtain ⟨⟨t8, M8⟩, ht8, hf⟩ := bnd hf
      replace hf := bp_s hf
      refine k_callVi C (As := [.int (-1 : Int32)]) (c_X12_no hap (-1 : Int32) M0 (t8, M8) ht8) ML_X12_no wd_1369 shR_0 rfl rfl rfl ⟨Nat.le_of_ble_eq_true rfl, Nat.le_of_ble_eq_true rfl⟩ (Nat.le_of_ble_eq_true rfl) dX12_marks_17 ?_
      exact k_iret C hr hlk (prf hf) (prs hf) dX12_marks_20
    · refine k_if_ne_t C dX12_marks_12 (tgt := 21) (by decide) c3 ?_
      refine k_aload_n C dX12_marks_21 0 rfl ?_
      obtain ⟨M4, hM4, hf⟩ := bnd hf
      refine k_callVv C (As := []) (c_X12_keepsBack hap M0 M4 hM4) ML_X12_keepsBack wd_1447 shR_0 rfl rfl rfl ⟨Nat.le_of_ble_eq_true rfl, Nat.le_of_ble_eq_true rfl⟩ (Nat.le_of_ble_eq_true rfl) dX12_marks_22 ?_
      refine k_aload_n C dX12_marks_25 0 rfl ?_
      refine k_getr C shR_0 (j := 3) rfl FL_X12_19 dX12_marks_26 ?_
      refine k_iload_n C dX12_marks_29 1 rfl ?_
      refine k_dup2 C dX12_marks_30 rfl rfl ?_
      obtain ⟨t5, ht5, hf⟩ := bnd hf
      refine k_iald C shR_4 ht5 dX12_marks_31 ?_
      refine k_iconst C dX12_marks_32 (v := (1 : Int32)) rfl ?_
      refine k_iload_n C dX12_marks_33 2 rfl ?_
      refine k_ishlJ C dX12_marks_34 ?_
      refine k_ixor C dX12_marks_35 ?_
      obtain ⟨M6, hM6, hf⟩ := bnd hf
      refine k_iast C shR_4 hM6 dX12_marks_36 ?_
      refine k_aload_n C dX12_marks_37 0 rfl ?_
      refine k_getr C shR_0 (j := 3) rfl FL_X12_19 dX12_marks_38 ?_
      refine k_iload_n C dX12_marks_41 1 rfl ?_
      obtain ⟨t7, ht7, hf⟩ := bnd hf
      refine k_iald C shR_4 ht7 dX12_marks_42 ?_
      refine k_iload_n C dX12_marks_43 2 rfl ?_
      refine k_ishrJ C dX12_marks_44 ?_
      refine k_iconst C dX12_marks_45 (v := (1 : Int32)) rfl ?_
      refine k_iand C dX12_marks_46 ?_
      exact k_iret C hr hlk (prf hf) (prs hf) dX12_marks_47
theorem dX12_law_0 : decode cX12_law 0 = .ok (.iload_n 1, 1) := by decide +kernel
theorem dX12_law_1 : decode cX12_law 1 = .ok (.iconst 0, 1) := by decide +kernel
theorem dX12_law_2 : decode cX12_law 2 = .ok (.iconst 3, 1) := by decide +kernel
theorem dX12_law_3 : decode cX12_law 3 = .ok (.invokestatic 86, 3) := by decide +kernel
theorem dX12_law_6 : decode cX12_law 6 = .ok (.ifCond .ne 8, 3) := by decide +kernel
theorem dX12_law_9 : decode cX12_law 9 = .ok (.bipush (-2), 2) := by decide +kernel
theorem dX12_law_11 : decode cX12_law 11 = .ok (.goto 10, 3) := by decide +kernel
theorem dX12_law_14 : decode cX12_law 14 = .ok (.iload_n 2, 1) := by decide +kernel
theorem dX12_law_15 : decode cX12_law 15 = .ok (.iconst 0, 1) := by decide +kernel
theorem dX12_law_16 : decode cX12_law 16 = .ok (.bipush 8, 2) := by decide +kernel
theorem dX12_law_18 : decode cX12_law 18 = .ok (.invokestatic 68, 3) := by decide +kernel
theorem dX12_law_21 : decode cX12_law 21 = .ok (.istore_n 3, 1) := by decide +kernel
theorem dX12_law_22 : decode cX12_law 22 = .ok (.iload_n 3, 1) := by decide +kernel
theorem dX12_law_23 : decode cX12_law 23 = .ok (.ifCond .eq 9, 3) := by decide +kernel
theorem dX12_law_26 : decode cX12_law 26 = .ok (.aload_n 0, 1) := by decide +kernel
theorem dX12_law_27 : decode cX12_law 27 = .ok (.iload_n 3, 1) := by decide +kernel
theorem dX12_law_28 : decode cX12_law 28 = .ok (.invokevirtual 75, 3) := by decide +kernel
theorem dX12_law_31 : decode cX12_law 31 = .ok (.ireturn, 1) := by decide +kernel
theorem dX12_law_32 : decode cX12_law 32 = .ok (.aload_n 0, 1) := by decide +kernel
theorem dX12_law_33 : decode cX12_law 33 = .ok (.invokevirtual 167, 3) := by decide +kernel
theorem dX12_law_36 : decode cX12_law 36 = .ok (.bipush 10, 2) := by decide +kernel
theorem dX12_law_38 : decode cX12_law 38 = .ok (.aload_n 0, 1) := by decide +kernel
theorem dX12_law_39 : decode cX12_law 39 = .ok (.getfield 111, 3) := by decide +kernel
theorem dX12_law_42 : decode cX12_law 42 = .ok (.imul, 1) := by decide +kernel
theorem dX12_law_43 : decode cX12_law 43 = .ok (.aload_n 0, 1) := by decide +kernel
theorem dX12_law_44 : decode cX12_law 44 = .ok (.getfield 114, 3) := by decide +kernel
theorem dX12_law_47 : decode cX12_law 47 = .ok (.iadd, 1) := by decide +kernel
theorem dX12_law_48 : decode cX12_law 48 = .ok (.istore 4, 2) := by decide +kernel
theorem dX12_law_50 : decode cX12_law 50 = .ok (.aload_n 0, 1) := by decide +kernel
theorem dX12_law_51 : decode cX12_law 51 = .ok (.iload_n 1, 1) := by decide +kernel
theorem dX12_law_52 : decode cX12_law 52 = .ok (.putfield 111, 3) := by decide +kernel
theorem dX12_law_55 : decode cX12_law 55 = .ok (.aload_n 0, 1) := by decide +kernel
theorem dX12_law_56 : decode cX12_law 56 = .ok (.iload_n 2, 1) := by decide +kernel
theorem dX12_law_57 : decode cX12_law 57 = .ok (.putfield 114, 3) := by decide +kernel
theorem dX12_law_60 : decode cX12_law 60 = .ok (.iload 4, 2) := by decide +kernel
theorem dX12_law_62 : decode cX12_law 62 = .ok (.ireturn, 1) := by decide +kernel
set_option maxRecDepth 100000 in
set_option maxHeartbeats 4000000 in
theorem c_X12_law {l : Launch} {G : Gx} (hap : k_ap G shR.length) (v1 : Int32) (v2 : Int32) (M0 : Mem) (r : Int32 × Mem) (hf : f_X12_law v1 v2 M0 = some r) : k_Met l yX12_law cX12_law 5 (some .int) 3 65 G shR [.ref (G.2.1 0), .int v1, .int v2] M0 (k_Qi G shR r.1 r.2) := by
  refine k_Met_of (by decide) hap (Nat.le_of_ble_eq_true rfl) ?_
  intro p e s m args below meth c C hr hlk
  have C : Cx p s m args c cX12_law RX12 5 G shR := C
  have k_b21 : ∀ (v1 : Int32) (v2 : Int32) (s0 : Int32) (M : Mem), f_X12_law_b21 v1 v2 s0 M = some r → K p l e (k_rm 3 65) s m args below meth c 5 G shR (MQ below (k_Qi G shR r.1 r.2) args s 0 0 (k_A G shR.length)) 21 [(0, .ref (G.2.1 0)), (1, .int v1), (2, .int v2)] [.int s0] M := by
    intro v1 v2 s0 M hf
    unfold f_X12_law_b21 at hf
    refine k_istore_n C dX12_law_21 (by decide) [1, 2, 3, 0] (lv' := [(0, .ref (G.2.1 0)), (1, .int v1), (2, .int v2), (3, .int s0)]) rfl ?_
    refine k_iload_n C dX12_law_22 3 rfl ?_
    rcases ite_g hf with ⟨c1, hf⟩ | ⟨c1, hf⟩
    · refine k_if_eq_t C dX12_law_23 (tgt := 32) (by decide) c1 ?_
      refine k_aload_n C dX12_law_32 0 rfl ?_
      obtain ⟨M2, hM2, hf⟩ := bnd hf
      refine k_callVv C (As := []) (c_X12_keepsBack hap M M2 hM2) ML_X12_keepsBack wd_1447 shR_0 rfl rfl rfl ⟨Nat.le_of_ble_eq_true rfl, Nat.le_of_ble_eq_true rfl⟩ (Nat.le_of_ble_eq_true rfl) dX12_law_33 ?_
      refine k_bipush C dX12_law_36 (v := (10 : Int32)) rfl ?_
      refine k_aload_n C dX12_law_38 0 rfl ?_
      refine k_geti C shR_0 (j := 7) rfl FL_X12_111 dX12_law_39 ?_
      refine k_imul C dX12_law_42 ?_
      refine k_aload_n C dX12_law_43 0 rfl ?_
      refine k_geti C shR_0 (j := 8) rfl FL_X12_114 dX12_law_44 ?_
      refine k_iadd C dX12_law_47 ?_
      refine k_istore C dX12_law_48 (by decide) [1, 2, 3, 0] (lv' := [(0, .ref (G.2.1 0)), (1, .int v1), (2, .int v2), (4, .int (((10 : Int32) * (M2.1 0 7)) + (M2.1 0 8)))]) rfl ?_
      refine k_aload_n C dX12_law_50 0 rfl ?_
      refine k_iload_n C dX12_law_51 1 rfl ?_
      refine k_put C shR_0 (j := 7) rfl FL_X12_111 FW_X12_7 dX12_law_52 ?_
      refine k_aload_n C dX12_law_55 0 rfl ?_
      refine k_iload_n C dX12_law_56 2 rfl ?_
      refine k_put C shR_0 (j := 8) rfl FL_X12_114 FW_X12_8 dX12_law_57 ?_
      refine k_iload C dX12_law_60 3 rfl ?_
      exact k_iret C hr hlk (prf hf) (prs hf) dX12_law_62
    · refine k_if_eq_f C dX12_law_23 (tgt := 32) (by decide) c1 ?_
      refine k_aload_n C dX12_law_26 0 rfl ?_
      refine k_iload_n C dX12_law_27 3 rfl ?_
      obtain ⟨⟨t3, M3⟩, ht3, hf⟩ := bnd hf
      replace hf := bp_s hf
      refine k_callVi C (As := [.int s0]) (c_X12_no hap s0 M (t3, M3) ht3) ML_X12_no wd_1369 shR_0 rfl rfl rfl ⟨Nat.le_of_ble_eq_true rfl, Nat.le_of_ble_eq_true rfl⟩ (Nat.le_of_ble_eq_true rfl) dX12_law_28 ?_
      exact k_iret C hr hlk (prf hf) (prs hf) dX12_law_31
  unfold f_X12_law at hf
  refine k_lv (lv' := [(0, .ref (G.2.1 0)), (1, .int v1), (2, .int v2)]) [0, 1, 2] rfl ?_
  refine k_iload_n C dX12_law_0 1 rfl ?_
  refine k_iconst C dX12_law_1 (v := (0 : Int32)) rfl ?_
  refine k_iconst C dX12_law_2 (v := (3 : Int32)) rfl ?_
  refine k_callSi C (As := [.int v1, .int (0 : Int32), .int (3 : Int32)]) (c_X12_isIn hap v1 (0 : Int32) (3 : Int32) M0 _ rfl) MS_X12_isIn wd_1393 rfl rfl ⟨Nat.le_of_ble_eq_true rfl, Nat.le_of_ble_eq_true rfl⟩ (Nat.le_of_ble_eq_true rfl) dX12_law_3 ?_
  have hj4 : K p l e (k_rm 3 65) s m args below meth c 5 G shR (MQ below (k_Qi G shR r.1 r.2) args s 0 0 (k_A G shR.length)) 21 [(0, .ref (G.2.1 0)), (1, .int v1), (2, .int v2)] [.int (if (f_X12_isIn v1 (0 : Int32) (3 : Int32)) = 0 then (-2 : Int32) else (f_X12_bound v2 (0 : Int32) (8 : Int32)))] M0 := by
    exact k_b21 v1 v2 (if (f_X12_isIn v1 (0 : Int32) (3 : Int32)) = 0 then (-2 : Int32) else (f_X12_bound v2 (0 : Int32) (8 : Int32))) M0 hf
  by_cases c5 : (f_X12_isIn v1 (0 : Int32) (3 : Int32)) = 0
  · refine k_if_ne_f C dX12_law_6 (tgt := 14) (by decide) c5 ?_
    refine k_bipush C dX12_law_9 (v := (-2 : Int32)) rfl ?_
    refine k_goto C dX12_law_11 (tgt := 21) (by decide) ?_
    exact k_val (by rw [if_pos c5]) hj4
  · refine k_if_ne_t C dX12_law_6 (tgt := 14) (by decide) c5 ?_
    refine k_iload_n C dX12_law_14 2 rfl ?_
    refine k_iconst C dX12_law_15 (v := (0 : Int32)) rfl ?_
    refine k_bipush C dX12_law_16 (v := (8 : Int32)) rfl ?_
    refine k_callSi C (As := [.int v2, .int (0 : Int32), .int (8 : Int32)]) (c_X12_bound hap v2 (0 : Int32) (8 : Int32) M0 _ rfl) MS_X12_bound wd_1366 rfl rfl ⟨Nat.le_of_ble_eq_true rfl, Nat.le_of_ble_eq_true rfl⟩ (Nat.le_of_ble_eq_true rfl) dX12_law_18 ?_
    exact k_val (by rw [if_neg c5]) hj4
theorem dX12_same_0 : decode cX12_same 0 = .ok (.aload_n 0, 1) := by decide +kernel
theorem dX12_same_1 : decode cX12_same 1 = .ok (.iload_n 1, 1) := by decide +kernel
theorem dX12_same_2 : decode cX12_same 2 = .ok (.invokevirtual 104, 3) := by decide +kernel
theorem dX12_same_5 : decode cX12_same 5 = .ok (.ifCond .eq 11, 3) := by decide +kernel
theorem dX12_same_8 : decode cX12_same 8 = .ok (.aload_n 0, 1) := by decide +kernel
theorem dX12_same_9 : decode cX12_same 9 = .ok (.iload_n 2, 1) := by decide +kernel
theorem dX12_same_10 : decode cX12_same 10 = .ok (.invokevirtual 104, 3) := by decide +kernel
theorem dX12_same_13 : decode cX12_same 13 = .ok (.ifCond .ne 9, 3) := by decide +kernel
theorem dX12_same_16 : decode cX12_same 16 = .ok (.aload_n 0, 1) := by decide +kernel
theorem dX12_same_17 : decode cX12_same 17 = .ok (.iconst (-1), 1) := by decide +kernel
theorem dX12_same_18 : decode cX12_same 18 = .ok (.invokevirtual 75, 3) := by decide +kernel
theorem dX12_same_21 : decode cX12_same 21 = .ok (.ireturn, 1) := by decide +kernel
theorem dX12_same_22 : decode cX12_same 22 = .ok (.aload_n 0, 1) := by decide +kernel
theorem dX12_same_23 : decode cX12_same 23 = .ok (.iload_n 1, 1) := by decide +kernel
theorem dX12_same_24 : decode cX12_same 24 = .ok (.iload_n 2, 1) := by decide +kernel
theorem dX12_same_25 : decode cX12_same 25 = .ok (.invokevirtual 154, 3) := by decide +kernel
theorem dX12_same_28 : decode cX12_same 28 = .ok (.ifCond .eq 7, 3) := by decide +kernel
theorem dX12_same_31 : decode cX12_same 31 = .ok (.iconst 1, 1) := by decide +kernel
theorem dX12_same_32 : decode cX12_same 32 = .ok (.goto 4, 3) := by decide +kernel
theorem dX12_same_35 : decode cX12_same 35 = .ok (.iconst 0, 1) := by decide +kernel
theorem dX12_same_36 : decode cX12_same 36 = .ok (.ireturn, 1) := by decide +kernel
set_option maxRecDepth 100000 in
set_option maxHeartbeats 4000000 in
theorem c_X12_same {l : Launch} {G : Gx} (hap : k_ap G shR.length) (v1 : Int32) (v2 : Int32) (M0 : Mem) (r : Int32 × Mem) (hf : f_X12_same v1 v2 M0 = some r) : k_Met l yX12_same cX12_same 3 (some .int) 2 44 G shR [.ref (G.2.1 0), .int v1, .int v2] M0 (k_Qi G shR r.1 r.2) := by
  refine k_Met_of (by decide) hap (Nat.le_of_ble_eq_true rfl) ?_
  intro p e s m args below meth c C hr hlk
  have C : Cx p s m args c cX12_same RX12 3 G shR := C
  unfold f_X12_same at hf
  refine k_lv (lv' := [(0, .ref (G.2.1 0)), (1, .int v1), (2, .int v2)]) [0, 1, 2] rfl ?_
  refine k_aload_n C dX12_same_0 0 rfl ?_
  refine k_iload_n C dX12_same_1 1 rfl ?_
  refine k_callVi C (As := [.int v1]) (c_X12_isDoing hap v1 M0 _ rfl) ML_X12_isDoing wd_1416 shR_0 rfl rfl rfl ⟨Nat.le_of_ble_eq_true rfl, Nat.le_of_ble_eq_true rfl⟩ (Nat.le_of_ble_eq_true rfl) dX12_same_2 ?_
  rcases ite_g hf with ⟨c1, hf⟩ | ⟨c1, hf⟩
  · refine k_if_eq_t C dX12_same_5 (tgt := 16) (by decide) c1 ?_
    refine k_aload_n C dX12_same_16 0 rfl ?_
    refine k_iconst C dX12_same_17 (v := (-1 : Int32)) rfl ?_
    obtain ⟨⟨t2, M2⟩, ht2, hf⟩ := bnd hf
    replace hf := bp_s hf
    refine k_callVi C (As := [.int (-1 : Int32)]) (c_X12_no hap (-1 : Int32) M0 (t2, M2) ht2) ML_X12_no wd_1369 shR_0 rfl rfl rfl ⟨Nat.le_of_ble_eq_true rfl, Nat.le_of_ble_eq_true rfl⟩ (Nat.le_of_ble_eq_true rfl) dX12_same_18 ?_
    exact k_iret C hr hlk (prf hf) (prs hf) dX12_same_21
  · refine k_if_eq_f C dX12_same_5 (tgt := 16) (by decide) c1 ?_
    refine k_aload_n C dX12_same_8 0 rfl ?_
    refine k_iload_n C dX12_same_9 2 rfl ?_
    refine k_callVi C (As := [.int v2]) (c_X12_isDoing hap v2 M0 _ rfl) ML_X12_isDoing wd_1416 shR_0 rfl rfl rfl ⟨Nat.le_of_ble_eq_true rfl, Nat.le_of_ble_eq_true rfl⟩ (Nat.le_of_ble_eq_true rfl) dX12_same_10 ?_
    rcases ite_g hf with ⟨c3, hf⟩ | ⟨c3, hf⟩
    · refine k_if_ne_f C dX12_same_13 (tgt := 22) (by decide) c3 ?_
      refine k_aload_n C dX12_same_16 0 rfl ?_
      refine k_iconst C dX12_same_17 (v := (-1 : Int32)) rfl ?_
      obtain ⟨⟨t6, M6⟩, ht6, hf⟩ := bnd hf
      replace hf := bp_s hf
      refine k_callVi C (As := [.int (-1 : Int32)]) (c_X12_no hap (-1 : Int32) M0 (t6, M6) ht6) ML_X12_no wd_1369 shR_0 rfl rfl rfl ⟨Nat.le_of_ble_eq_true rfl, Nat.le_of_ble_eq_true rfl⟩ (Nat.le_of_ble_eq_true rfl) dX12_same_18 ?_
      exact k_iret C hr hlk (prf hf) (prs hf) dX12_same_21
    · refine k_if_ne_t C dX12_same_13 (tgt := 22) (by decide) c3 ?_
      refine k_aload_n C dX12_same_22 0 rfl ?_
      refine k_iload_n C dX12_same_23 1 rfl ?_
      refine k_iload_n C dX12_same_24 2 rfl ?_
      obtain ⟨t4, ht4, hf⟩ := bnd hf
      refine k_callVi C (As := [.int v1, .int v2]) (c_X12_areSame hap v1 v2 M0 t4 ht4) ML_X12_areSame wd_1459 shR_0 rfl rfl rfl ⟨Nat.le_of_ble_eq_true rfl, Nat.le_of_ble_eq_true rfl⟩ (Nat.le_of_ble_eq_true rfl) dX12_same_25 ?_
      rcases ite_g hf with ⟨c5, hf⟩ | ⟨c5, hf⟩
      · refine k_if_eq_t C dX12_same_28 (tgt := 35) (by decide) c5 ?_
        refine k_iconst C dX12_same_35 (v := (0 : Int32)) rfl ?_
        exact k_iret C hr hlk (prf hf) (prs hf) dX12_same_36
      · refine k_if_eq_f C dX12_same_28 (tgt := 35) (by decide) c5 ?_
        refine k_iconst C dX12_same_31 (v := (1 : Int32)) rfl ?_
        refine k_goto C dX12_same_32 (tgt := 36) (by decide) ?_
        exact k_iret C hr hlk (prf hf) (prs hf) dX12_same_36
theorem dX12_isPlace_0 : decode cX12_isPlace 0 = .ok (.iload_n 1, 1) := by decide +kernel
theorem dX12_isPlace_1 : decode cX12_isPlace 1 = .ok (.ifCond .lt 15, 3) := by decide +kernel
theorem dX12_isPlace_4 : decode cX12_isPlace 4 = .ok (.iload_n 1, 1) := by decide +kernel
theorem dX12_isPlace_5 : decode cX12_isPlace 5 = .ok (.aload_n 0, 1) := by decide +kernel
theorem dX12_isPlace_6 : decode cX12_isPlace 6 = .ok (.getfield 108, 3) := by decide +kernel
theorem dX12_isPlace_9 : decode cX12_isPlace 9 = .ok (.if_icmp .ge 7, 3) := by decide +kernel
theorem dX12_isPlace_12 : decode cX12_isPlace 12 = .ok (.iconst 1, 1) := by decide +kernel
theorem dX12_isPlace_13 : decode cX12_isPlace 13 = .ok (.goto 4, 3) := by decide +kernel
theorem dX12_isPlace_16 : decode cX12_isPlace 16 = .ok (.iconst 0, 1) := by decide +kernel
theorem dX12_isPlace_17 : decode cX12_isPlace 17 = .ok (.ireturn, 1) := by decide +kernel
set_option maxRecDepth 100000 in
set_option maxHeartbeats 4000000 in
theorem c_X12_isPlace {l : Launch} {G : Gx} (hap : k_ap G shR.length) (v1 : Int32) (M0 : Mem) (r : Int32) (hf : f_X12_isPlace v1 M0 = r) : k_Met l yX12_isPlace cX12_isPlace 2 (some .boolean) 0 0 G shR [.ref (G.2.1 0), .int v1] M0 (k_Qi G shR r M0) := by
  refine k_Met_of (by decide) hap (Nat.le_of_ble_eq_true rfl) ?_
  intro p e s m args below meth c C hr hlk
  have C : Cx p s m args c cX12_isPlace RX12 2 G shR := C
  unfold f_X12_isPlace at hf
  refine k_lv (lv' := [(0, .ref (G.2.1 0)), (1, .int v1)]) [0, 1] rfl ?_
  refine k_iload_n C dX12_isPlace_0 1 rfl ?_
  rcases ite_g hf with ⟨c1, hf⟩ | ⟨c1, hf⟩
  · refine k_if_lt_t C dX12_isPlace_1 (tgt := 16) (by decide) c1 ?_
    refine k_iconst C dX12_isPlace_16 (v := (0 : Int32)) rfl ?_
    exact k_zret C hr hlk (gZ0.trans (congrArg some hf)) rfl dX12_isPlace_17
  · refine k_if_lt_f C dX12_isPlace_1 (tgt := 16) (by decide) c1 ?_
    refine k_iload_n C dX12_isPlace_4 1 rfl ?_
    refine k_aload_n C dX12_isPlace_5 0 rfl ?_
    refine k_geti C shR_0 (j := 6) rfl FL_X12_108 dX12_isPlace_6 ?_
    rcases ite_g hf with ⟨c2, hf⟩ | ⟨c2, hf⟩
    · refine k_icmp_ge_t C dX12_isPlace_9 (tgt := 16) (by decide) c2 ?_
      refine k_iconst C dX12_isPlace_16 (v := (0 : Int32)) rfl ?_
      exact k_zret C hr hlk (gZ0.trans (congrArg some hf)) rfl dX12_isPlace_17
    · refine k_icmp_ge_f C dX12_isPlace_9 (tgt := 16) (by decide) c2 ?_
      refine k_iconst C dX12_isPlace_12 (v := (1 : Int32)) rfl ?_
      refine k_goto C dX12_isPlace_13 (tgt := 17) (by decide) ?_
      exact k_zret C hr hlk (gZ1.trans (congrArg some hf)) rfl dX12_isPlace_17
theorem dX12_place_0 : decode cX12_place 0 = .ok (.aload_n 0, 1) := by decide +kernel
theorem dX12_place_1 : decode cX12_place 1 = .ok (.iload_n 1, 1) := by decide +kernel
theorem dX12_place_2 : decode cX12_place 2 = .ok (.invokevirtual 170, 3) := by decide +kernel
theorem dX12_place_5 : decode cX12_place 5 = .ok (.ifCond .ne 9, 3) := by decide +kernel
theorem dX12_place_8 : decode cX12_place 8 = .ok (.aload_n 0, 1) := by decide +kernel
theorem dX12_place_9 : decode cX12_place 9 = .ok (.iconst (-1), 1) := by decide +kernel
theorem dX12_place_10 : decode cX12_place 10 = .ok (.invokevirtual 75, 3) := by decide +kernel
theorem dX12_place_13 : decode cX12_place 13 = .ok (.ireturn, 1) := by decide +kernel
theorem dX12_place_14 : decode cX12_place 14 = .ok (.iload_n 2, 1) := by decide +kernel
theorem dX12_place_15 : decode cX12_place 15 = .ok (.ifCond .ne 12, 3) := by decide +kernel
theorem dX12_place_18 : decode cX12_place 18 = .ok (.aload_n 0, 1) := by decide +kernel
theorem dX12_place_19 : decode cX12_place 19 = .ok (.getfield 22, 3) := by decide +kernel
theorem dX12_place_22 : decode cX12_place 22 = .ok (.iload_n 1, 1) := by decide +kernel
theorem dX12_place_23 : decode cX12_place 23 = .ok (.iaload, 1) := by decide +kernel
theorem dX12_place_24 : decode cX12_place 24 = .ok (.goto 41, 3) := by decide +kernel
theorem dX12_place_27 : decode cX12_place 27 = .ok (.iload_n 2, 1) := by decide +kernel
theorem dX12_place_28 : decode cX12_place 28 = .ok (.iconst 1, 1) := by decide +kernel
theorem dX12_place_29 : decode cX12_place 29 = .ok (.if_icmp .ne 17, 3) := by decide +kernel
theorem dX12_place_32 : decode cX12_place 32 = .ok (.aload_n 0, 1) := by decide +kernel
theorem dX12_place_33 : decode cX12_place 33 = .ok (.iload_n 1, 1) := by decide +kernel
theorem dX12_place_34 : decode cX12_place 34 = .ok (.aload_n 0, 1) := by decide +kernel
theorem dX12_place_35 : decode cX12_place 35 = .ok (.getfield 22, 3) := by decide +kernel
theorem dX12_place_38 : decode cX12_place 38 = .ok (.iload_n 1, 1) := by decide +kernel
theorem dX12_place_39 : decode cX12_place 39 = .ok (.iaload, 1) := by decide +kernel
theorem dX12_place_40 : decode cX12_place 40 = .ok (.invokevirtual 157, 3) := by decide +kernel
theorem dX12_place_43 : decode cX12_place 43 = .ok (.goto 22, 3) := by decide +kernel
theorem dX12_place_46 : decode cX12_place 46 = .ok (.iload_n 2, 1) := by decide +kernel
theorem dX12_place_47 : decode cX12_place 47 = .ok (.iconst 2, 1) := by decide +kernel
theorem dX12_place_48 : decode cX12_place 48 = .ok (.if_icmp .ne 11, 3) := by decide +kernel
theorem dX12_place_51 : decode cX12_place 51 = .ok (.aload_n 0, 1) := by decide +kernel
theorem dX12_place_52 : decode cX12_place 52 = .ok (.iload_n 1, 1) := by decide +kernel
theorem dX12_place_53 : decode cX12_place 53 = .ok (.invokevirtual 164, 3) := by decide +kernel
theorem dX12_place_56 : decode cX12_place 56 = .ok (.goto 9, 3) := by decide +kernel
theorem dX12_place_59 : decode cX12_place 59 = .ok (.aload_n 0, 1) := by decide +kernel
theorem dX12_place_60 : decode cX12_place 60 = .ok (.bipush (-2), 2) := by decide +kernel
theorem dX12_place_62 : decode cX12_place 62 = .ok (.invokevirtual 75, 3) := by decide +kernel
theorem dX12_place_65 : decode cX12_place 65 = .ok (.ireturn, 1) := by decide +kernel
set_option maxRecDepth 100000 in
set_option maxHeartbeats 4000000 in
theorem c_X12_place {l : Launch} {G : Gx} (hap : k_ap G shR.length) (v1 : Int32) (v2 : Int32) (M0 : Mem) (r : Int32 × Mem) (hf : f_X12_place v1 v2 M0 = some r) : k_Met l yX12_place cX12_place 3 (some .int) 4 89 G shR [.ref (G.2.1 0), .int v1, .int v2] M0 (k_Qi G shR r.1 r.2) := by
  refine k_Met_of (by decide) hap (Nat.le_of_ble_eq_true rfl) ?_
  intro p e s m args below meth c C hr hlk
  have C : Cx p s m args c cX12_place RX12 3 G shR := C
  unfold f_X12_place at hf
  refine k_lv (lv' := [(0, .ref (G.2.1 0)), (1, .int v1), (2, .int v2)]) [0, 1, 2] rfl ?_
  refine k_aload_n C dX12_place_0 0 rfl ?_
  refine k_iload_n C dX12_place_1 1 rfl ?_
  refine k_callVi C (As := [.int v1]) (c_X12_isPlace hap v1 M0 _ rfl) ML_X12_isPlace wd_1494 shR_0 rfl rfl rfl ⟨Nat.le_of_ble_eq_true rfl, Nat.le_of_ble_eq_true rfl⟩ (Nat.le_of_ble_eq_true rfl) dX12_place_2 ?_
  rcases ite_g hf with ⟨c1, hf⟩ | ⟨c1, hf⟩
  · refine k_if_ne_f C dX12_place_5 (tgt := 14) (by decide) c1 ?_
    refine k_aload_n C dX12_place_8 0 rfl ?_
    refine k_iconst C dX12_place_9 (v := (-1 : Int32)) rfl ?_
    obtain ⟨⟨t10, M10⟩, ht10, hf⟩ := bnd hf
    replace hf := bp_s hf
    refine k_callVi C (As := [.int (-1 : Int32)]) (c_X12_no hap (-1 : Int32) M0 (t10, M10) ht10) ML_X12_no wd_1369 shR_0 rfl rfl rfl ⟨Nat.le_of_ble_eq_true rfl, Nat.le_of_ble_eq_true rfl⟩ (Nat.le_of_ble_eq_true rfl) dX12_place_10 ?_
    exact k_iret C hr hlk (prf hf) (prs hf) dX12_place_13
  · refine k_if_ne_t C dX12_place_5 (tgt := 14) (by decide) c1 ?_
    refine k_iload_n C dX12_place_14 2 rfl ?_
    rcases ite_g hf with ⟨c2, hf⟩ | ⟨c2, hf⟩
    · refine k_if_ne_f C dX12_place_15 (tgt := 27) (by decide) c2 ?_
      refine k_aload_n C dX12_place_18 0 rfl ?_
      refine k_getr C shR_0 (j := 4) rfl FL_X12_22 dX12_place_19 ?_
      refine k_iload_n C dX12_place_22 1 rfl ?_
      obtain ⟨t9, ht9, hf⟩ := bnd hf
      refine k_iald C shR_5 ht9 dX12_place_23 ?_
      refine k_goto C dX12_place_24 (tgt := 65) (by decide) ?_
      exact k_iret C hr hlk (prf hf) (prs hf) dX12_place_65
    · refine k_if_ne_t C dX12_place_15 (tgt := 27) (by decide) c2 ?_
      refine k_iload_n C dX12_place_27 2 rfl ?_
      refine k_iconst C dX12_place_28 (v := (1 : Int32)) rfl ?_
      rcases ite_g hf with ⟨c3, hf⟩ | ⟨c3, hf⟩
      · refine k_icmp_ne_f C dX12_place_29 (tgt := 46) (by decide) c3 ?_
        refine k_aload_n C dX12_place_32 0 rfl ?_
        refine k_iload_n C dX12_place_33 1 rfl ?_
        refine k_aload_n C dX12_place_34 0 rfl ?_
        refine k_getr C shR_0 (j := 4) rfl FL_X12_22 dX12_place_35 ?_
        refine k_iload_n C dX12_place_38 1 rfl ?_
        obtain ⟨t7, ht7, hf⟩ := bnd hf
        refine k_iald C shR_5 ht7 dX12_place_39 ?_
        obtain ⟨t8, ht8, hf⟩ := bnd hf
        refine k_callVi C (As := [.int v1, .int t7]) (c_X12_repeatsAt hap v1 t7 M0 t8 ht8) ML_X12_repeatsAt wd_1455 shR_0 rfl rfl rfl ⟨Nat.le_of_ble_eq_true rfl, Nat.le_of_ble_eq_true rfl⟩ (Nat.le_of_ble_eq_true rfl) dX12_place_40 ?_
        refine k_goto C dX12_place_43 (tgt := 65) (by decide) ?_
        exact k_iret C hr hlk (prf hf) (prs hf) dX12_place_65
      · refine k_icmp_ne_t C dX12_place_29 (tgt := 46) (by decide) c3 ?_
        refine k_iload_n C dX12_place_46 2 rfl ?_
        refine k_iconst C dX12_place_47 (v := (2 : Int32)) rfl ?_
        rcases ite_g hf with ⟨c4, hf⟩ | ⟨c4, hf⟩
        · refine k_icmp_ne_f C dX12_place_48 (tgt := 59) (by decide) c4 ?_
          refine k_aload_n C dX12_place_51 0 rfl ?_
          refine k_iload_n C dX12_place_52 1 rfl ?_
          obtain ⟨t6, ht6, hf⟩ := bnd hf
          refine k_callVi C (As := [.int v1]) (c_X12_dueAt hap v1 M0 t6 ht6) ML_X12_dueAt wd_1451 shR_0 rfl rfl rfl ⟨Nat.le_of_ble_eq_true rfl, Nat.le_of_ble_eq_true rfl⟩ (Nat.le_of_ble_eq_true rfl) dX12_place_53 ?_
          refine k_goto C dX12_place_56 (tgt := 65) (by decide) ?_
          exact k_iret C hr hlk (prf hf) (prs hf) dX12_place_65
        · refine k_icmp_ne_t C dX12_place_48 (tgt := 59) (by decide) c4 ?_
          refine k_aload_n C dX12_place_59 0 rfl ?_
          refine k_bipush C dX12_place_60 (v := (-2 : Int32)) rfl ?_
          obtain ⟨⟨t5, M5⟩, ht5, hf⟩ := bnd hf
          replace hf := bp_s hf
          refine k_callVi C (As := [.int (-2 : Int32)]) (c_X12_no hap (-2 : Int32) M0 (t5, M5) ht5) ML_X12_no wd_1369 shR_0 rfl rfl rfl ⟨Nat.le_of_ble_eq_true rfl, Nat.le_of_ble_eq_true rfl⟩ (Nat.le_of_ble_eq_true rfl) dX12_place_62 ?_
          exact k_iret C hr hlk (prf hf) (prs hf) dX12_place_65
theorem dX12_allDue_0 : decode cX12_allDue 0 = .ok (.aload_n 0, 1) := by decide +kernel
theorem dX12_allDue_1 : decode cX12_allDue 1 = .ok (.invokevirtual 173, 3) := by decide +kernel
theorem dX12_allDue_4 : decode cX12_allDue 4 = .ok (.ireturn, 1) := by decide +kernel
set_option maxRecDepth 100000 in
set_option maxHeartbeats 4000000 in
theorem c_X12_allDue {l : Launch} {G : Gx} (hap : k_ap G shR.length) (M0 : Mem) (r : Int32) (hf : f_X12_allDue M0 = some r) : k_Met l yX12_allDue cX12_allDue 1 (some .int) 5 111 G shR [.ref (G.2.1 0)] M0 (k_Qi G shR r M0) := by
  refine k_Met_of (by decide) hap (Nat.le_of_ble_eq_true rfl) ?_
  intro p e s m args below meth c C hr hlk
  have C : Cx p s m args c cX12_allDue RX12 1 G shR := C
  unfold f_X12_allDue at hf
  refine k_lv (lv' := [(0, .ref (G.2.1 0))]) [0] rfl ?_
  refine k_aload_n C dX12_allDue_0 0 rfl ?_
  obtain ⟨t1, ht1, hf⟩ := bnd hf
  refine k_callVi C (As := []) (c_X12_all hap M0 t1 ht1) ML_X12_all wd_1502 shR_0 rfl rfl rfl ⟨Nat.le_of_ble_eq_true rfl, Nat.le_of_ble_eq_true rfl⟩ (Nat.le_of_ble_eq_true rfl) dX12_allDue_1 ?_
  exact k_iret C hr hlk (Option.some.inj hf) rfl dX12_allDue_4
theorem dX12_next_0 : decode cX12_next 0 = .ok (.aload_n 0, 1) := by decide +kernel
theorem dX12_next_1 : decode cX12_next 1 = .ok (.iload_n 1, 1) := by decide +kernel
theorem dX12_next_2 : decode cX12_next 2 = .ok (.invokevirtual 104, 3) := by decide +kernel
theorem dX12_next_5 : decode cX12_next 5 = .ok (.ifCond .eq 11, 3) := by decide +kernel
theorem dX12_next_8 : decode cX12_next 8 = .ok (.aload_n 0, 1) := by decide +kernel
theorem dX12_next_9 : decode cX12_next 9 = .ok (.iload_n 1, 1) := by decide +kernel
theorem dX12_next_10 : decode cX12_next 10 = .ok (.invokevirtual 176, 3) := by decide +kernel
theorem dX12_next_13 : decode cX12_next 13 = .ok (.goto 8, 3) := by decide +kernel
theorem dX12_next_16 : decode cX12_next 16 = .ok (.aload_n 0, 1) := by decide +kernel
theorem dX12_next_17 : decode cX12_next 17 = .ok (.iconst (-1), 1) := by decide +kernel
theorem dX12_next_18 : decode cX12_next 18 = .ok (.invokevirtual 75, 3) := by decide +kernel
theorem dX12_next_21 : decode cX12_next 21 = .ok (.ireturn, 1) := by decide +kernel
set_option maxRecDepth 100000 in
set_option maxHeartbeats 4000000 in
theorem c_X12_next {l : Launch} {G : Gx} (hap : k_ap G shR.length) (v1 : Int32) (M0 : Mem) (r : Int32 × Mem) (hf : f_X12_next v1 M0 = some r) : k_Met l yX12_next cX12_next 2 (some .int) 4 89 G shR [.ref (G.2.1 0), .int v1] M0 (k_Qi G shR r.1 r.2) := by
  refine k_Met_of (by decide) hap (Nat.le_of_ble_eq_true rfl) ?_
  intro p e s m args below meth c C hr hlk
  have C : Cx p s m args c cX12_next RX12 2 G shR := C
  unfold f_X12_next at hf
  refine k_lv (lv' := [(0, .ref (G.2.1 0)), (1, .int v1)]) [0, 1] rfl ?_
  refine k_aload_n C dX12_next_0 0 rfl ?_
  refine k_iload_n C dX12_next_1 1 rfl ?_
  refine k_callVi C (As := [.int v1]) (c_X12_isDoing hap v1 M0 _ rfl) ML_X12_isDoing wd_1416 shR_0 rfl rfl rfl ⟨Nat.le_of_ble_eq_true rfl, Nat.le_of_ble_eq_true rfl⟩ (Nat.le_of_ble_eq_true rfl) dX12_next_2 ?_
  rcases ite_g hf with ⟨c1, hf⟩ | ⟨c1, hf⟩
  · refine k_if_eq_t C dX12_next_5 (tgt := 16) (by decide) c1 ?_
    refine k_aload_n C dX12_next_16 0 rfl ?_
    refine k_iconst C dX12_next_17 (v := (-1 : Int32)) rfl ?_
    obtain ⟨⟨t2, M2⟩, ht2, hf⟩ := bnd hf
    replace hf := bp_s hf
    refine k_callVi C (As := [.int (-1 : Int32)]) (c_X12_no hap (-1 : Int32) M0 (t2, M2) ht2) ML_X12_no wd_1369 shR_0 rfl rfl rfl ⟨Nat.le_of_ble_eq_true rfl, Nat.le_of_ble_eq_true rfl⟩ (Nat.le_of_ble_eq_true rfl) dX12_next_18 ?_
    exact k_iret C hr hlk (prf hf) (prs hf) dX12_next_21
  · refine k_if_eq_f C dX12_next_5 (tgt := 16) (by decide) c1 ?_
    refine k_aload_n C dX12_next_8 0 rfl ?_
    refine k_iload_n C dX12_next_9 1 rfl ?_
    obtain ⟨t3, ht3, hf⟩ := bnd hf
    refine k_callVi C (As := [.int v1]) (c_X12_nextOf hap v1 M0 t3 ht3) ML_X12_nextOf wd_1510 shR_0 rfl rfl rfl ⟨Nat.le_of_ble_eq_true rfl, Nat.le_of_ble_eq_true rfl⟩ (Nat.le_of_ble_eq_true rfl) dX12_next_10 ?_
    refine k_goto C dX12_next_13 (tgt := 21) (by decide) ?_
    exact k_iret C hr hlk (prf hf) (prs hf) dX12_next_21
theorem dX12_best_0 : decode cX12_best 0 = .ok (.iload_n 1, 1) := by decide +kernel
theorem dX12_best_1 : decode cX12_best 1 = .ok (.iconst 0, 1) := by decide +kernel
theorem dX12_best_2 : decode cX12_best 2 = .ok (.iconst 1, 1) := by decide +kernel
theorem dX12_best_3 : decode cX12_best 3 = .ok (.invokestatic 86, 3) := by decide +kernel
theorem dX12_best_6 : decode cX12_best 6 = .ok (.ifCond .ne 10, 3) := by decide +kernel
theorem dX12_best_9 : decode cX12_best 9 = .ok (.aload_n 0, 1) := by decide +kernel
theorem dX12_best_10 : decode cX12_best 10 = .ok (.bipush (-2), 2) := by decide +kernel
theorem dX12_best_12 : decode cX12_best 12 = .ok (.invokevirtual 75, 3) := by decide +kernel
theorem dX12_best_15 : decode cX12_best 15 = .ok (.ireturn, 1) := by decide +kernel
theorem dX12_best_16 : decode cX12_best 16 = .ok (.bipush (-9), 2) := by decide +kernel
theorem dX12_best_18 : decode cX12_best 18 = .ok (.istore_n 2, 1) := by decide +kernel
theorem dX12_best_19 : decode cX12_best 19 = .ok (.iconst 0, 1) := by decide +kernel
theorem dX12_best_20 : decode cX12_best 20 = .ok (.istore_n 3, 1) := by decide +kernel
theorem dX12_best_21 : decode cX12_best 21 = .ok (.iload_n 3, 1) := by decide +kernel
theorem dX12_best_22 : decode cX12_best 22 = .ok (.aload_n 0, 1) := by decide +kernel
theorem dX12_best_23 : decode cX12_best 23 = .ok (.getfield 62, 3) := by decide +kernel
theorem dX12_best_26 : decode cX12_best 26 = .ok (.if_icmp .ge 53, 3) := by decide +kernel
theorem dX12_best_29 : decode cX12_best 29 = .ok (.iload_n 2, 1) := by decide +kernel
theorem dX12_best_30 : decode cX12_best 30 = .ok (.ifCond .ge 7, 3) := by decide +kernel
theorem dX12_best_33 : decode cX12_best 33 = .ok (.iconst 0, 1) := by decide +kernel
theorem dX12_best_34 : decode cX12_best 34 = .ok (.goto 14, 3) := by decide +kernel
theorem dX12_best_37 : decode cX12_best 37 = .ok (.aload_n 0, 1) := by decide +kernel
theorem dX12_best_38 : decode cX12_best 38 = .ok (.iload_n 3, 1) := by decide +kernel
theorem dX12_best_39 : decode cX12_best 39 = .ok (.invokevirtual 176, 3) := by decide +kernel
theorem dX12_best_42 : decode cX12_best 42 = .ok (.aload_n 0, 1) := by decide +kernel
theorem dX12_best_43 : decode cX12_best 43 = .ok (.iload_n 2, 1) := by decide +kernel
theorem dX12_best_44 : decode cX12_best 44 = .ok (.invokevirtual 176, 3) := by decide +kernel
theorem dX12_best_47 : decode cX12_best 47 = .ok (.isub, 1) := by decide +kernel
theorem dX12_best_48 : decode cX12_best 48 = .ok (.istore 4, 2) := by decide +kernel
theorem dX12_best_50 : decode cX12_best 50 = .ok (.iload_n 2, 1) := by decide +kernel
theorem dX12_best_51 : decode cX12_best 51 = .ok (.ifCond .lt 20, 3) := by decide +kernel
theorem dX12_best_54 : decode cX12_best 54 = .ok (.iload_n 1, 1) := by decide +kernel
theorem dX12_best_55 : decode cX12_best 55 = .ok (.ifCond .ne 11, 3) := by decide +kernel
theorem dX12_best_58 : decode cX12_best 58 = .ok (.iload 4, 2) := by decide +kernel
theorem dX12_best_60 : decode cX12_best 60 = .ok (.ifCond .ge 13, 3) := by decide +kernel
theorem dX12_best_63 : decode cX12_best 63 = .ok (.goto 8, 3) := by decide +kernel
theorem dX12_best_66 : decode cX12_best 66 = .ok (.iload 4, 2) := by decide +kernel
theorem dX12_best_68 : decode cX12_best 68 = .ok (.ifCond .le 5, 3) := by decide +kernel
theorem dX12_best_71 : decode cX12_best 71 = .ok (.iload_n 3, 1) := by decide +kernel
theorem dX12_best_72 : decode cX12_best 72 = .ok (.istore_n 2, 1) := by decide +kernel
theorem dX12_best_73 : decode cX12_best 73 = .ok (.iinc 3 1, 3) := by decide +kernel
theorem dX12_best_76 : decode cX12_best 76 = .ok (.goto (-55), 3) := by decide +kernel
theorem dX12_best_79 : decode cX12_best 79 = .ok (.iload_n 2, 1) := by decide +kernel
theorem dX12_best_80 : decode cX12_best 80 = .ok (.ireturn, 1) := by decide +kernel
set_option maxRecDepth 100000 in
set_option maxHeartbeats 4000000 in
theorem c_X12_best {l : Launch} {G : Gx} (hap : k_ap G shR.length) (v1 : Int32) (M0 : Mem) (r : Int32 × Mem) (hf : f_X12_best v1 M0 = some r) : k_Met l yX12_best cX12_best 5 (some .int) 4 89 G shR [.ref (G.2.1 0), .int v1] M0 (k_Qi G shR r.1 r.2) := by
  refine k_Met_of (by decide) hap (Nat.le_of_ble_eq_true rfl) ?_
  intro p e s m args below meth c C hr hlk
  have C : Cx p s m args c cX12_best RX12 5 G shR := C
  have k_b21 : ∀ (n21 : Nat) (v1 : Int32) (v2 : Int32) (v3 : Int32) (M : Mem), f_X12_best_b21 n21 v1 v2 v3 M = some r → K p l e (k_rm 4 89) s m args below meth c 5 G shR (MQ below (k_Qi G shR r.1 r.2) args s 0 0 (k_A G shR.length)) 21 [(0, .ref (G.2.1 0)), (1, .int v1), (2, .int v2), (3, .int v3)] [] M := by
    intro n21
    induction n21 with
    | zero => intro v1 v2 v3 M hf; simp [f_X12_best_b21] at hf
    | succ n21 ih21 =>
      have k_b48 : ∀ (v1 : Int32) (v2 : Int32) (v3 : Int32) (s0 : Int32) (M : Mem), f_X12_best_b48 (f_X12_best_b21 n21) v1 v2 v3 s0 M = some r → K p l e (k_rm 4 89) s m args below meth c 5 G shR (MQ below (k_Qi G shR r.1 r.2) args s 0 0 (k_A G shR.length)) 48 [(0, .ref (G.2.1 0)), (1, .int v1), (2, .int v2), (3, .int v3)] [.int s0] M := by
        intro v1 v2 v3 s0 M hf
        unfold f_X12_best_b48 at hf
        refine k_istore C dX12_best_48 (by decide) [1, 2, 3, 4, 0] (lv' := [(0, .ref (G.2.1 0)), (1, .int v1), (2, .int v2), (3, .int v3), (4, .int s0)]) rfl ?_
        refine k_iload_n C dX12_best_50 2 rfl ?_
        rcases ite_g hf with ⟨c8, hf⟩ | ⟨c8, hf⟩
        · refine k_if_lt_t C dX12_best_51 (tgt := 71) (by decide) c8 ?_
          refine k_iload_n C dX12_best_71 3 rfl ?_
          refine k_istore_n C dX12_best_72 (by decide) [1, 2, 0, 3] (lv' := [(0, .ref (G.2.1 0)), (1, .int v1), (2, .int v3), (3, .int v3)]) rfl ?_
          refine k_iinc C dX12_best_73 3 rfl (v := (v3 + (1 : Int32))) rfl (by decide) [1, 2, 3, 0] (lv' := [(0, .ref (G.2.1 0)), (1, .int v1), (2, .int v3), (3, .int (v3 + (1 : Int32)))]) rfl ?_
          refine k_goto C dX12_best_76 (tgt := 21) (by decide) ?_
          exact ih21 v1 v3 (v3 + (1 : Int32)) M hf
        · refine k_if_lt_f C dX12_best_51 (tgt := 71) (by decide) c8 ?_
          refine k_iload_n C dX12_best_54 1 rfl ?_
          rcases ite_g hf with ⟨c9, hf⟩ | ⟨c9, hf⟩
          · refine k_if_ne_f C dX12_best_55 (tgt := 66) (by decide) c9 ?_
            refine k_iload C dX12_best_58 4 rfl ?_
            rcases ite_g hf with ⟨c11, hf⟩ | ⟨c11, hf⟩
            · refine k_if_ge_t C dX12_best_60 (tgt := 73) (by decide) c11 ?_
              refine k_iinc C dX12_best_73 3 rfl (v := (v3 + (1 : Int32))) rfl (by decide) [1, 2, 3, 0] (lv' := [(0, .ref (G.2.1 0)), (1, .int v1), (2, .int v2), (3, .int (v3 + (1 : Int32)))]) rfl ?_
              refine k_goto C dX12_best_76 (tgt := 21) (by decide) ?_
              exact ih21 v1 v2 (v3 + (1 : Int32)) M hf
            · refine k_if_ge_f C dX12_best_60 (tgt := 73) (by decide) c11 ?_
              refine k_goto C dX12_best_63 (tgt := 71) (by decide) ?_
              refine k_iload_n C dX12_best_71 3 rfl ?_
              refine k_istore_n C dX12_best_72 (by decide) [1, 2, 0, 3] (lv' := [(0, .ref (G.2.1 0)), (1, .int v1), (2, .int v3), (3, .int v3)]) rfl ?_
              refine k_iinc C dX12_best_73 3 rfl (v := (v3 + (1 : Int32))) rfl (by decide) [1, 2, 3, 0] (lv' := [(0, .ref (G.2.1 0)), (1, .int v1), (2, .int v3), (3, .int (v3 + (1 : Int32)))]) rfl ?_
              refine k_goto C dX12_best_76 (tgt := 21) (by decide) ?_
              exact ih21 v1 v3 (v3 + (1 : Int32)) M hf
          · refine k_if_ne_t C dX12_best_55 (tgt := 66) (by decide) c9 ?_
            refine k_iload C dX12_best_66 4 rfl ?_
            rcases ite_g hf with ⟨c10, hf⟩ | ⟨c10, hf⟩
            · refine k_if_le_t C dX12_best_68 (tgt := 73) (by decide) c10 ?_
              refine k_iinc C dX12_best_73 3 rfl (v := (v3 + (1 : Int32))) rfl (by decide) [1, 2, 3, 0] (lv' := [(0, .ref (G.2.1 0)), (1, .int v1), (2, .int v2), (3, .int (v3 + (1 : Int32)))]) rfl ?_
              refine k_goto C dX12_best_76 (tgt := 21) (by decide) ?_
              exact ih21 v1 v2 (v3 + (1 : Int32)) M hf
            · refine k_if_le_f C dX12_best_68 (tgt := 73) (by decide) c10 ?_
              refine k_iload_n C dX12_best_71 3 rfl ?_
              refine k_istore_n C dX12_best_72 (by decide) [1, 2, 0, 3] (lv' := [(0, .ref (G.2.1 0)), (1, .int v1), (2, .int v3), (3, .int v3)]) rfl ?_
              refine k_iinc C dX12_best_73 3 rfl (v := (v3 + (1 : Int32))) rfl (by decide) [1, 2, 3, 0] (lv' := [(0, .ref (G.2.1 0)), (1, .int v1), (2, .int v3), (3, .int (v3 + (1 : Int32)))]) rfl ?_
              refine k_goto C dX12_best_76 (tgt := 21) (by decide) ?_
              exact ih21 v1 v3 (v3 + (1 : Int32)) M hf
      intro v1 v2 v3 M hf
      unfold f_X12_best_b21 at hf
      refine k_iload_n C dX12_best_21 3 rfl ?_
      refine k_aload_n C dX12_best_22 0 rfl ?_
      refine k_geti C shR_0 (j := 5) rfl FL_X12_62 dX12_best_23 ?_
      rcases ite_g hf with ⟨c3, hf⟩ | ⟨c3, hf⟩
      · refine k_icmp_ge_t C dX12_best_26 (tgt := 79) (by decide) c3 ?_
        refine k_iload_n C dX12_best_79 2 rfl ?_
        exact k_iret C hr hlk (prf hf) (prs hf) dX12_best_80
      · refine k_icmp_ge_f C dX12_best_26 (tgt := 79) (by decide) c3 ?_
        refine k_iload_n C dX12_best_29 2 rfl ?_
        rcases ite_g hf with ⟨c5, hf⟩ | ⟨c5, hf⟩
        · refine k_if_ge_t C dX12_best_30 (tgt := 37) (by decide) c5 ?_
          refine k_aload_n C dX12_best_37 0 rfl ?_
          refine k_iload_n C dX12_best_38 3 rfl ?_
          obtain ⟨t6, ht6, hf⟩ := bnd hf
          refine k_callVi C (As := [.int v3]) (c_X12_nextOf hap v3 M t6 ht6) ML_X12_nextOf wd_1510 shR_0 rfl rfl rfl ⟨Nat.le_of_ble_eq_true rfl, Nat.le_of_ble_eq_true rfl⟩ (Nat.le_of_ble_eq_true rfl) dX12_best_39 ?_
          refine k_aload_n C dX12_best_42 0 rfl ?_
          refine k_iload_n C dX12_best_43 2 rfl ?_
          obtain ⟨t7, ht7, hf⟩ := bnd hf
          refine k_callVi C (As := [.int v2]) (c_X12_nextOf hap v2 M t7 ht7) ML_X12_nextOf wd_1510 shR_0 rfl rfl rfl ⟨Nat.le_of_ble_eq_true rfl, Nat.le_of_ble_eq_true rfl⟩ (Nat.le_of_ble_eq_true rfl) dX12_best_44 ?_
          refine k_isub C dX12_best_47 ?_
          exact k_b48 v1 v2 v3 (t6 - t7) M hf
        · refine k_if_ge_f C dX12_best_30 (tgt := 37) (by decide) c5 ?_
          refine k_iconst C dX12_best_33 (v := (0 : Int32)) rfl ?_
          refine k_goto C dX12_best_34 (tgt := 48) (by decide) ?_
          exact k_b48 v1 v2 v3 (0 : Int32) M hf
  unfold f_X12_best at hf
  refine k_lv (lv' := [(0, .ref (G.2.1 0)), (1, .int v1)]) [0, 1] rfl ?_
  refine k_iload_n C dX12_best_0 1 rfl ?_
  refine k_iconst C dX12_best_1 (v := (0 : Int32)) rfl ?_
  refine k_iconst C dX12_best_2 (v := (1 : Int32)) rfl ?_
  refine k_callSi C (As := [.int v1, .int (0 : Int32), .int (1 : Int32)]) (c_X12_isIn hap v1 (0 : Int32) (1 : Int32) M0 _ rfl) MS_X12_isIn wd_1393 rfl rfl ⟨Nat.le_of_ble_eq_true rfl, Nat.le_of_ble_eq_true rfl⟩ (Nat.le_of_ble_eq_true rfl) dX12_best_3 ?_
  rcases ite_g hf with ⟨c1, hf⟩ | ⟨c1, hf⟩
  · refine k_if_ne_f C dX12_best_6 (tgt := 16) (by decide) c1 ?_
    refine k_aload_n C dX12_best_9 0 rfl ?_
    refine k_bipush C dX12_best_10 (v := (-2 : Int32)) rfl ?_
    obtain ⟨⟨t12, M12⟩, ht12, hf⟩ := bnd hf
    replace hf := bp_s hf
    refine k_callVi C (As := [.int (-2 : Int32)]) (c_X12_no hap (-2 : Int32) M0 (t12, M12) ht12) ML_X12_no wd_1369 shR_0 rfl rfl rfl ⟨Nat.le_of_ble_eq_true rfl, Nat.le_of_ble_eq_true rfl⟩ (Nat.le_of_ble_eq_true rfl) dX12_best_12 ?_
    exact k_iret C hr hlk (prf hf) (prs hf) dX12_best_15
  · refine k_if_ne_t C dX12_best_6 (tgt := 16) (by decide) c1 ?_
    refine k_bipush C dX12_best_16 (v := (-9 : Int32)) rfl ?_
    refine k_istore_n C dX12_best_18 (by decide) [1, 2, 0] (lv' := [(0, .ref (G.2.1 0)), (1, .int v1), (2, .int (-9 : Int32))]) rfl ?_
    refine k_iconst C dX12_best_19 (v := (0 : Int32)) rfl ?_
    refine k_istore_n C dX12_best_20 (by decide) [1, 2, 3, 0] (lv' := [(0, .ref (G.2.1 0)), (1, .int v1), (2, .int (-9 : Int32)), (3, .int (0 : Int32))]) rfl ?_
    exact k_b21 FU v1 (-9 : Int32) (0 : Int32) M0 hf
theorem dX12_charged_0 : decode cX12_charged 0 = .ok (.iload_n 1, 1) := by decide +kernel
theorem dX12_charged_1 : decode cX12_charged 1 = .ok (.iconst 0, 1) := by decide +kernel
theorem dX12_charged_2 : decode cX12_charged 2 = .ok (.sipush 999, 3) := by decide +kernel
theorem dX12_charged_5 : decode cX12_charged 5 = .ok (.invokestatic 68, 3) := by decide +kernel
theorem dX12_charged_8 : decode cX12_charged 8 = .ok (.istore_n 2, 1) := by decide +kernel
theorem dX12_charged_9 : decode cX12_charged 9 = .ok (.iload_n 2, 1) := by decide +kernel
theorem dX12_charged_10 : decode cX12_charged 10 = .ok (.ifCond .eq 9, 3) := by decide +kernel
theorem dX12_charged_13 : decode cX12_charged 13 = .ok (.aload_n 0, 1) := by decide +kernel
theorem dX12_charged_14 : decode cX12_charged 14 = .ok (.iload_n 2, 1) := by decide +kernel
theorem dX12_charged_15 : decode cX12_charged 15 = .ok (.invokevirtual 75, 3) := by decide +kernel
theorem dX12_charged_18 : decode cX12_charged 18 = .ok (.ireturn, 1) := by decide +kernel
theorem dX12_charged_19 : decode cX12_charged 19 = .ok (.iconst 0, 1) := by decide +kernel
theorem dX12_charged_20 : decode cX12_charged 20 = .ok (.istore_n 3, 1) := by decide +kernel
theorem dX12_charged_21 : decode cX12_charged 21 = .ok (.iload_n 3, 1) := by decide +kernel
theorem dX12_charged_22 : decode cX12_charged 22 = .ok (.aload_n 0, 1) := by decide +kernel
theorem dX12_charged_23 : decode cX12_charged 23 = .ok (.getfield 108, 3) := by decide +kernel
theorem dX12_charged_26 : decode cX12_charged 26 = .ok (.if_icmp .ge 20, 3) := by decide +kernel
theorem dX12_charged_29 : decode cX12_charged 29 = .ok (.aload_n 0, 1) := by decide +kernel
theorem dX12_charged_30 : decode cX12_charged 30 = .ok (.iload_n 3, 1) := by decide +kernel
theorem dX12_charged_31 : decode cX12_charged 31 = .ok (.invokevirtual 164, 3) := by decide +kernel
theorem dX12_charged_34 : decode cX12_charged 34 = .ok (.iload_n 1, 1) := by decide +kernel
theorem dX12_charged_35 : decode cX12_charged 35 = .ok (.if_icmp .le 5, 3) := by decide +kernel
theorem dX12_charged_38 : decode cX12_charged 38 = .ok (.iload_n 3, 1) := by decide +kernel
theorem dX12_charged_39 : decode cX12_charged 39 = .ok (.ireturn, 1) := by decide +kernel
theorem dX12_charged_40 : decode cX12_charged 40 = .ok (.iinc 3 1, 3) := by decide +kernel
theorem dX12_charged_43 : decode cX12_charged 43 = .ok (.goto (-22), 3) := by decide +kernel
theorem dX12_charged_46 : decode cX12_charged 46 = .ok (.bipush (-9), 2) := by decide +kernel
theorem dX12_charged_48 : decode cX12_charged 48 = .ok (.ireturn, 1) := by decide +kernel
set_option maxRecDepth 100000 in
set_option maxHeartbeats 4000000 in
theorem c_X12_charged {l : Launch} {G : Gx} (hap : k_ap G shR.length) (v1 : Int32) (M0 : Mem) (r : Int32 × Mem) (hf : f_X12_charged v1 M0 = some r) : k_Met l yX12_charged cX12_charged 4 (some .int) 4 89 G shR [.ref (G.2.1 0), .int v1] M0 (k_Qi G shR r.1 r.2) := by
  refine k_Met_of (by decide) hap (Nat.le_of_ble_eq_true rfl) ?_
  intro p e s m args below meth c C hr hlk
  have C : Cx p s m args c cX12_charged RX12 4 G shR := C
  have k_b21 : ∀ (n21 : Nat) (v1 : Int32) (v3 : Int32) (M : Mem), f_X12_charged_b21 n21 v1 v3 M = some r → K p l e (k_rm 4 89) s m args below meth c 4 G shR (MQ below (k_Qi G shR r.1 r.2) args s 0 0 (k_A G shR.length)) 21 [(0, .ref (G.2.1 0)), (1, .int v1), (3, .int v3)] [] M := by
    intro n21
    induction n21 with
    | zero => intro v1 v3 M hf; simp [f_X12_charged_b21] at hf
    | succ n21 ih21 =>
      intro v1 v3 M hf
      unfold f_X12_charged_b21 at hf
      refine k_iload_n C dX12_charged_21 2 rfl ?_
      refine k_aload_n C dX12_charged_22 0 rfl ?_
      refine k_geti C shR_0 (j := 6) rfl FL_X12_108 dX12_charged_23 ?_
      rcases ite_g hf with ⟨c2, hf⟩ | ⟨c2, hf⟩
      · refine k_icmp_ge_t C dX12_charged_26 (tgt := 46) (by decide) c2 ?_
        refine k_bipush C dX12_charged_46 (v := (-9 : Int32)) rfl ?_
        exact k_iret C hr hlk (prf hf) (prs hf) dX12_charged_48
      · refine k_icmp_ge_f C dX12_charged_26 (tgt := 46) (by decide) c2 ?_
        refine k_aload_n C dX12_charged_29 0 rfl ?_
        refine k_iload_n C dX12_charged_30 2 rfl ?_
        obtain ⟨t3, ht3, hf⟩ := bnd hf
        refine k_callVi C (As := [.int v3]) (c_X12_dueAt hap v3 M t3 ht3) ML_X12_dueAt wd_1451 shR_0 rfl rfl rfl ⟨Nat.le_of_ble_eq_true rfl, Nat.le_of_ble_eq_true rfl⟩ (Nat.le_of_ble_eq_true rfl) dX12_charged_31 ?_
        refine k_iload_n C dX12_charged_34 1 rfl ?_
        rcases ite_g hf with ⟨c4, hf⟩ | ⟨c4, hf⟩
        · refine k_icmp_le_t C dX12_charged_35 (tgt := 40) (by decide) c4 ?_
          refine k_iinc C dX12_charged_40 2 rfl (v := (v3 + (1 : Int32))) rfl (by decide) [1, 2, 0] (lv' := [(0, .ref (G.2.1 0)), (1, .int v1), (3, .int (v3 + (1 : Int32)))]) rfl ?_
          refine k_goto C dX12_charged_43 (tgt := 21) (by decide) ?_
          exact ih21 v1 (v3 + (1 : Int32)) M hf
        · refine k_icmp_le_f C dX12_charged_35 (tgt := 40) (by decide) c4 ?_
          refine k_iload_n C dX12_charged_38 2 rfl ?_
          exact k_iret C hr hlk (prf hf) (prs hf) dX12_charged_39
  unfold f_X12_charged at hf
  refine k_lv (lv' := [(0, .ref (G.2.1 0)), (1, .int v1)]) [0, 1] rfl ?_
  refine k_iload_n C dX12_charged_0 1 rfl ?_
  refine k_iconst C dX12_charged_1 (v := (0 : Int32)) rfl ?_
  refine k_sipush C dX12_charged_2 (v := (999 : Int32)) rfl ?_
  refine k_callSi C (As := [.int v1, .int (0 : Int32), .int (999 : Int32)]) (c_X12_bound hap v1 (0 : Int32) (999 : Int32) M0 _ rfl) MS_X12_bound wd_1366 rfl rfl ⟨Nat.le_of_ble_eq_true rfl, Nat.le_of_ble_eq_true rfl⟩ (Nat.le_of_ble_eq_true rfl) dX12_charged_5 ?_
  refine k_istore_n C dX12_charged_8 (by decide) [1, 2, 0] (lv' := [(0, .ref (G.2.1 0)), (1, .int v1), (2, .int (f_X12_bound v1 (0 : Int32) (999 : Int32)))]) rfl ?_
  refine k_iload_n C dX12_charged_9 2 rfl ?_
  rcases ite_g hf with ⟨c1, hf⟩ | ⟨c1, hf⟩
  · refine k_if_eq_t C dX12_charged_10 (tgt := 19) (by decide) c1 ?_
    refine k_iconst C dX12_charged_19 (v := (0 : Int32)) rfl ?_
    refine k_istore_n C dX12_charged_20 (by decide) [1, 2, 0] (lv' := [(0, .ref (G.2.1 0)), (1, .int v1), (3, .int (0 : Int32))]) rfl ?_
    exact k_b21 FU v1 (0 : Int32) M0 hf
  · refine k_if_eq_f C dX12_charged_10 (tgt := 19) (by decide) c1 ?_
    refine k_aload_n C dX12_charged_13 0 rfl ?_
    refine k_iload_n C dX12_charged_14 2 rfl ?_
    obtain ⟨⟨t5, M5⟩, ht5, hf⟩ := bnd hf
    replace hf := bp_s hf
    refine k_callVi C (As := [.int (f_X12_bound v1 (0 : Int32) (999 : Int32))]) (c_X12_no hap (f_X12_bound v1 (0 : Int32) (999 : Int32)) M0 (t5, M5) ht5) ML_X12_no wd_1369 shR_0 rfl rfl rfl ⟨Nat.le_of_ble_eq_true rfl, Nat.le_of_ble_eq_true rfl⟩ (Nat.le_of_ble_eq_true rfl) dX12_charged_15 ?_
    exact k_iret C hr hlk (prf hf) (prs hf) dX12_charged_18
theorem dX12_dueBehind_0 : decode cX12_dueBehind 0 = .ok (.aload_n 0, 1) := by decide +kernel
theorem dX12_dueBehind_1 : decode cX12_dueBehind 1 = .ok (.aload_n 0, 1) := by decide +kernel
theorem dX12_dueBehind_2 : decode cX12_dueBehind 2 = .ok (.getfield 108, 3) := by decide +kernel
theorem dX12_dueBehind_5 : decode cX12_dueBehind 5 = .ok (.iload_n 2, 1) := by decide +kernel
theorem dX12_dueBehind_6 : decode cX12_dueBehind 6 = .ok (.invokevirtual 157, 3) := by decide +kernel
theorem dX12_dueBehind_9 : decode cX12_dueBehind 9 = .ok (.istore_n 3, 1) := by decide +kernel
theorem dX12_dueBehind_10 : decode cX12_dueBehind 10 = .ok (.iconst 0, 1) := by decide +kernel
theorem dX12_dueBehind_11 : decode cX12_dueBehind 11 = .ok (.istore 4, 2) := by decide +kernel
theorem dX12_dueBehind_13 : decode cX12_dueBehind 13 = .ok (.iload 4, 2) := by decide +kernel
theorem dX12_dueBehind_15 : decode cX12_dueBehind 15 = .ok (.aload_n 0, 1) := by decide +kernel
theorem dX12_dueBehind_16 : decode cX12_dueBehind 16 = .ok (.getfield 62, 3) := by decide +kernel
theorem dX12_dueBehind_19 : decode cX12_dueBehind 19 = .ok (.if_icmp .ge 36, 3) := by decide +kernel
theorem dX12_dueBehind_22 : decode cX12_dueBehind 22 = .ok (.iload_n 3, 1) := by decide +kernel
theorem dX12_dueBehind_23 : decode cX12_dueBehind 23 = .ok (.iload_n 1, 1) := by decide +kernel
theorem dX12_dueBehind_24 : decode cX12_dueBehind 24 = .ok (.iload 4, 2) := by decide +kernel
theorem dX12_dueBehind_26 : decode cX12_dueBehind 26 = .ok (.invokestatic 179, 3) := by decide +kernel
theorem dX12_dueBehind_29 : decode cX12_dueBehind 29 = .ok (.ifCond .eq 17, 3) := by decide +kernel
theorem dX12_dueBehind_32 : decode cX12_dueBehind 32 = .ok (.aload_n 0, 1) := by decide +kernel
theorem dX12_dueBehind_33 : decode cX12_dueBehind 33 = .ok (.iload 4, 2) := by decide +kernel
theorem dX12_dueBehind_35 : decode cX12_dueBehind 35 = .ok (.iload_n 2, 1) := by decide +kernel
theorem dX12_dueBehind_36 : decode cX12_dueBehind 36 = .ok (.invokevirtual 154, 3) := by decide +kernel
theorem dX12_dueBehind_39 : decode cX12_dueBehind 39 = .ok (.ifCond .eq 7, 3) := by decide +kernel
theorem dX12_dueBehind_42 : decode cX12_dueBehind 42 = .ok (.iconst 1, 1) := by decide +kernel
theorem dX12_dueBehind_43 : decode cX12_dueBehind 43 = .ok (.goto 4, 3) := by decide +kernel
theorem dX12_dueBehind_46 : decode cX12_dueBehind 46 = .ok (.iconst 0, 1) := by decide +kernel
theorem dX12_dueBehind_47 : decode cX12_dueBehind 47 = .ok (.iadd, 1) := by decide +kernel
theorem dX12_dueBehind_48 : decode cX12_dueBehind 48 = .ok (.istore_n 3, 1) := by decide +kernel
theorem dX12_dueBehind_49 : decode cX12_dueBehind 49 = .ok (.iinc 4 1, 3) := by decide +kernel
theorem dX12_dueBehind_52 : decode cX12_dueBehind 52 = .ok (.goto (-39), 3) := by decide +kernel
theorem dX12_dueBehind_55 : decode cX12_dueBehind 55 = .ok (.aload_n 0, 1) := by decide +kernel
theorem dX12_dueBehind_56 : decode cX12_dueBehind 56 = .ok (.iload_n 2, 1) := by decide +kernel
theorem dX12_dueBehind_57 : decode cX12_dueBehind 57 = .ok (.iload_n 3, 1) := by decide +kernel
theorem dX12_dueBehind_58 : decode cX12_dueBehind 58 = .ok (.invokevirtual 161, 3) := by decide +kernel
theorem dX12_dueBehind_61 : decode cX12_dueBehind 61 = .ok (.ireturn, 1) := by decide +kernel
set_option maxRecDepth 100000 in
set_option maxHeartbeats 4000000 in
theorem c_X12_dueBehind {l : Launch} {G : Gx} (hap : k_ap G shR.length) (v1 : Int32) (v2 : Int32) (M0 : Mem) (r : Int32) (hf : f_X12_dueBehind v1 v2 M0 = some r) : k_Met l yX12_dueBehind cX12_dueBehind 5 (some .int) 3 68 G shR [.ref (G.2.1 0), .int v1, .int v2] M0 (k_Qi G shR r M0) := by
  refine k_Met_of (by decide) hap (Nat.le_of_ble_eq_true rfl) ?_
  intro p e s m args below meth c C hr hlk
  have C : Cx p s m args c cX12_dueBehind RX12 5 G shR := C
  have k_b13 : ∀ (n13 : Nat) (v1 : Int32) (v2 : Int32) (v3 : Int32) (v4 : Int32), f_X12_dueBehind_b13 M0 n13 v1 v2 v3 v4 = some r → K p l e (k_rm 3 68) s m args below meth c 5 G shR (MQ below (k_Qi G shR r M0) args s 0 0 (k_A G shR.length)) 13 [(0, .ref (G.2.1 0)), (1, .int v1), (2, .int v2), (3, .int v3), (4, .int v4)] [] M0 := by
    intro n13
    induction n13 with
    | zero => intro v1 v2 v3 v4 hf; simp [f_X12_dueBehind_b13] at hf
    | succ n13 ih13 =>
      intro v1 v2 v3 v4 hf
      unfold f_X12_dueBehind_b13 at hf
      refine k_iload C dX12_dueBehind_13 4 rfl ?_
      refine k_aload_n C dX12_dueBehind_15 0 rfl ?_
      refine k_geti C shR_0 (j := 5) rfl FL_X12_62 dX12_dueBehind_16 ?_
      rcases ite_g hf with ⟨c2, hf⟩ | ⟨c2, hf⟩
      · refine k_icmp_ge_t C dX12_dueBehind_19 (tgt := 55) (by decide) c2 ?_
        refine k_aload_n C dX12_dueBehind_55 0 rfl ?_
        refine k_iload_n C dX12_dueBehind_56 2 rfl ?_
        refine k_iload_n C dX12_dueBehind_57 3 rfl ?_
        obtain ⟨t3, ht3, hf⟩ := bnd hf
        refine k_callVi C (As := [.int v2, .int v3]) (c_X12_dueOf hap v2 v3 M0 t3 ht3) ML_X12_dueOf wd_1466 shR_0 rfl rfl rfl ⟨Nat.le_of_ble_eq_true rfl, Nat.le_of_ble_eq_true rfl⟩ (Nat.le_of_ble_eq_true rfl) dX12_dueBehind_58 ?_
        exact k_iret C hr hlk (Option.some.inj hf) rfl dX12_dueBehind_61
      · refine k_icmp_ge_f C dX12_dueBehind_19 (tgt := 55) (by decide) c2 ?_
        refine k_iload_n C dX12_dueBehind_22 3 rfl ?_
        refine k_iload_n C dX12_dueBehind_23 1 rfl ?_
        refine k_iload C dX12_dueBehind_24 4 rfl ?_
        refine k_callSi C (As := [.int v1, .int v4]) (c_X12_has hap v1 v4 M0 _ rfl) MS_X12_has wd_1531 rfl rfl ⟨Nat.le_of_ble_eq_true rfl, Nat.le_of_ble_eq_true rfl⟩ (Nat.le_of_ble_eq_true rfl) dX12_dueBehind_26 ?_
        rcases ite_g hf with ⟨c5, hf⟩ | ⟨c5, hf⟩
        · refine k_if_eq_t C dX12_dueBehind_29 (tgt := 46) (by decide) c5 ?_
          refine k_iconst C dX12_dueBehind_46 (v := (0 : Int32)) rfl ?_
          refine k_iadd C dX12_dueBehind_47 ?_
          refine k_istore_n C dX12_dueBehind_48 (by decide) [1, 2, 3, 0, 4] (lv' := [(0, .ref (G.2.1 0)), (1, .int v1), (2, .int v2), (3, .int (v3 + (0 : Int32))), (4, .int v4)]) rfl ?_
          refine k_iinc C dX12_dueBehind_49 4 rfl (v := (v4 + (1 : Int32))) rfl (by decide) [1, 2, 3, 4, 0] (lv' := [(0, .ref (G.2.1 0)), (1, .int v1), (2, .int v2), (3, .int (v3 + (0 : Int32))), (4, .int (v4 + (1 : Int32)))]) rfl ?_
          refine k_goto C dX12_dueBehind_52 (tgt := 13) (by decide) ?_
          exact ih13 v1 v2 (v3 + (0 : Int32)) (v4 + (1 : Int32)) hf
        · refine k_if_eq_f C dX12_dueBehind_29 (tgt := 46) (by decide) c5 ?_
          refine k_aload_n C dX12_dueBehind_32 0 rfl ?_
          refine k_iload C dX12_dueBehind_33 4 rfl ?_
          refine k_iload_n C dX12_dueBehind_35 2 rfl ?_
          obtain ⟨t6, ht6, hf⟩ := bnd hf
          refine k_callVi C (As := [.int v4, .int v2]) (c_X12_areSame hap v4 v2 M0 t6 ht6) ML_X12_areSame wd_1459 shR_0 rfl rfl rfl ⟨Nat.le_of_ble_eq_true rfl, Nat.le_of_ble_eq_true rfl⟩ (Nat.le_of_ble_eq_true rfl) dX12_dueBehind_36 ?_
          have hj7 : K p l e (k_rm 3 68) s m args below meth c 5 G shR (MQ below (k_Qi G shR r M0) args s 0 0 (k_A G shR.length)) 47 [(0, .ref (G.2.1 0)), (1, .int v1), (2, .int v2), (3, .int v3), (4, .int v4)] [.int (if t6 = 0 then (0 : Int32) else (1 : Int32)), .int v3] M0 := by
            refine k_iadd C dX12_dueBehind_47 ?_
            refine k_istore_n C dX12_dueBehind_48 (by decide) [1, 2, 3, 0, 4] (lv' := [(0, .ref (G.2.1 0)), (1, .int v1), (2, .int v2), (3, .int (v3 + (if t6 = 0 then (0 : Int32) else (1 : Int32)))), (4, .int v4)]) rfl ?_
            refine k_iinc C dX12_dueBehind_49 4 rfl (v := (v4 + (1 : Int32))) rfl (by decide) [1, 2, 3, 4, 0] (lv' := [(0, .ref (G.2.1 0)), (1, .int v1), (2, .int v2), (3, .int (v3 + (if t6 = 0 then (0 : Int32) else (1 : Int32)))), (4, .int (v4 + (1 : Int32)))]) rfl ?_
            refine k_goto C dX12_dueBehind_52 (tgt := 13) (by decide) ?_
            exact ih13 v1 v2 (v3 + (if t6 = 0 then (0 : Int32) else (1 : Int32))) (v4 + (1 : Int32)) hf
          by_cases c8 : t6 = 0
          · refine k_if_eq_t C dX12_dueBehind_39 (tgt := 46) (by decide) c8 ?_
            refine k_iconst C dX12_dueBehind_46 (v := (0 : Int32)) rfl ?_
            exact k_val (by rw [if_pos c8]) hj7
          · refine k_if_eq_f C dX12_dueBehind_39 (tgt := 46) (by decide) c8 ?_
            refine k_iconst C dX12_dueBehind_42 (v := (1 : Int32)) rfl ?_
            refine k_goto C dX12_dueBehind_43 (tgt := 47) (by decide) ?_
            exact k_val (by rw [if_neg c8]) hj7
  unfold f_X12_dueBehind at hf
  refine k_lv (lv' := [(0, .ref (G.2.1 0)), (1, .int v1), (2, .int v2)]) [0, 1, 2] rfl ?_
  refine k_aload_n C dX12_dueBehind_0 0 rfl ?_
  refine k_aload_n C dX12_dueBehind_1 0 rfl ?_
  refine k_geti C shR_0 (j := 6) rfl FL_X12_108 dX12_dueBehind_2 ?_
  refine k_iload_n C dX12_dueBehind_5 2 rfl ?_
  obtain ⟨t1, ht1, hf⟩ := bnd hf
  refine k_callVi C (As := [.int (M0.1 0 6), .int v2]) (c_X12_repeatsAt hap (M0.1 0 6) v2 M0 t1 ht1) ML_X12_repeatsAt wd_1455 shR_0 rfl rfl rfl ⟨Nat.le_of_ble_eq_true rfl, Nat.le_of_ble_eq_true rfl⟩ (Nat.le_of_ble_eq_true rfl) dX12_dueBehind_6 ?_
  refine k_istore_n C dX12_dueBehind_9 (by decide) [1, 2, 3, 0] (lv' := [(0, .ref (G.2.1 0)), (1, .int v1), (2, .int v2), (3, .int t1)]) rfl ?_
  refine k_iconst C dX12_dueBehind_10 (v := (0 : Int32)) rfl ?_
  refine k_istore C dX12_dueBehind_11 (by decide) [1, 2, 3, 4, 0] (lv' := [(0, .ref (G.2.1 0)), (1, .int v1), (2, .int v2), (3, .int t1), (4, .int (0 : Int32))]) rfl ?_
  exact k_b13 FU v1 v2 t1 (0 : Int32) hf
theorem dX12_findLeast_0 : decode cX12_findLeast 0 = .ok (.iconst 0, 1) := by decide +kernel
theorem dX12_findLeast_1 : decode cX12_findLeast 1 = .ok (.istore_n 2, 1) := by decide +kernel
theorem dX12_findLeast_2 : decode cX12_findLeast 2 = .ok (.iload_n 2, 1) := by decide +kernel
theorem dX12_findLeast_3 : decode cX12_findLeast 3 = .ok (.sipush 256, 3) := by decide +kernel
theorem dX12_findLeast_6 : decode cX12_findLeast 6 = .ok (.if_icmp .ge 116, 3) := by decide +kernel
theorem dX12_findLeast_9 : decode cX12_findLeast 9 = .ok (.iload_n 2, 1) := by decide +kernel
theorem dX12_findLeast_10 : decode cX12_findLeast 10 = .ok (.iload_n 1, 1) := by decide +kernel
theorem dX12_findLeast_11 : decode cX12_findLeast 11 = .ok (.iconst (-1), 1) := by decide +kernel
theorem dX12_findLeast_12 : decode cX12_findLeast 12 = .ok (.ixor, 1) := by decide +kernel
theorem dX12_findLeast_13 : decode cX12_findLeast 13 = .ok (.iand, 1) := by decide +kernel
theorem dX12_findLeast_14 : decode cX12_findLeast 14 = .ok (.ifCond .eq 6, 3) := by decide +kernel
theorem dX12_findLeast_17 : decode cX12_findLeast 17 = .ok (.goto 99, 3) := by decide +kernel
theorem dX12_findLeast_20 : decode cX12_findLeast 20 = .ok (.aload_n 0, 1) := by decide +kernel
theorem dX12_findLeast_21 : decode cX12_findLeast 21 = .ok (.getfield 40, 3) := by decide +kernel
theorem dX12_findLeast_24 : decode cX12_findLeast 24 = .ok (.iload_n 2, 1) := by decide +kernel
theorem dX12_findLeast_25 : decode cX12_findLeast 25 = .ok (.iload_n 2, 1) := by decide +kernel
theorem dX12_findLeast_26 : decode cX12_findLeast 26 = .ok (.ifCond .ne 7, 3) := by decide +kernel
theorem dX12_findLeast_29 : decode cX12_findLeast 29 = .ok (.iconst 0, 1) := by decide +kernel
theorem dX12_findLeast_30 : decode cX12_findLeast 30 = .ok (.goto 5, 3) := by decide +kernel
theorem dX12_findLeast_33 : decode cX12_findLeast 33 = .ok (.ldc 182, 2) := by decide +kernel
theorem dX12_findLeast_35 : decode cX12_findLeast 35 = .ok (.iastore, 1) := by decide +kernel
theorem dX12_findLeast_36 : decode cX12_findLeast 36 = .ok (.iconst 0, 1) := by decide +kernel
theorem dX12_findLeast_37 : decode cX12_findLeast 37 = .ok (.istore_n 3, 1) := by decide +kernel
theorem dX12_findLeast_38 : decode cX12_findLeast 38 = .ok (.iload_n 3, 1) := by decide +kernel
theorem dX12_findLeast_39 : decode cX12_findLeast 39 = .ok (.aload_n 0, 1) := by decide +kernel
theorem dX12_findLeast_40 : decode cX12_findLeast 40 = .ok (.getfield 62, 3) := by decide +kernel
theorem dX12_findLeast_43 : decode cX12_findLeast 43 = .ok (.if_icmp .ge 73, 3) := by decide +kernel
theorem dX12_findLeast_46 : decode cX12_findLeast 46 = .ok (.iload_n 2, 1) := by decide +kernel
theorem dX12_findLeast_47 : decode cX12_findLeast 47 = .ok (.iload_n 3, 1) := by decide +kernel
theorem dX12_findLeast_48 : decode cX12_findLeast 48 = .ok (.invokestatic 179, 3) := by decide +kernel
theorem dX12_findLeast_51 : decode cX12_findLeast 51 = .ok (.ifCond .ne 6, 3) := by decide +kernel
theorem dX12_findLeast_54 : decode cX12_findLeast 54 = .ok (.goto 56, 3) := by decide +kernel
theorem dX12_findLeast_57 : decode cX12_findLeast 57 = .ok (.aload_n 0, 1) := by decide +kernel
theorem dX12_findLeast_58 : decode cX12_findLeast 58 = .ok (.iload_n 1, 1) := by decide +kernel
theorem dX12_findLeast_59 : decode cX12_findLeast 59 = .ok (.iload_n 2, 1) := by decide +kernel
theorem dX12_findLeast_60 : decode cX12_findLeast 60 = .ok (.iconst (-1), 1) := by decide +kernel
theorem dX12_findLeast_61 : decode cX12_findLeast 61 = .ok (.ixor, 1) := by decide +kernel
theorem dX12_findLeast_62 : decode cX12_findLeast 62 = .ok (.iand, 1) := by decide +kernel
theorem dX12_findLeast_63 : decode cX12_findLeast 63 = .ok (.iload_n 3, 1) := by decide +kernel
theorem dX12_findLeast_64 : decode cX12_findLeast 64 = .ok (.invokevirtual 183, 3) := by decide +kernel
theorem dX12_findLeast_67 : decode cX12_findLeast 67 = .ok (.aload_n 0, 1) := by decide +kernel
theorem dX12_findLeast_68 : decode cX12_findLeast 68 = .ok (.getfield 40, 3) := by decide +kernel
theorem dX12_findLeast_71 : decode cX12_findLeast 71 = .ok (.iload_n 2, 1) := by decide +kernel
theorem dX12_findLeast_72 : decode cX12_findLeast 72 = .ok (.iconst 1, 1) := by decide +kernel
theorem dX12_findLeast_73 : decode cX12_findLeast 73 = .ok (.iload_n 3, 1) := by decide +kernel
theorem dX12_findLeast_74 : decode cX12_findLeast 74 = .ok (.ishl, 1) := by decide +kernel
theorem dX12_findLeast_75 : decode cX12_findLeast 75 = .ok (.iconst (-1), 1) := by decide +kernel
theorem dX12_findLeast_76 : decode cX12_findLeast 76 = .ok (.ixor, 1) := by decide +kernel
theorem dX12_findLeast_77 : decode cX12_findLeast 77 = .ok (.iand, 1) := by decide +kernel
theorem dX12_findLeast_78 : decode cX12_findLeast 78 = .ok (.iaload, 1) := by decide +kernel
theorem dX12_findLeast_79 : decode cX12_findLeast 79 = .ok (.iadd, 1) := by decide +kernel
theorem dX12_findLeast_80 : decode cX12_findLeast 80 = .ok (.istore 4, 2) := by decide +kernel
theorem dX12_findLeast_82 : decode cX12_findLeast 82 = .ok (.aload_n 0, 1) := by decide +kernel
theorem dX12_findLeast_83 : decode cX12_findLeast 83 = .ok (.getfield 40, 3) := by decide +kernel
theorem dX12_findLeast_86 : decode cX12_findLeast 86 = .ok (.iload_n 2, 1) := by decide +kernel
theorem dX12_findLeast_87 : decode cX12_findLeast 87 = .ok (.iload 4, 2) := by decide +kernel
theorem dX12_findLeast_89 : decode cX12_findLeast 89 = .ok (.aload_n 0, 1) := by decide +kernel
theorem dX12_findLeast_90 : decode cX12_findLeast 90 = .ok (.getfield 40, 3) := by decide +kernel
theorem dX12_findLeast_93 : decode cX12_findLeast 93 = .ok (.iload_n 2, 1) := by decide +kernel
theorem dX12_findLeast_94 : decode cX12_findLeast 94 = .ok (.iaload, 1) := by decide +kernel
theorem dX12_findLeast_95 : decode cX12_findLeast 95 = .ok (.if_icmp .ge 8, 3) := by decide +kernel
theorem dX12_findLeast_98 : decode cX12_findLeast 98 = .ok (.iload 4, 2) := by decide +kernel
theorem dX12_findLeast_100 : decode cX12_findLeast 100 = .ok (.goto 9, 3) := by decide +kernel
theorem dX12_findLeast_103 : decode cX12_findLeast 103 = .ok (.aload_n 0, 1) := by decide +kernel
theorem dX12_findLeast_104 : decode cX12_findLeast 104 = .ok (.getfield 40, 3) := by decide +kernel
theorem dX12_findLeast_107 : decode cX12_findLeast 107 = .ok (.iload_n 2, 1) := by decide +kernel
theorem dX12_findLeast_108 : decode cX12_findLeast 108 = .ok (.iaload, 1) := by decide +kernel
theorem dX12_findLeast_109 : decode cX12_findLeast 109 = .ok (.iastore, 1) := by decide +kernel
theorem dX12_findLeast_110 : decode cX12_findLeast 110 = .ok (.iinc 3 1, 3) := by decide +kernel
theorem dX12_findLeast_113 : decode cX12_findLeast 113 = .ok (.goto (-75), 3) := by decide +kernel
theorem dX12_findLeast_116 : decode cX12_findLeast 116 = .ok (.iinc 2 1, 3) := by decide +kernel
theorem dX12_findLeast_119 : decode cX12_findLeast 119 = .ok (.goto (-117), 3) := by decide +kernel
theorem dX12_findLeast_122 : decode cX12_findLeast 122 = .ok (.return_, 1) := by decide +kernel
set_option maxRecDepth 100000 in
set_option maxHeartbeats 4000000 in
theorem c_X12_findLeast {l : Launch} {G : Gx} (hap : k_ap G shR.length) (v1 : Int32) (M0 : Mem) (r : Mem) (hf : f_X12_findLeast v1 M0 = some r) : k_Met l yX12_findLeast cX12_findLeast 5 none 4 92 G shR [.ref (G.2.1 0), .int v1] M0 (k_Qv G shR r) := by
  refine k_Met_of (by decide) hap (Nat.le_of_ble_eq_true rfl) ?_
  intro p e s m args below meth c C hr hlk
  have C : Cx p s m args c cX12_findLeast RX12 5 G shR := C
  have k_b2 : ∀ (n2 : Nat) (v1 : Int32) (v2 : Int32) (M : Mem), f_X12_findLeast_b2 n2 v1 v2 M = some r → K p l e (k_rm 4 92) s m args below meth c 5 G shR (MQ below (k_Qv G shR r) args s 0 0 (k_A G shR.length)) 2 [(0, .ref (G.2.1 0)), (1, .int v1), (2, .int v2)] [] M := by
    intro n2
    induction n2 with
    | zero => intro v1 v2 M hf; simp [f_X12_findLeast_b2] at hf
    | succ n2 ih2 =>
      have k_b38 : ∀ (n38 : Nat) (v1 : Int32) (v2 : Int32) (v3 : Int32) (M : Mem), f_X12_findLeast_b38 (f_X12_findLeast_b2 n2) n38 v1 v2 v3 M = some r → K p l e (k_rm 4 92) s m args below meth c 5 G shR (MQ below (k_Qv G shR r) args s 0 0 (k_A G shR.length)) 38 [(0, .ref (G.2.1 0)), (1, .int v1), (2, .int v2), (3, .int v3)] [] M := by
        intro n38
        induction n38 with
        | zero => intro v1 v2 v3 M hf; simp [f_X12_findLeast_b38] at hf
        | succ n38 ih38 =>
          intro v1 v2 v3 M hf
          unfold f_X12_findLeast_b38 at hf
          refine k_iload_n C dX12_findLeast_38 3 rfl ?_
          refine k_aload_n C dX12_findLeast_39 0 rfl ?_
          refine k_geti C shR_0 (j := 5) rfl FL_X12_62 dX12_findLeast_40 ?_
          rcases ite_g hf with ⟨c5, hf⟩ | ⟨c5, hf⟩
          · refine k_icmp_ge_t C dX12_findLeast_43 (tgt := 116) (by decide) c5 ?_
            refine k_iinc C dX12_findLeast_116 2 rfl (v := (v2 + (1 : Int32))) rfl (by decide) [1, 2, 0] (lv' := [(0, .ref (G.2.1 0)), (1, .int v1), (2, .int (v2 + (1 : Int32)))]) rfl ?_
            refine k_goto C dX12_findLeast_119 (tgt := 2) (by decide) ?_
            exact ih2 v1 (v2 + (1 : Int32)) M hf
          · refine k_icmp_ge_f C dX12_findLeast_43 (tgt := 116) (by decide) c5 ?_
            refine k_iload_n C dX12_findLeast_46 2 rfl ?_
            refine k_iload_n C dX12_findLeast_47 3 rfl ?_
            refine k_callSi C (As := [.int v2, .int v3]) (c_X12_has hap v2 v3 M _ rfl) MS_X12_has wd_1531 rfl rfl ⟨Nat.le_of_ble_eq_true rfl, Nat.le_of_ble_eq_true rfl⟩ (Nat.le_of_ble_eq_true rfl) dX12_findLeast_48 ?_
            rcases ite_g hf with ⟨c7, hf⟩ | ⟨c7, hf⟩
            · refine k_if_ne_f C dX12_findLeast_51 (tgt := 57) (by decide) c7 ?_
              refine k_goto C dX12_findLeast_54 (tgt := 110) (by decide) ?_
              refine k_iinc C dX12_findLeast_110 3 rfl (v := (v3 + (1 : Int32))) rfl (by decide) [1, 2, 3, 0] (lv' := [(0, .ref (G.2.1 0)), (1, .int v1), (2, .int v2), (3, .int (v3 + (1 : Int32)))]) rfl ?_
              refine k_goto C dX12_findLeast_113 (tgt := 38) (by decide) ?_
              exact ih38 v1 v2 (v3 + (1 : Int32)) M hf
            · refine k_if_ne_t C dX12_findLeast_51 (tgt := 57) (by decide) c7 ?_
              refine k_aload_n C dX12_findLeast_57 0 rfl ?_
              refine k_iload_n C dX12_findLeast_58 1 rfl ?_
              refine k_iload_n C dX12_findLeast_59 2 rfl ?_
              refine k_iconst C dX12_findLeast_60 (v := (-1 : Int32)) rfl ?_
              refine k_ixor C dX12_findLeast_61 ?_
              refine k_iand C dX12_findLeast_62 ?_
              refine k_iload_n C dX12_findLeast_63 3 rfl ?_
              obtain ⟨t8, ht8, hf⟩ := bnd hf
              refine k_callVi C (As := [.int (v1 &&& (v2 ^^^ (-1 : Int32))), .int v3]) (c_X12_dueBehind hap (v1 &&& (v2 ^^^ (-1 : Int32))) v3 M t8 ht8) ML_X12_dueBehind wd_1534 shR_0 rfl rfl rfl ⟨Nat.le_of_ble_eq_true rfl, Nat.le_of_ble_eq_true rfl⟩ (Nat.le_of_ble_eq_true rfl) dX12_findLeast_64 ?_
              refine k_aload_n C dX12_findLeast_67 0 rfl ?_
              refine k_getr C shR_0 (j := 21) rfl FL_X12_40 dX12_findLeast_68 ?_
              refine k_iload_n C dX12_findLeast_71 2 rfl ?_
              refine k_iconst C dX12_findLeast_72 (v := (1 : Int32)) rfl ?_
              refine k_iload_n C dX12_findLeast_73 3 rfl ?_
              refine k_ishlJ C dX12_findLeast_74 ?_
              refine k_iconst C dX12_findLeast_75 (v := (-1 : Int32)) rfl ?_
              refine k_ixor C dX12_findLeast_76 ?_
              refine k_iand C dX12_findLeast_77 ?_
              obtain ⟨t9, ht9, hf⟩ := bnd hf
              refine k_iald C shR_11 ht9 dX12_findLeast_78 ?_
              refine k_iadd C dX12_findLeast_79 ?_
              refine k_istore C dX12_findLeast_80 (by decide) [1, 2, 3, 4, 0] (lv' := [(0, .ref (G.2.1 0)), (1, .int v1), (2, .int v2), (3, .int v3), (4, .int (t8 + t9))]) rfl ?_
              refine k_aload_n C dX12_findLeast_82 0 rfl ?_
              refine k_getr C shR_0 (j := 21) rfl FL_X12_40 dX12_findLeast_83 ?_
              refine k_iload_n C dX12_findLeast_86 2 rfl ?_
              refine k_iload C dX12_findLeast_87 4 rfl ?_
              refine k_aload_n C dX12_findLeast_89 0 rfl ?_
              refine k_getr C shR_0 (j := 21) rfl FL_X12_40 dX12_findLeast_90 ?_
              refine k_iload_n C dX12_findLeast_93 2 rfl ?_
              obtain ⟨t10, ht10, hf⟩ := bnd hf
              refine k_iald C shR_11 ht10 dX12_findLeast_94 ?_
              rcases ite_g hf with ⟨c11, hf⟩ | ⟨c11, hf⟩
              · refine k_icmp_ge_t C dX12_findLeast_95 (tgt := 103) (by decide) c11 ?_
                refine k_aload_n C dX12_findLeast_103 0 rfl ?_
                refine k_getr C shR_0 (j := 21) rfl FL_X12_40 dX12_findLeast_104 ?_
                refine k_iload_n C dX12_findLeast_107 2 rfl ?_
                obtain ⟨t12, ht12, hf⟩ := bnd hf
                refine k_iald C shR_11 ht12 dX12_findLeast_108 ?_
                obtain ⟨M13, hM13, hf⟩ := bnd hf
                refine k_iast C shR_11 hM13 dX12_findLeast_109 ?_
                refine k_iinc C dX12_findLeast_110 3 rfl (v := (v3 + (1 : Int32))) rfl (by decide) [1, 2, 3, 0] (lv' := [(0, .ref (G.2.1 0)), (1, .int v1), (2, .int v2), (3, .int (v3 + (1 : Int32)))]) rfl ?_
                refine k_goto C dX12_findLeast_113 (tgt := 38) (by decide) ?_
                exact ih38 v1 v2 (v3 + (1 : Int32)) M13 hf
              · refine k_icmp_ge_f C dX12_findLeast_95 (tgt := 103) (by decide) c11 ?_
                refine k_iload C dX12_findLeast_98 4 rfl ?_
                refine k_goto C dX12_findLeast_100 (tgt := 109) (by decide) ?_
                obtain ⟨M14, hM14, hf⟩ := bnd hf
                refine k_iast C shR_11 hM14 dX12_findLeast_109 ?_
                refine k_iinc C dX12_findLeast_110 3 rfl (v := (v3 + (1 : Int32))) rfl (by decide) [1, 2, 3, 0] (lv' := [(0, .ref (G.2.1 0)), (1, .int v1), (2, .int v2), (3, .int (v3 + (1 : Int32)))]) rfl ?_
                refine k_goto C dX12_findLeast_113 (tgt := 38) (by decide) ?_
                exact ih38 v1 v2 (v3 + (1 : Int32)) M14 hf
      intro v1 v2 M hf
      unfold f_X12_findLeast_b2 at hf
      refine k_iload_n C dX12_findLeast_2 2 rfl ?_
      refine k_sipush C dX12_findLeast_3 (v := (256 : Int32)) rfl ?_
      rcases ite_g hf with ⟨c1, hf⟩ | ⟨c1, hf⟩
      · refine k_icmp_ge_t C dX12_findLeast_6 (tgt := 122) (by decide) c1 ?_
        exact k_vret C hr hlk (Option.some.inj hf) dX12_findLeast_122
      · refine k_icmp_ge_f C dX12_findLeast_6 (tgt := 122) (by decide) c1 ?_
        refine k_iload_n C dX12_findLeast_9 2 rfl ?_
        refine k_iload_n C dX12_findLeast_10 1 rfl ?_
        refine k_iconst C dX12_findLeast_11 (v := (-1 : Int32)) rfl ?_
        refine k_ixor C dX12_findLeast_12 ?_
        refine k_iand C dX12_findLeast_13 ?_
        rcases ite_g hf with ⟨c2, hf⟩ | ⟨c2, hf⟩
        · refine k_if_eq_t C dX12_findLeast_14 (tgt := 20) (by decide) c2 ?_
          refine k_aload_n C dX12_findLeast_20 0 rfl ?_
          refine k_getr C shR_0 (j := 21) rfl FL_X12_40 dX12_findLeast_21 ?_
          refine k_iload_n C dX12_findLeast_24 2 rfl ?_
          refine k_iload_n C dX12_findLeast_25 2 rfl ?_
          have hj15 : K p l e (k_rm 4 92) s m args below meth c 5 G shR (MQ below (k_Qv G shR r) args s 0 0 (k_A G shR.length)) 35 [(0, .ref (G.2.1 0)), (1, .int v1), (2, .int v2)] [.int (if v2 = 0 then (0 : Int32) else (1000000 : Int32)), .int v2, .ref (G.2.1 11)] M := by
            obtain ⟨M3, hM3, hf⟩ := bnd hf
            refine k_iast C shR_11 hM3 dX12_findLeast_35 ?_
            refine k_iconst C dX12_findLeast_36 (v := (0 : Int32)) rfl ?_
            refine k_istore_n C dX12_findLeast_37 (by decide) [1, 2, 3, 0] (lv' := [(0, .ref (G.2.1 0)), (1, .int v1), (2, .int v2), (3, .int (0 : Int32))]) rfl ?_
            exact k_b38 FU v1 v2 (0 : Int32) M3 hf
          by_cases c16 : v2 = 0
          · refine k_if_ne_f C dX12_findLeast_26 (tgt := 33) (by decide) c16 ?_
            refine k_iconst C dX12_findLeast_29 (v := (0 : Int32)) rfl ?_
            refine k_goto C dX12_findLeast_30 (tgt := 35) (by decide) ?_
            exact k_val (by rw [if_pos c16]) hj15
          · refine k_if_ne_t C dX12_findLeast_26 (tgt := 33) (by decide) c16 ?_
            refine k_ldc C dX12_findLeast_33 wd_1530 ?_
            exact k_val (by rw [if_neg c16]) hj15
        · refine k_if_eq_f C dX12_findLeast_14 (tgt := 20) (by decide) c2 ?_
          refine k_goto C dX12_findLeast_17 (tgt := 116) (by decide) ?_
          refine k_iinc C dX12_findLeast_116 2 rfl (v := (v2 + (1 : Int32))) rfl (by decide) [1, 2, 0] (lv' := [(0, .ref (G.2.1 0)), (1, .int v1), (2, .int (v2 + (1 : Int32)))]) rfl ?_
          refine k_goto C dX12_findLeast_119 (tgt := 2) (by decide) ?_
          exact ih2 v1 (v2 + (1 : Int32)) M hf
  unfold f_X12_findLeast at hf
  refine k_lv (lv' := [(0, .ref (G.2.1 0)), (1, .int v1)]) [0, 1] rfl ?_
  refine k_iconst C dX12_findLeast_0 (v := (0 : Int32)) rfl ?_
  refine k_istore_n C dX12_findLeast_1 (by decide) [1, 2, 0] (lv' := [(0, .ref (G.2.1 0)), (1, .int v1), (2, .int (0 : Int32))]) rfl ?_
  exact k_b2 FU v1 (0 : Int32) M0 hf
theorem dX12_firstOf_0 : decode cX12_firstOf 0 = .ok (.iconst 0, 1) := by decide +kernel
theorem dX12_firstOf_1 : decode cX12_firstOf 1 = .ok (.istore_n 3, 1) := by decide +kernel
theorem dX12_firstOf_2 : decode cX12_firstOf 2 = .ok (.iload_n 2, 1) := by decide +kernel
theorem dX12_firstOf_3 : decode cX12_firstOf 3 = .ok (.iload_n 3, 1) := by decide +kernel
theorem dX12_firstOf_4 : decode cX12_firstOf 4 = .ok (.invokestatic 179, 3) := by decide +kernel
theorem dX12_firstOf_7 : decode cX12_firstOf 7 = .ok (.ifCond .eq 35, 3) := by decide +kernel
theorem dX12_firstOf_10 : decode cX12_firstOf 10 = .ok (.aload_n 0, 1) := by decide +kernel
theorem dX12_firstOf_11 : decode cX12_firstOf 11 = .ok (.iload_n 1, 1) := by decide +kernel
theorem dX12_firstOf_12 : decode cX12_firstOf 12 = .ok (.iload_n 2, 1) := by decide +kernel
theorem dX12_firstOf_13 : decode cX12_firstOf 13 = .ok (.iconst (-1), 1) := by decide +kernel
theorem dX12_firstOf_14 : decode cX12_firstOf 14 = .ok (.ixor, 1) := by decide +kernel
theorem dX12_firstOf_15 : decode cX12_firstOf 15 = .ok (.iand, 1) := by decide +kernel
theorem dX12_firstOf_16 : decode cX12_firstOf 16 = .ok (.iload_n 3, 1) := by decide +kernel
theorem dX12_firstOf_17 : decode cX12_firstOf 17 = .ok (.invokevirtual 183, 3) := by decide +kernel
theorem dX12_firstOf_20 : decode cX12_firstOf 20 = .ok (.aload_n 0, 1) := by decide +kernel
theorem dX12_firstOf_21 : decode cX12_firstOf 21 = .ok (.getfield 40, 3) := by decide +kernel
theorem dX12_firstOf_24 : decode cX12_firstOf 24 = .ok (.iload_n 2, 1) := by decide +kernel
theorem dX12_firstOf_25 : decode cX12_firstOf 25 = .ok (.iconst 1, 1) := by decide +kernel
theorem dX12_firstOf_26 : decode cX12_firstOf 26 = .ok (.iload_n 3, 1) := by decide +kernel
theorem dX12_firstOf_27 : decode cX12_firstOf 27 = .ok (.ishl, 1) := by decide +kernel
theorem dX12_firstOf_28 : decode cX12_firstOf 28 = .ok (.iconst (-1), 1) := by decide +kernel
theorem dX12_firstOf_29 : decode cX12_firstOf 29 = .ok (.ixor, 1) := by decide +kernel
theorem dX12_firstOf_30 : decode cX12_firstOf 30 = .ok (.iand, 1) := by decide +kernel
theorem dX12_firstOf_31 : decode cX12_firstOf 31 = .ok (.iaload, 1) := by decide +kernel
theorem dX12_firstOf_32 : decode cX12_firstOf 32 = .ok (.iadd, 1) := by decide +kernel
theorem dX12_firstOf_33 : decode cX12_firstOf 33 = .ok (.aload_n 0, 1) := by decide +kernel
theorem dX12_firstOf_34 : decode cX12_firstOf 34 = .ok (.getfield 40, 3) := by decide +kernel
theorem dX12_firstOf_37 : decode cX12_firstOf 37 = .ok (.iload_n 2, 1) := by decide +kernel
theorem dX12_firstOf_38 : decode cX12_firstOf 38 = .ok (.iaload, 1) := by decide +kernel
theorem dX12_firstOf_39 : decode cX12_firstOf 39 = .ok (.if_icmp .eq 9, 3) := by decide +kernel
theorem dX12_firstOf_42 : decode cX12_firstOf 42 = .ok (.iinc 3 1, 3) := by decide +kernel
theorem dX12_firstOf_45 : decode cX12_firstOf 45 = .ok (.goto (-43), 3) := by decide +kernel
theorem dX12_firstOf_48 : decode cX12_firstOf 48 = .ok (.iload_n 3, 1) := by decide +kernel
theorem dX12_firstOf_49 : decode cX12_firstOf 49 = .ok (.ireturn, 1) := by decide +kernel
set_option maxRecDepth 100000 in
set_option maxHeartbeats 4000000 in
theorem c_X12_firstOf {l : Launch} {G : Gx} (hap : k_ap G shR.length) (v1 : Int32) (v2 : Int32) (M0 : Mem) (r : Int32) (hf : f_X12_firstOf v1 v2 M0 = some r) : k_Met l yX12_firstOf cX12_firstOf 4 (some .int) 4 92 G shR [.ref (G.2.1 0), .int v1, .int v2] M0 (k_Qi G shR r M0) := by
  refine k_Met_of (by decide) hap (Nat.le_of_ble_eq_true rfl) ?_
  intro p e s m args below meth c C hr hlk
  have C : Cx p s m args c cX12_firstOf RX12 4 G shR := C
  have k_b2 : ∀ (n2 : Nat) (v1 : Int32) (v2 : Int32) (v3 : Int32), f_X12_firstOf_b2 M0 n2 v1 v2 v3 = some r → K p l e (k_rm 4 92) s m args below meth c 4 G shR (MQ below (k_Qi G shR r M0) args s 0 0 (k_A G shR.length)) 2 [(0, .ref (G.2.1 0)), (1, .int v1), (2, .int v2), (3, .int v3)] [] M0 := by
    intro n2
    induction n2 with
    | zero => intro v1 v2 v3 hf; simp [f_X12_firstOf_b2] at hf
    | succ n2 ih2 =>
      intro v1 v2 v3 hf
      unfold f_X12_firstOf_b2 at hf
      refine k_iload_n C dX12_firstOf_2 2 rfl ?_
      refine k_iload_n C dX12_firstOf_3 3 rfl ?_
      refine k_callSi C (As := [.int v2, .int v3]) (c_X12_has hap v2 v3 M0 _ rfl) MS_X12_has wd_1531 rfl rfl ⟨Nat.le_of_ble_eq_true rfl, Nat.le_of_ble_eq_true rfl⟩ (Nat.le_of_ble_eq_true rfl) dX12_firstOf_4 ?_
      rcases ite_g hf with ⟨c1, hf⟩ | ⟨c1, hf⟩
      · refine k_if_eq_t C dX12_firstOf_7 (tgt := 42) (by decide) c1 ?_
        refine k_iinc C dX12_firstOf_42 3 rfl (v := (v3 + (1 : Int32))) rfl (by decide) [1, 2, 3, 0] (lv' := [(0, .ref (G.2.1 0)), (1, .int v1), (2, .int v2), (3, .int (v3 + (1 : Int32)))]) rfl ?_
        refine k_goto C dX12_firstOf_45 (tgt := 2) (by decide) ?_
        exact ih2 v1 v2 (v3 + (1 : Int32)) hf
      · refine k_if_eq_f C dX12_firstOf_7 (tgt := 42) (by decide) c1 ?_
        refine k_aload_n C dX12_firstOf_10 0 rfl ?_
        refine k_iload_n C dX12_firstOf_11 1 rfl ?_
        refine k_iload_n C dX12_firstOf_12 2 rfl ?_
        refine k_iconst C dX12_firstOf_13 (v := (-1 : Int32)) rfl ?_
        refine k_ixor C dX12_firstOf_14 ?_
        refine k_iand C dX12_firstOf_15 ?_
        refine k_iload_n C dX12_firstOf_16 3 rfl ?_
        obtain ⟨t2, ht2, hf⟩ := bnd hf
        refine k_callVi C (As := [.int (v1 &&& (v2 ^^^ (-1 : Int32))), .int v3]) (c_X12_dueBehind hap (v1 &&& (v2 ^^^ (-1 : Int32))) v3 M0 t2 ht2) ML_X12_dueBehind wd_1534 shR_0 rfl rfl rfl ⟨Nat.le_of_ble_eq_true rfl, Nat.le_of_ble_eq_true rfl⟩ (Nat.le_of_ble_eq_true rfl) dX12_firstOf_17 ?_
        refine k_aload_n C dX12_firstOf_20 0 rfl ?_
        refine k_getr C shR_0 (j := 21) rfl FL_X12_40 dX12_firstOf_21 ?_
        refine k_iload_n C dX12_firstOf_24 2 rfl ?_
        refine k_iconst C dX12_firstOf_25 (v := (1 : Int32)) rfl ?_
        refine k_iload_n C dX12_firstOf_26 3 rfl ?_
        refine k_ishlJ C dX12_firstOf_27 ?_
        refine k_iconst C dX12_firstOf_28 (v := (-1 : Int32)) rfl ?_
        refine k_ixor C dX12_firstOf_29 ?_
        refine k_iand C dX12_firstOf_30 ?_
        obtain ⟨t3, ht3, hf⟩ := bnd hf
        refine k_iald C shR_11 ht3 dX12_firstOf_31 ?_
        refine k_iadd C dX12_firstOf_32 ?_
        refine k_aload_n C dX12_firstOf_33 0 rfl ?_
        refine k_getr C shR_0 (j := 21) rfl FL_X12_40 dX12_firstOf_34 ?_
        refine k_iload_n C dX12_firstOf_37 2 rfl ?_
        obtain ⟨t4, ht4, hf⟩ := bnd hf
        refine k_iald C shR_11 ht4 dX12_firstOf_38 ?_
        rcases ite_g hf with ⟨c5, hf⟩ | ⟨c5, hf⟩
        · refine k_icmp_eq_t C dX12_firstOf_39 (tgt := 48) (by decide) c5 ?_
          refine k_iload_n C dX12_firstOf_48 3 rfl ?_
          exact k_iret C hr hlk (Option.some.inj hf) rfl dX12_firstOf_49
        · refine k_icmp_eq_f C dX12_firstOf_39 (tgt := 48) (by decide) c5 ?_
          refine k_iinc C dX12_firstOf_42 3 rfl (v := (v3 + (1 : Int32))) rfl (by decide) [1, 2, 3, 0] (lv' := [(0, .ref (G.2.1 0)), (1, .int v1), (2, .int v2), (3, .int (v3 + (1 : Int32)))]) rfl ?_
          refine k_goto C dX12_firstOf_45 (tgt := 2) (by decide) ?_
          exact ih2 v1 v2 (v3 + (1 : Int32)) hf
  unfold f_X12_firstOf at hf
  refine k_lv (lv' := [(0, .ref (G.2.1 0)), (1, .int v1), (2, .int v2)]) [0, 1, 2] rfl ?_
  refine k_iconst C dX12_firstOf_0 (v := (0 : Int32)) rfl ?_
  refine k_istore_n C dX12_firstOf_1 (by decide) [1, 2, 3, 0] (lv' := [(0, .ref (G.2.1 0)), (1, .int v1), (2, .int v2), (3, .int (0 : Int32))]) rfl ?_
  exact k_b2 FU v1 v2 (0 : Int32) hf
theorem dX12_order_0 : decode cX12_order 0 = .ok (.iload_n 1, 1) := by decide +kernel
theorem dX12_order_1 : decode cX12_order 1 = .ok (.ifCond .lt 8, 3) := by decide +kernel
theorem dX12_order_4 : decode cX12_order 4 = .ok (.iload_n 2, 1) := by decide +kernel
theorem dX12_order_5 : decode cX12_order 5 = .ok (.iconst (-1), 1) := by decide +kernel
theorem dX12_order_6 : decode cX12_order 6 = .ok (.if_icmp .ge 8, 3) := by decide +kernel
theorem dX12_order_9 : decode cX12_order 9 = .ok (.bipush (-4), 2) := by decide +kernel
theorem dX12_order_11 : decode cX12_order 11 = .ok (.goto 33, 3) := by decide +kernel
theorem dX12_order_14 : decode cX12_order 14 = .ok (.iload_n 1, 1) := by decide +kernel
theorem dX12_order_15 : decode cX12_order 15 = .ok (.iconst 1, 1) := by decide +kernel
theorem dX12_order_16 : decode cX12_order 16 = .ok (.aload_n 0, 1) := by decide +kernel
theorem dX12_order_17 : decode cX12_order 17 = .ok (.getfield 62, 3) := by decide +kernel
theorem dX12_order_20 : decode cX12_order 20 = .ok (.ishl, 1) := by decide +kernel
theorem dX12_order_21 : decode cX12_order 21 = .ok (.if_icmp .lt 8, 3) := by decide +kernel
theorem dX12_order_24 : decode cX12_order 24 = .ok (.bipush (-6), 2) := by decide +kernel
theorem dX12_order_26 : decode cX12_order 26 = .ok (.goto 18, 3) := by decide +kernel
theorem dX12_order_29 : decode cX12_order 29 = .ok (.iload_n 1, 1) := by decide +kernel
theorem dX12_order_30 : decode cX12_order 30 = .ok (.invokestatic 151, 3) := by decide +kernel
theorem dX12_order_33 : decode cX12_order 33 = .ok (.bipush 6, 2) := by decide +kernel
theorem dX12_order_35 : decode cX12_order 35 = .ok (.if_icmp .le 8, 3) := by decide +kernel
theorem dX12_order_38 : decode cX12_order 38 = .ok (.bipush (-3), 2) := by decide +kernel
theorem dX12_order_40 : decode cX12_order 40 = .ok (.goto 4, 3) := by decide +kernel
theorem dX12_order_43 : decode cX12_order 43 = .ok (.iconst 0, 1) := by decide +kernel
theorem dX12_order_44 : decode cX12_order 44 = .ok (.istore_n 3, 1) := by decide +kernel
theorem dX12_order_45 : decode cX12_order 45 = .ok (.iload_n 3, 1) := by decide +kernel
theorem dX12_order_46 : decode cX12_order 46 = .ok (.ifCond .eq 9, 3) := by decide +kernel
theorem dX12_order_49 : decode cX12_order 49 = .ok (.aload_n 0, 1) := by decide +kernel
theorem dX12_order_50 : decode cX12_order 50 = .ok (.iload_n 3, 1) := by decide +kernel
theorem dX12_order_51 : decode cX12_order 51 = .ok (.invokevirtual 75, 3) := by decide +kernel
theorem dX12_order_54 : decode cX12_order 54 = .ok (.ireturn, 1) := by decide +kernel
theorem dX12_order_55 : decode cX12_order 55 = .ok (.aload_n 0, 1) := by decide +kernel
theorem dX12_order_56 : decode cX12_order 56 = .ok (.iload_n 1, 1) := by decide +kernel
theorem dX12_order_57 : decode cX12_order 57 = .ok (.invokevirtual 186, 3) := by decide +kernel
theorem dX12_order_60 : decode cX12_order 60 = .ok (.iload_n 2, 1) := by decide +kernel
theorem dX12_order_61 : decode cX12_order 61 = .ok (.ifCond .ge 10, 3) := by decide +kernel
theorem dX12_order_64 : decode cX12_order 64 = .ok (.aload_n 0, 1) := by decide +kernel
theorem dX12_order_65 : decode cX12_order 65 = .ok (.getfield 40, 3) := by decide +kernel
theorem dX12_order_68 : decode cX12_order 68 = .ok (.iload_n 1, 1) := by decide +kernel
theorem dX12_order_69 : decode cX12_order 69 = .ok (.iaload, 1) := by decide +kernel
theorem dX12_order_70 : decode cX12_order 70 = .ok (.ireturn, 1) := by decide +kernel
theorem dX12_order_71 : decode cX12_order 71 = .ok (.iload_n 2, 1) := by decide +kernel
theorem dX12_order_72 : decode cX12_order 72 = .ok (.iload_n 1, 1) := by decide +kernel
theorem dX12_order_73 : decode cX12_order 73 = .ok (.invokestatic 151, 3) := by decide +kernel
theorem dX12_order_76 : decode cX12_order 76 = .ok (.if_icmp .lt 6, 3) := by decide +kernel
theorem dX12_order_79 : decode cX12_order 79 = .ok (.bipush (-9), 2) := by decide +kernel
theorem dX12_order_81 : decode cX12_order 81 = .ok (.ireturn, 1) := by decide +kernel
theorem dX12_order_82 : decode cX12_order 82 = .ok (.iload_n 1, 1) := by decide +kernel
theorem dX12_order_83 : decode cX12_order 83 = .ok (.istore 4, 2) := by decide +kernel
theorem dX12_order_85 : decode cX12_order 85 = .ok (.iconst 0, 1) := by decide +kernel
theorem dX12_order_86 : decode cX12_order 86 = .ok (.istore 5, 2) := by decide +kernel
theorem dX12_order_88 : decode cX12_order 88 = .ok (.iload 5, 2) := by decide +kernel
theorem dX12_order_90 : decode cX12_order 90 = .ok (.iload_n 2, 1) := by decide +kernel
theorem dX12_order_91 : decode cX12_order 91 = .ok (.if_icmp .ge 25, 3) := by decide +kernel
theorem dX12_order_94 : decode cX12_order 94 = .ok (.iload 4, 2) := by decide +kernel
theorem dX12_order_96 : decode cX12_order 96 = .ok (.iconst 1, 1) := by decide +kernel
theorem dX12_order_97 : decode cX12_order 97 = .ok (.aload_n 0, 1) := by decide +kernel
theorem dX12_order_98 : decode cX12_order 98 = .ok (.iload_n 1, 1) := by decide +kernel
theorem dX12_order_99 : decode cX12_order 99 = .ok (.iload 4, 2) := by decide +kernel
theorem dX12_order_101 : decode cX12_order 101 = .ok (.invokevirtual 190, 3) := by decide +kernel
theorem dX12_order_104 : decode cX12_order 104 = .ok (.ishl, 1) := by decide +kernel
theorem dX12_order_105 : decode cX12_order 105 = .ok (.iconst (-1), 1) := by decide +kernel
theorem dX12_order_106 : decode cX12_order 106 = .ok (.ixor, 1) := by decide +kernel
theorem dX12_order_107 : decode cX12_order 107 = .ok (.iand, 1) := by decide +kernel
theorem dX12_order_108 : decode cX12_order 108 = .ok (.istore 4, 2) := by decide +kernel
theorem dX12_order_110 : decode cX12_order 110 = .ok (.iinc 5 1, 3) := by decide +kernel
theorem dX12_order_113 : decode cX12_order 113 = .ok (.goto (-25), 3) := by decide +kernel
theorem dX12_order_116 : decode cX12_order 116 = .ok (.aload_n 0, 1) := by decide +kernel
theorem dX12_order_117 : decode cX12_order 117 = .ok (.iload_n 1, 1) := by decide +kernel
theorem dX12_order_118 : decode cX12_order 118 = .ok (.iload 4, 2) := by decide +kernel
theorem dX12_order_120 : decode cX12_order 120 = .ok (.invokevirtual 190, 3) := by decide +kernel
theorem dX12_order_123 : decode cX12_order 123 = .ok (.ireturn, 1) := by decide +kernel
set_option maxRecDepth 100000 in
set_option maxHeartbeats 4000000 in
theorem c_X12_order {l : Launch} {G : Gx} (hap : k_ap G shR.length) (v1 : Int32) (v2 : Int32) (M0 : Mem) (r : Int32 × Mem) (hf : f_X12_order v1 v2 M0 = some r) : k_Met l yX12_order cX12_order 6 (some .int) 5 116 G shR [.ref (G.2.1 0), .int v1, .int v2] M0 (k_Qi G shR r.1 r.2) := by
  refine k_Met_of (by decide) hap (Nat.le_of_ble_eq_true rfl) ?_
  intro p e s m args below meth c C hr hlk
  have C : Cx p s m args c cX12_order RX12 6 G shR := C
  have k_b88 : ∀ (n88 : Nat) (v1 : Int32) (v2 : Int32) (v4 : Int32) (v5 : Int32) (M : Mem), f_X12_order_b88 n88 v1 v2 v4 v5 M = some r → K p l e (k_rm 5 116) s m args below meth c 6 G shR (MQ below (k_Qi G shR r.1 r.2) args s 0 0 (k_A G shR.length)) 88 [(0, .ref (G.2.1 0)), (1, .int v1), (2, .int v2), (4, .int v4), (5, .int v5)] [] M := by
    intro n88
    induction n88 with
    | zero => intro v1 v2 v4 v5 M hf; simp [f_X12_order_b88] at hf
    | succ n88 ih88 =>
      intro v1 v2 v4 v5 M hf
      unfold f_X12_order_b88 at hf
      refine k_iload C dX12_order_88 4 rfl ?_
      refine k_iload_n C dX12_order_90 2 rfl ?_
      rcases ite_g hf with ⟨c9, hf⟩ | ⟨c9, hf⟩
      · refine k_icmp_ge_t C dX12_order_91 (tgt := 116) (by decide) c9 ?_
        refine k_aload_n C dX12_order_116 0 rfl ?_
        refine k_iload_n C dX12_order_117 1 rfl ?_
        refine k_iload C dX12_order_118 3 rfl ?_
        obtain ⟨t10, ht10, hf⟩ := bnd hf
        refine k_callVi C (As := [.int v1, .int v4]) (c_X12_firstOf hap v1 v4 M t10 ht10) ML_X12_firstOf wd_1538 shR_0 rfl rfl rfl ⟨Nat.le_of_ble_eq_true rfl, Nat.le_of_ble_eq_true rfl⟩ (Nat.le_of_ble_eq_true rfl) dX12_order_120 ?_
        exact k_iret C hr hlk (prf hf) (prs hf) dX12_order_123
      · refine k_icmp_ge_f C dX12_order_91 (tgt := 116) (by decide) c9 ?_
        refine k_iload C dX12_order_94 3 rfl ?_
        refine k_iconst C dX12_order_96 (v := (1 : Int32)) rfl ?_
        refine k_aload_n C dX12_order_97 0 rfl ?_
        refine k_iload_n C dX12_order_98 1 rfl ?_
        refine k_iload C dX12_order_99 3 rfl ?_
        obtain ⟨t11, ht11, hf⟩ := bnd hf
        refine k_callVi C (As := [.int v1, .int v4]) (c_X12_firstOf hap v1 v4 M t11 ht11) ML_X12_firstOf wd_1538 shR_0 rfl rfl rfl ⟨Nat.le_of_ble_eq_true rfl, Nat.le_of_ble_eq_true rfl⟩ (Nat.le_of_ble_eq_true rfl) dX12_order_101 ?_
        refine k_ishlJ C dX12_order_104 ?_
        refine k_iconst C dX12_order_105 (v := (-1 : Int32)) rfl ?_
        refine k_ixor C dX12_order_106 ?_
        refine k_iand C dX12_order_107 ?_
        refine k_istore C dX12_order_108 (by decide) [1, 2, 3, 0, 4] (lv' := [(0, .ref (G.2.1 0)), (1, .int v1), (2, .int v2), (4, .int (v4 &&& ((jshl (1 : Int32) t11) ^^^ (-1 : Int32)))), (5, .int v5)]) rfl ?_
        refine k_iinc C dX12_order_110 4 rfl (v := (v5 + (1 : Int32))) rfl (by decide) [1, 2, 3, 4, 0] (lv' := [(0, .ref (G.2.1 0)), (1, .int v1), (2, .int v2), (4, .int (v4 &&& ((jshl (1 : Int32) t11) ^^^ (-1 : Int32)))), (5, .int (v5 + (1 : Int32)))]) rfl ?_
        refine k_goto C dX12_order_113 (tgt := 88) (by decide) ?_
        exact ih88 v1 v2 (v4 &&& ((jshl (1 : Int32) t11) ^^^ (-1 : Int32))) (v5 + (1 : Int32)) M hf
  have k_b44 : ∀ (v1 : Int32) (v2 : Int32) (s0 : Int32) (M : Mem), f_X12_order_b44 v1 v2 s0 M = some r → K p l e (k_rm 5 116) s m args below meth c 6 G shR (MQ below (k_Qi G shR r.1 r.2) args s 0 0 (k_A G shR.length)) 44 [(0, .ref (G.2.1 0)), (1, .int v1), (2, .int v2)] [.int s0] M := by
    intro v1 v2 s0 M hf
    unfold f_X12_order_b44 at hf
    refine k_istore_n C dX12_order_44 (by decide) [1, 2, 3, 0] (lv' := [(0, .ref (G.2.1 0)), (1, .int v1), (2, .int v2), (3, .int s0)]) rfl ?_
    refine k_iload_n C dX12_order_45 3 rfl ?_
    rcases ite_g hf with ⟨c3, hf⟩ | ⟨c3, hf⟩
    · refine k_if_eq_t C dX12_order_46 (tgt := 55) (by decide) c3 ?_
      refine k_aload_n C dX12_order_55 0 rfl ?_
      refine k_iload_n C dX12_order_56 1 rfl ?_
      obtain ⟨M4, hM4, hf⟩ := bnd hf
      refine k_callVv C (As := [.int v1]) (c_X12_findLeast hap v1 M M4 hM4) ML_X12_findLeast wd_1526 shR_0 rfl rfl rfl ⟨Nat.le_of_ble_eq_true rfl, Nat.le_of_ble_eq_true rfl⟩ (Nat.le_of_ble_eq_true rfl) dX12_order_57 ?_
      refine k_iload_n C dX12_order_60 2 rfl ?_
      rcases ite_g hf with ⟨c5, hf⟩ | ⟨c5, hf⟩
      · refine k_if_ge_t C dX12_order_61 (tgt := 71) (by decide) c5 ?_
        refine k_iload_n C dX12_order_71 2 rfl ?_
        refine k_iload_n C dX12_order_72 1 rfl ?_
        obtain ⟨t6, ht6, hf⟩ := bnd hf
        refine k_callSi C (As := [.int v1]) (c_X12_bits hap v1 M4 t6 ht6) MS_X12_bits wd_1463 rfl rfl ⟨Nat.le_of_ble_eq_true rfl, Nat.le_of_ble_eq_true rfl⟩ (Nat.le_of_ble_eq_true rfl) dX12_order_73 ?_
        rcases ite_g hf with ⟨c7, hf⟩ | ⟨c7, hf⟩
        · refine k_icmp_lt_t C dX12_order_76 (tgt := 82) (by decide) c7 ?_
          refine k_iload_n C dX12_order_82 1 rfl ?_
          refine k_istore C dX12_order_83 (by decide) [1, 2, 3, 0] (lv' := [(0, .ref (G.2.1 0)), (1, .int v1), (2, .int v2), (4, .int v1)]) rfl ?_
          refine k_iconst C dX12_order_85 (v := (0 : Int32)) rfl ?_
          refine k_istore C dX12_order_86 (by decide) [1, 2, 3, 4, 0] (lv' := [(0, .ref (G.2.1 0)), (1, .int v1), (2, .int v2), (4, .int v1), (5, .int (0 : Int32))]) rfl ?_
          exact k_b88 FU v1 v2 v1 (0 : Int32) M4 hf
        · refine k_icmp_lt_f C dX12_order_76 (tgt := 82) (by decide) c7 ?_
          refine k_bipush C dX12_order_79 (v := (-9 : Int32)) rfl ?_
          exact k_iret C hr hlk (prf hf) (prs hf) dX12_order_81
      · refine k_if_ge_f C dX12_order_61 (tgt := 71) (by decide) c5 ?_
        refine k_aload_n C dX12_order_64 0 rfl ?_
        refine k_getr C shR_0 (j := 21) rfl FL_X12_40 dX12_order_65 ?_
        refine k_iload_n C dX12_order_68 1 rfl ?_
        obtain ⟨t12, ht12, hf⟩ := bnd hf
        refine k_iald C shR_11 ht12 dX12_order_69 ?_
        exact k_iret C hr hlk (prf hf) (prs hf) dX12_order_70
    · refine k_if_eq_f C dX12_order_46 (tgt := 55) (by decide) c3 ?_
      refine k_aload_n C dX12_order_49 0 rfl ?_
      refine k_iload_n C dX12_order_50 3 rfl ?_
      obtain ⟨⟨t13, M13⟩, ht13, hf⟩ := bnd hf
      replace hf := bp_s hf
      refine k_callVi C (As := [.int s0]) (c_X12_no hap s0 M (t13, M13) ht13) ML_X12_no wd_1369 shR_0 rfl rfl rfl ⟨Nat.le_of_ble_eq_true rfl, Nat.le_of_ble_eq_true rfl⟩ (Nat.le_of_ble_eq_true rfl) dX12_order_51 ?_
      exact k_iret C hr hlk (prf hf) (prs hf) dX12_order_54
  have k_b9 : ∀ (v1 : Int32) (v2 : Int32) (M : Mem), f_X12_order_b9 v1 v2 M = some r → K p l e (k_rm 5 116) s m args below meth c 6 G shR (MQ below (k_Qi G shR r.1 r.2) args s 0 0 (k_A G shR.length)) 9 [(0, .ref (G.2.1 0)), (1, .int v1), (2, .int v2)] [] M := by
    intro v1 v2 M hf
    unfold f_X12_order_b9 at hf
    refine k_bipush C dX12_order_9 (v := (-4 : Int32)) rfl ?_
    refine k_goto C dX12_order_11 (tgt := 44) (by decide) ?_
    exact k_b44 v1 v2 (-4 : Int32) M hf
  unfold f_X12_order at hf
  refine k_lv (lv' := [(0, .ref (G.2.1 0)), (1, .int v1), (2, .int v2)]) [0, 1, 2] rfl ?_
  refine k_iload_n C dX12_order_0 1 rfl ?_
  rcases ite_g hf with ⟨c2, hf⟩ | ⟨c2, hf⟩
  · refine k_if_lt_t C dX12_order_1 (tgt := 9) (by decide) c2 ?_
    exact k_b9 v1 v2 M0 hf
  · refine k_if_lt_f C dX12_order_1 (tgt := 9) (by decide) c2 ?_
    refine k_iload_n C dX12_order_4 2 rfl ?_
    refine k_iconst C dX12_order_5 (v := (-1 : Int32)) rfl ?_
    rcases ite_g hf with ⟨c15, hf⟩ | ⟨c15, hf⟩
    · refine k_icmp_ge_t C dX12_order_6 (tgt := 14) (by decide) c15 ?_
      refine k_iload_n C dX12_order_14 1 rfl ?_
      refine k_iconst C dX12_order_15 (v := (1 : Int32)) rfl ?_
      refine k_aload_n C dX12_order_16 0 rfl ?_
      refine k_geti C shR_0 (j := 5) rfl FL_X12_62 dX12_order_17 ?_
      refine k_ishlJ C dX12_order_20 ?_
      rcases ite_g hf with ⟨c17, hf⟩ | ⟨c17, hf⟩
      · refine k_icmp_lt_t C dX12_order_21 (tgt := 29) (by decide) c17 ?_
        refine k_iload_n C dX12_order_29 1 rfl ?_
        obtain ⟨t18, ht18, hf⟩ := bnd hf
        refine k_callSi C (As := [.int v1]) (c_X12_bits hap v1 M0 t18 ht18) MS_X12_bits wd_1463 rfl rfl ⟨Nat.le_of_ble_eq_true rfl, Nat.le_of_ble_eq_true rfl⟩ (Nat.le_of_ble_eq_true rfl) dX12_order_30 ?_
        refine k_bipush C dX12_order_33 (v := (6 : Int32)) rfl ?_
        have hj19 : K p l e (k_rm 5 116) s m args below meth c 6 G shR (MQ below (k_Qi G shR r.1 r.2) args s 0 0 (k_A G shR.length)) 44 [(0, .ref (G.2.1 0)), (1, .int v1), (2, .int v2)] [.int (if t18 ≤ (6 : Int32) then (0 : Int32) else (-3 : Int32))] M0 := by
          exact k_b44 v1 v2 (if t18 ≤ (6 : Int32) then (0 : Int32) else (-3 : Int32)) M0 hf
        by_cases c20 : t18 ≤ (6 : Int32)
        · refine k_icmp_le_t C dX12_order_35 (tgt := 43) (by decide) c20 ?_
          refine k_iconst C dX12_order_43 (v := (0 : Int32)) rfl ?_
          exact k_val (by rw [if_pos c20]) hj19
        · refine k_icmp_le_f C dX12_order_35 (tgt := 43) (by decide) c20 ?_
          refine k_bipush C dX12_order_38 (v := (-3 : Int32)) rfl ?_
          refine k_goto C dX12_order_40 (tgt := 44) (by decide) ?_
          exact k_val (by rw [if_neg c20]) hj19
      · refine k_icmp_lt_f C dX12_order_21 (tgt := 29) (by decide) c17 ?_
        refine k_bipush C dX12_order_24 (v := (-6 : Int32)) rfl ?_
        refine k_goto C dX12_order_26 (tgt := 44) (by decide) ?_
        exact k_b44 v1 v2 (-6 : Int32) M0 hf
    · refine k_icmp_ge_f C dX12_order_6 (tgt := 14) (by decide) c15 ?_
      exact k_b9 v1 v2 M0 hf
theorem dX12_areUnlike_0 : decode cX12_areUnlike 0 = .ok (.iconst 0, 1) := by decide +kernel
theorem dX12_areUnlike_1 : decode cX12_areUnlike 1 = .ok (.istore_n 2, 1) := by decide +kernel
theorem dX12_areUnlike_2 : decode cX12_areUnlike 2 = .ok (.iload_n 2, 1) := by decide +kernel
theorem dX12_areUnlike_3 : decode cX12_areUnlike 3 = .ok (.bipush 64, 2) := by decide +kernel
theorem dX12_areUnlike_5 : decode cX12_areUnlike 5 = .ok (.if_icmp .ge 55, 3) := by decide +kernel
theorem dX12_areUnlike_8 : decode cX12_areUnlike 8 = .ok (.iload_n 2, 1) := by decide +kernel
theorem dX12_areUnlike_9 : decode cX12_areUnlike 9 = .ok (.bipush 8, 2) := by decide +kernel
theorem dX12_areUnlike_11 : decode cX12_areUnlike 11 = .ok (.idiv, 1) := by decide +kernel
theorem dX12_areUnlike_12 : decode cX12_areUnlike 12 = .ok (.istore_n 3, 1) := by decide +kernel
theorem dX12_areUnlike_13 : decode cX12_areUnlike 13 = .ok (.iload_n 2, 1) := by decide +kernel
theorem dX12_areUnlike_14 : decode cX12_areUnlike 14 = .ok (.bipush 8, 2) := by decide +kernel
theorem dX12_areUnlike_16 : decode cX12_areUnlike 16 = .ok (.irem, 1) := by decide +kernel
theorem dX12_areUnlike_17 : decode cX12_areUnlike 17 = .ok (.istore 4, 2) := by decide +kernel
theorem dX12_areUnlike_19 : decode cX12_areUnlike 19 = .ok (.iload_n 3, 1) := by decide +kernel
theorem dX12_areUnlike_20 : decode cX12_areUnlike 20 = .ok (.iload 4, 2) := by decide +kernel
theorem dX12_areUnlike_22 : decode cX12_areUnlike 22 = .ok (.if_icmp .ge 32, 3) := by decide +kernel
theorem dX12_areUnlike_25 : decode cX12_areUnlike 25 = .ok (.iload_n 1, 1) := by decide +kernel
theorem dX12_areUnlike_26 : decode cX12_areUnlike 26 = .ok (.iload_n 3, 1) := by decide +kernel
theorem dX12_areUnlike_27 : decode cX12_areUnlike 27 = .ok (.invokestatic 179, 3) := by decide +kernel
theorem dX12_areUnlike_30 : decode cX12_areUnlike 30 = .ok (.ifCond .eq 24, 3) := by decide +kernel
theorem dX12_areUnlike_33 : decode cX12_areUnlike 33 = .ok (.iload_n 1, 1) := by decide +kernel
theorem dX12_areUnlike_34 : decode cX12_areUnlike 34 = .ok (.iload 4, 2) := by decide +kernel
theorem dX12_areUnlike_36 : decode cX12_areUnlike 36 = .ok (.invokestatic 179, 3) := by decide +kernel
theorem dX12_areUnlike_39 : decode cX12_areUnlike 39 = .ok (.ifCond .eq 15, 3) := by decide +kernel
theorem dX12_areUnlike_42 : decode cX12_areUnlike 42 = .ok (.aload_n 0, 1) := by decide +kernel
theorem dX12_areUnlike_43 : decode cX12_areUnlike 43 = .ok (.iload_n 3, 1) := by decide +kernel
theorem dX12_areUnlike_44 : decode cX12_areUnlike 44 = .ok (.iload 4, 2) := by decide +kernel
theorem dX12_areUnlike_46 : decode cX12_areUnlike 46 = .ok (.invokevirtual 154, 3) := by decide +kernel
theorem dX12_areUnlike_49 : decode cX12_areUnlike 49 = .ok (.ifCond .eq 5, 3) := by decide +kernel
theorem dX12_areUnlike_52 : decode cX12_areUnlike 52 = .ok (.iconst 0, 1) := by decide +kernel
theorem dX12_areUnlike_53 : decode cX12_areUnlike 53 = .ok (.ireturn, 1) := by decide +kernel
theorem dX12_areUnlike_54 : decode cX12_areUnlike 54 = .ok (.iinc 2 1, 3) := by decide +kernel
theorem dX12_areUnlike_57 : decode cX12_areUnlike 57 = .ok (.goto (-55), 3) := by decide +kernel
theorem dX12_areUnlike_60 : decode cX12_areUnlike 60 = .ok (.iconst 1, 1) := by decide +kernel
theorem dX12_areUnlike_61 : decode cX12_areUnlike 61 = .ok (.ireturn, 1) := by decide +kernel
set_option maxRecDepth 100000 in
set_option maxHeartbeats 4000000 in
theorem c_X12_areUnlike {l : Launch} {G : Gx} (hap : k_ap G shR.length) (v1 : Int32) (M0 : Mem) (r : Int32) (hf : f_X12_areUnlike v1 M0 = some r) : k_Met l yX12_areUnlike cX12_areUnlike 5 (some .boolean) 2 44 G shR [.ref (G.2.1 0), .int v1] M0 (k_Qi G shR r M0) := by
  refine k_Met_of (by decide) hap (Nat.le_of_ble_eq_true rfl) ?_
  intro p e s m args below meth c C hr hlk
  have C : Cx p s m args c cX12_areUnlike RX12 5 G shR := C
  have k_b2 : ∀ (n2 : Nat) (v1 : Int32) (v2 : Int32), f_X12_areUnlike_b2 M0 n2 v1 v2 = some r → K p l e (k_rm 2 44) s m args below meth c 5 G shR (MQ below (k_Qi G shR r M0) args s 0 0 (k_A G shR.length)) 2 [(0, .ref (G.2.1 0)), (1, .int v1), (2, .int v2)] [] M0 := by
    intro n2
    induction n2 with
    | zero => intro v1 v2 hf; simp [f_X12_areUnlike_b2] at hf
    | succ n2 ih2 =>
      intro v1 v2 hf
      unfold f_X12_areUnlike_b2 at hf
      refine k_iload_n C dX12_areUnlike_2 2 rfl ?_
      refine k_bipush C dX12_areUnlike_3 (v := (64 : Int32)) rfl ?_
      rcases ite_g hf with ⟨c1, hf⟩ | ⟨c1, hf⟩
      · refine k_icmp_ge_t C dX12_areUnlike_5 (tgt := 60) (by decide) c1 ?_
        refine k_iconst C dX12_areUnlike_60 (v := (1 : Int32)) rfl ?_
        exact k_zret C hr hlk (gZ1.trans (congrArg some (Option.some.inj hf))) rfl dX12_areUnlike_61
      · refine k_icmp_ge_f C dX12_areUnlike_5 (tgt := 60) (by decide) c1 ?_
        refine k_iload_n C dX12_areUnlike_8 2 rfl ?_
        refine k_bipush C dX12_areUnlike_9 (v := (8 : Int32)) rfl ?_
        refine k_idiv C dX12_areUnlike_11 (by decide) ?_
        refine k_istore_n C dX12_areUnlike_12 (by decide) [1, 2, 3, 0] (lv' := [(0, .ref (G.2.1 0)), (1, .int v1), (2, .int v2), (3, .int (v2 / (8 : Int32)))]) rfl ?_
        refine k_iload_n C dX12_areUnlike_13 2 rfl ?_
        refine k_bipush C dX12_areUnlike_14 (v := (8 : Int32)) rfl ?_
        refine k_iremJ C dX12_areUnlike_16 (by decide) ?_
        refine k_istore C dX12_areUnlike_17 (by decide) [1, 2, 3, 4, 0] (lv' := [(0, .ref (G.2.1 0)), (1, .int v1), (2, .int v2), (3, .int (v2 / (8 : Int32))), (4, .int (jrm v2 (8 : Int32)))]) rfl ?_
        refine k_iload_n C dX12_areUnlike_19 3 rfl ?_
        refine k_iload C dX12_areUnlike_20 4 rfl ?_
        rcases ite_g hf with ⟨c2, hf⟩ | ⟨c2, hf⟩
        · refine k_icmp_ge_t C dX12_areUnlike_22 (tgt := 54) (by decide) c2 ?_
          refine k_iinc C dX12_areUnlike_54 2 rfl (v := (v2 + (1 : Int32))) rfl (by decide) [1, 2, 0] (lv' := [(0, .ref (G.2.1 0)), (1, .int v1), (2, .int (v2 + (1 : Int32)))]) rfl ?_
          refine k_goto C dX12_areUnlike_57 (tgt := 2) (by decide) ?_
          exact ih2 v1 (v2 + (1 : Int32)) hf
        · refine k_icmp_ge_f C dX12_areUnlike_22 (tgt := 54) (by decide) c2 ?_
          refine k_iload_n C dX12_areUnlike_25 1 rfl ?_
          refine k_iload_n C dX12_areUnlike_26 3 rfl ?_
          refine k_callSi C (As := [.int v1, .int (v2 / (8 : Int32))]) (c_X12_has hap v1 (v2 / (8 : Int32)) M0 _ rfl) MS_X12_has wd_1531 rfl rfl ⟨Nat.le_of_ble_eq_true rfl, Nat.le_of_ble_eq_true rfl⟩ (Nat.le_of_ble_eq_true rfl) dX12_areUnlike_27 ?_
          rcases ite_g hf with ⟨c3, hf⟩ | ⟨c3, hf⟩
          · refine k_if_eq_t C dX12_areUnlike_30 (tgt := 54) (by decide) c3 ?_
            refine k_iinc C dX12_areUnlike_54 2 rfl (v := (v2 + (1 : Int32))) rfl (by decide) [1, 2, 0] (lv' := [(0, .ref (G.2.1 0)), (1, .int v1), (2, .int (v2 + (1 : Int32)))]) rfl ?_
            refine k_goto C dX12_areUnlike_57 (tgt := 2) (by decide) ?_
            exact ih2 v1 (v2 + (1 : Int32)) hf
          · refine k_if_eq_f C dX12_areUnlike_30 (tgt := 54) (by decide) c3 ?_
            refine k_iload_n C dX12_areUnlike_33 1 rfl ?_
            refine k_iload C dX12_areUnlike_34 4 rfl ?_
            refine k_callSi C (As := [.int v1, .int (jrm v2 (8 : Int32))]) (c_X12_has hap v1 (jrm v2 (8 : Int32)) M0 _ rfl) MS_X12_has wd_1531 rfl rfl ⟨Nat.le_of_ble_eq_true rfl, Nat.le_of_ble_eq_true rfl⟩ (Nat.le_of_ble_eq_true rfl) dX12_areUnlike_36 ?_
            rcases ite_g hf with ⟨c4, hf⟩ | ⟨c4, hf⟩
            · refine k_if_eq_t C dX12_areUnlike_39 (tgt := 54) (by decide) c4 ?_
              refine k_iinc C dX12_areUnlike_54 2 rfl (v := (v2 + (1 : Int32))) rfl (by decide) [1, 2, 0] (lv' := [(0, .ref (G.2.1 0)), (1, .int v1), (2, .int (v2 + (1 : Int32)))]) rfl ?_
              refine k_goto C dX12_areUnlike_57 (tgt := 2) (by decide) ?_
              exact ih2 v1 (v2 + (1 : Int32)) hf
            · refine k_if_eq_f C dX12_areUnlike_39 (tgt := 54) (by decide) c4 ?_
              refine k_aload_n C dX12_areUnlike_42 0 rfl ?_
              refine k_iload_n C dX12_areUnlike_43 3 rfl ?_
              refine k_iload C dX12_areUnlike_44 4 rfl ?_
              obtain ⟨t5, ht5, hf⟩ := bnd hf
              refine k_callVi C (As := [.int (v2 / (8 : Int32)), .int (jrm v2 (8 : Int32))]) (c_X12_areSame hap (v2 / (8 : Int32)) (jrm v2 (8 : Int32)) M0 t5 ht5) ML_X12_areSame wd_1459 shR_0 rfl rfl rfl ⟨Nat.le_of_ble_eq_true rfl, Nat.le_of_ble_eq_true rfl⟩ (Nat.le_of_ble_eq_true rfl) dX12_areUnlike_46 ?_
              rcases ite_g hf with ⟨c6, hf⟩ | ⟨c6, hf⟩
              · refine k_if_eq_t C dX12_areUnlike_49 (tgt := 54) (by decide) c6 ?_
                refine k_iinc C dX12_areUnlike_54 2 rfl (v := (v2 + (1 : Int32))) rfl (by decide) [1, 2, 0] (lv' := [(0, .ref (G.2.1 0)), (1, .int v1), (2, .int (v2 + (1 : Int32)))]) rfl ?_
                refine k_goto C dX12_areUnlike_57 (tgt := 2) (by decide) ?_
                exact ih2 v1 (v2 + (1 : Int32)) hf
              · refine k_if_eq_f C dX12_areUnlike_49 (tgt := 54) (by decide) c6 ?_
                refine k_iconst C dX12_areUnlike_52 (v := (0 : Int32)) rfl ?_
                exact k_zret C hr hlk (gZ0.trans (congrArg some (Option.some.inj hf))) rfl dX12_areUnlike_53
  unfold f_X12_areUnlike at hf
  refine k_lv (lv' := [(0, .ref (G.2.1 0)), (1, .int v1)]) [0, 1] rfl ?_
  refine k_iconst C dX12_areUnlike_0 (v := (0 : Int32)) rfl ?_
  refine k_istore_n C dX12_areUnlike_1 (by decide) [1, 2, 0] (lv' := [(0, .ref (G.2.1 0)), (1, .int v1), (2, .int (0 : Int32))]) rfl ?_
  exact k_b2 FU v1 (0 : Int32) hf
theorem dX12_unlike_0 : decode cX12_unlike 0 = .ok (.iconst 0, 1) := by decide +kernel
theorem dX12_unlike_1 : decode cX12_unlike 1 = .ok (.istore_n 1, 1) := by decide +kernel
theorem dX12_unlike_2 : decode cX12_unlike 2 = .ok (.iconst 1, 1) := by decide +kernel
theorem dX12_unlike_3 : decode cX12_unlike 3 = .ok (.istore_n 2, 1) := by decide +kernel
theorem dX12_unlike_4 : decode cX12_unlike 4 = .ok (.iload_n 2, 1) := by decide +kernel
theorem dX12_unlike_5 : decode cX12_unlike 5 = .ok (.iconst 1, 1) := by decide +kernel
theorem dX12_unlike_6 : decode cX12_unlike 6 = .ok (.aload_n 0, 1) := by decide +kernel
theorem dX12_unlike_7 : decode cX12_unlike 7 = .ok (.getfield 62, 3) := by decide +kernel
theorem dX12_unlike_10 : decode cX12_unlike 10 = .ok (.ishl, 1) := by decide +kernel
theorem dX12_unlike_11 : decode cX12_unlike 11 = .ok (.if_icmp .ge 34, 3) := by decide +kernel
theorem dX12_unlike_14 : decode cX12_unlike 14 = .ok (.iload_n 2, 1) := by decide +kernel
theorem dX12_unlike_15 : decode cX12_unlike 15 = .ok (.invokestatic 151, 3) := by decide +kernel
theorem dX12_unlike_18 : decode cX12_unlike 18 = .ok (.iload_n 1, 1) := by decide +kernel
theorem dX12_unlike_19 : decode cX12_unlike 19 = .ok (.invokestatic 151, 3) := by decide +kernel
theorem dX12_unlike_22 : decode cX12_unlike 22 = .ok (.if_icmp .le 15, 3) := by decide +kernel
theorem dX12_unlike_25 : decode cX12_unlike 25 = .ok (.aload_n 0, 1) := by decide +kernel
theorem dX12_unlike_26 : decode cX12_unlike 26 = .ok (.iload_n 2, 1) := by decide +kernel
theorem dX12_unlike_27 : decode cX12_unlike 27 = .ok (.invokevirtual 193, 3) := by decide +kernel
theorem dX12_unlike_30 : decode cX12_unlike 30 = .ok (.ifCond .eq 7, 3) := by decide +kernel
theorem dX12_unlike_33 : decode cX12_unlike 33 = .ok (.iload_n 2, 1) := by decide +kernel
theorem dX12_unlike_34 : decode cX12_unlike 34 = .ok (.goto 4, 3) := by decide +kernel
theorem dX12_unlike_37 : decode cX12_unlike 37 = .ok (.iload_n 1, 1) := by decide +kernel
theorem dX12_unlike_38 : decode cX12_unlike 38 = .ok (.istore_n 1, 1) := by decide +kernel
theorem dX12_unlike_39 : decode cX12_unlike 39 = .ok (.iinc 2 1, 3) := by decide +kernel
theorem dX12_unlike_42 : decode cX12_unlike 42 = .ok (.goto (-38), 3) := by decide +kernel
theorem dX12_unlike_45 : decode cX12_unlike 45 = .ok (.iload_n 1, 1) := by decide +kernel
theorem dX12_unlike_46 : decode cX12_unlike 46 = .ok (.ireturn, 1) := by decide +kernel
set_option maxRecDepth 100000 in
set_option maxHeartbeats 4000000 in
theorem c_X12_unlike {l : Launch} {G : Gx} (hap : k_ap G shR.length) (M0 : Mem) (r : Int32) (hf : f_X12_unlike M0 = some r) : k_Met l yX12_unlike cX12_unlike 3 (some .int) 3 68 G shR [.ref (G.2.1 0)] M0 (k_Qi G shR r M0) := by
  refine k_Met_of (by decide) hap (Nat.le_of_ble_eq_true rfl) ?_
  intro p e s m args below meth c C hr hlk
  have C : Cx p s m args c cX12_unlike RX12 3 G shR := C
  have k_b4 : ∀ (n4 : Nat) (v1 : Int32) (v2 : Int32), f_X12_unlike_b4 M0 n4 v1 v2 = some r → K p l e (k_rm 3 68) s m args below meth c 3 G shR (MQ below (k_Qi G shR r M0) args s 0 0 (k_A G shR.length)) 4 [(0, .ref (G.2.1 0)), (1, .int v1), (2, .int v2)] [] M0 := by
    intro n4
    induction n4 with
    | zero => intro v1 v2 hf; simp [f_X12_unlike_b4] at hf
    | succ n4 ih4 =>
      intro v1 v2 hf
      unfold f_X12_unlike_b4 at hf
      refine k_iload_n C dX12_unlike_4 2 rfl ?_
      refine k_iconst C dX12_unlike_5 (v := (1 : Int32)) rfl ?_
      refine k_aload_n C dX12_unlike_6 0 rfl ?_
      refine k_geti C shR_0 (j := 5) rfl FL_X12_62 dX12_unlike_7 ?_
      refine k_ishlJ C dX12_unlike_10 ?_
      rcases ite_g hf with ⟨c2, hf⟩ | ⟨c2, hf⟩
      · refine k_icmp_ge_t C dX12_unlike_11 (tgt := 45) (by decide) c2 ?_
        refine k_iload_n C dX12_unlike_45 1 rfl ?_
        exact k_iret C hr hlk (Option.some.inj hf) rfl dX12_unlike_46
      · refine k_icmp_ge_f C dX12_unlike_11 (tgt := 45) (by decide) c2 ?_
        refine k_iload_n C dX12_unlike_14 2 rfl ?_
        obtain ⟨t3, ht3, hf⟩ := bnd hf
        refine k_callSi C (As := [.int v2]) (c_X12_bits hap v2 M0 t3 ht3) MS_X12_bits wd_1463 rfl rfl ⟨Nat.le_of_ble_eq_true rfl, Nat.le_of_ble_eq_true rfl⟩ (Nat.le_of_ble_eq_true rfl) dX12_unlike_15 ?_
        refine k_iload_n C dX12_unlike_18 1 rfl ?_
        obtain ⟨t4, ht4, hf⟩ := bnd hf
        refine k_callSi C (As := [.int v1]) (c_X12_bits hap v1 M0 t4 ht4) MS_X12_bits wd_1463 rfl rfl ⟨Nat.le_of_ble_eq_true rfl, Nat.le_of_ble_eq_true rfl⟩ (Nat.le_of_ble_eq_true rfl) dX12_unlike_19 ?_
        rcases ite_g hf with ⟨c6, hf⟩ | ⟨c6, hf⟩
        · refine k_icmp_le_t C dX12_unlike_22 (tgt := 37) (by decide) c6 ?_
          refine k_iload_n C dX12_unlike_37 1 rfl ?_
          refine k_istore_n C dX12_unlike_38 (by decide) [1, 0, 2] (lv' := [(0, .ref (G.2.1 0)), (1, .int v1), (2, .int v2)]) rfl ?_
          refine k_iinc C dX12_unlike_39 2 rfl (v := (v2 + (1 : Int32))) rfl (by decide) [1, 2, 0] (lv' := [(0, .ref (G.2.1 0)), (1, .int v1), (2, .int (v2 + (1 : Int32)))]) rfl ?_
          refine k_goto C dX12_unlike_42 (tgt := 4) (by decide) ?_
          exact ih4 v1 (v2 + (1 : Int32)) hf
        · refine k_icmp_le_f C dX12_unlike_22 (tgt := 37) (by decide) c6 ?_
          refine k_aload_n C dX12_unlike_25 0 rfl ?_
          refine k_iload_n C dX12_unlike_26 2 rfl ?_
          obtain ⟨t7, ht7, hf⟩ := bnd hf
          refine k_callVi C (As := [.int v2]) (c_X12_areUnlike hap v2 M0 t7 ht7) ML_X12_areUnlike wd_1546 shR_0 rfl rfl rfl ⟨Nat.le_of_ble_eq_true rfl, Nat.le_of_ble_eq_true rfl⟩ (Nat.le_of_ble_eq_true rfl) dX12_unlike_27 ?_
          have hj8 : K p l e (k_rm 3 68) s m args below meth c 3 G shR (MQ below (k_Qi G shR r M0) args s 0 0 (k_A G shR.length)) 38 [(0, .ref (G.2.1 0)), (1, .int v1), (2, .int v2)] [.int (if t7 = 0 then v1 else v2)] M0 := by
            refine k_istore_n C dX12_unlike_38 (by decide) [1, 0, 2] (lv' := [(0, .ref (G.2.1 0)), (1, .int (if t7 = 0 then v1 else v2)), (2, .int v2)]) rfl ?_
            refine k_iinc C dX12_unlike_39 2 rfl (v := (v2 + (1 : Int32))) rfl (by decide) [1, 2, 0] (lv' := [(0, .ref (G.2.1 0)), (1, .int (if t7 = 0 then v1 else v2)), (2, .int (v2 + (1 : Int32)))]) rfl ?_
            refine k_goto C dX12_unlike_42 (tgt := 4) (by decide) ?_
            exact ih4 (if t7 = 0 then v1 else v2) (v2 + (1 : Int32)) hf
          by_cases c9 : t7 = 0
          · refine k_if_eq_t C dX12_unlike_30 (tgt := 37) (by decide) c9 ?_
            refine k_iload_n C dX12_unlike_37 1 rfl ?_
            exact k_val (by rw [if_pos c9]) hj8
          · refine k_if_eq_f C dX12_unlike_30 (tgt := 37) (by decide) c9 ?_
            refine k_iload_n C dX12_unlike_33 2 rfl ?_
            refine k_goto C dX12_unlike_34 (tgt := 38) (by decide) ?_
            exact k_val (by rw [if_neg c9]) hj8
  unfold f_X12_unlike at hf
  refine k_lv (lv' := [(0, .ref (G.2.1 0))]) [0] rfl ?_
  refine k_iconst C dX12_unlike_0 (v := (0 : Int32)) rfl ?_
  refine k_istore_n C dX12_unlike_1 (by decide) [1, 0] (lv' := [(0, .ref (G.2.1 0)), (1, .int (0 : Int32))]) rfl ?_
  refine k_iconst C dX12_unlike_2 (v := (1 : Int32)) rfl ?_
  refine k_istore_n C dX12_unlike_3 (by decide) [1, 2, 0] (lv' := [(0, .ref (G.2.1 0)), (1, .int (0 : Int32)), (2, .int (1 : Int32))]) rfl ?_
  exact k_b4 FU (0 : Int32) (1 : Int32) hf
theorem dX12_people_0 : decode cX12_people 0 = .ok (.iconst 0, 1) := by decide +kernel
theorem dX12_people_1 : decode cX12_people 1 = .ok (.istore_n 1, 1) := by decide +kernel
theorem dX12_people_2 : decode cX12_people 2 = .ok (.iload_n 1, 1) := by decide +kernel
theorem dX12_people_3 : decode cX12_people 3 = .ok (.iconst 1, 1) := by decide +kernel
theorem dX12_people_4 : decode cX12_people 4 = .ok (.aload_n 0, 1) := by decide +kernel
theorem dX12_people_5 : decode cX12_people 5 = .ok (.getfield 62, 3) := by decide +kernel
theorem dX12_people_8 : decode cX12_people 8 = .ok (.ishl, 1) := by decide +kernel
theorem dX12_people_9 : decode cX12_people 9 = .ok (.if_icmp .ge 87, 3) := by decide +kernel
theorem dX12_people_12 : decode cX12_people 12 = .ok (.aload_n 0, 1) := by decide +kernel
theorem dX12_people_13 : decode cX12_people 13 = .ok (.getfield 43, 3) := by decide +kernel
theorem dX12_people_16 : decode cX12_people 16 = .ok (.iload_n 1, 1) := by decide +kernel
theorem dX12_people_17 : decode cX12_people 17 = .ok (.iload_n 1, 1) := by decide +kernel
theorem dX12_people_18 : decode cX12_people 18 = .ok (.ifCond .ne 7, 3) := by decide +kernel
theorem dX12_people_21 : decode cX12_people 21 = .ok (.iconst 0, 1) := by decide +kernel
theorem dX12_people_22 : decode cX12_people 22 = .ok (.goto 5, 3) := by decide +kernel
theorem dX12_people_25 : decode cX12_people 25 = .ok (.bipush 8, 2) := by decide +kernel
theorem dX12_people_27 : decode cX12_people 27 = .ok (.iastore, 1) := by decide +kernel
theorem dX12_people_28 : decode cX12_people 28 = .ok (.iload_n 1, 1) := by decide +kernel
theorem dX12_people_29 : decode cX12_people 29 = .ok (.istore_n 2, 1) := by decide +kernel
theorem dX12_people_30 : decode cX12_people 30 = .ok (.iload_n 2, 1) := by decide +kernel
theorem dX12_people_31 : decode cX12_people 31 = .ok (.ifCond .le 59, 3) := by decide +kernel
theorem dX12_people_34 : decode cX12_people 34 = .ok (.aload_n 0, 1) := by decide +kernel
theorem dX12_people_35 : decode cX12_people 35 = .ok (.iload_n 2, 1) := by decide +kernel
theorem dX12_people_36 : decode cX12_people 36 = .ok (.invokevirtual 193, 3) := by decide +kernel
theorem dX12_people_39 : decode cX12_people 39 = .ok (.ifCond .eq 42, 3) := by decide +kernel
theorem dX12_people_42 : decode cX12_people 42 = .ok (.aload_n 0, 1) := by decide +kernel
theorem dX12_people_43 : decode cX12_people 43 = .ok (.getfield 43, 3) := by decide +kernel
theorem dX12_people_46 : decode cX12_people 46 = .ok (.iload_n 1, 1) := by decide +kernel
theorem dX12_people_47 : decode cX12_people 47 = .ok (.iload_n 2, 1) := by decide +kernel
theorem dX12_people_48 : decode cX12_people 48 = .ok (.iconst (-1), 1) := by decide +kernel
theorem dX12_people_49 : decode cX12_people 49 = .ok (.ixor, 1) := by decide +kernel
theorem dX12_people_50 : decode cX12_people 50 = .ok (.iand, 1) := by decide +kernel
theorem dX12_people_51 : decode cX12_people 51 = .ok (.iaload, 1) := by decide +kernel
theorem dX12_people_52 : decode cX12_people 52 = .ok (.iconst 1, 1) := by decide +kernel
theorem dX12_people_53 : decode cX12_people 53 = .ok (.iadd, 1) := by decide +kernel
theorem dX12_people_54 : decode cX12_people 54 = .ok (.aload_n 0, 1) := by decide +kernel
theorem dX12_people_55 : decode cX12_people 55 = .ok (.getfield 43, 3) := by decide +kernel
theorem dX12_people_58 : decode cX12_people 58 = .ok (.iload_n 1, 1) := by decide +kernel
theorem dX12_people_59 : decode cX12_people 59 = .ok (.iaload, 1) := by decide +kernel
theorem dX12_people_60 : decode cX12_people 60 = .ok (.if_icmp .ge 21, 3) := by decide +kernel
theorem dX12_people_63 : decode cX12_people 63 = .ok (.aload_n 0, 1) := by decide +kernel
theorem dX12_people_64 : decode cX12_people 64 = .ok (.getfield 43, 3) := by decide +kernel
theorem dX12_people_67 : decode cX12_people 67 = .ok (.iload_n 1, 1) := by decide +kernel
theorem dX12_people_68 : decode cX12_people 68 = .ok (.aload_n 0, 1) := by decide +kernel
theorem dX12_people_69 : decode cX12_people 69 = .ok (.getfield 43, 3) := by decide +kernel
theorem dX12_people_72 : decode cX12_people 72 = .ok (.iload_n 1, 1) := by decide +kernel
theorem dX12_people_73 : decode cX12_people 73 = .ok (.iload_n 2, 1) := by decide +kernel
theorem dX12_people_74 : decode cX12_people 74 = .ok (.iconst (-1), 1) := by decide +kernel
theorem dX12_people_75 : decode cX12_people 75 = .ok (.ixor, 1) := by decide +kernel
theorem dX12_people_76 : decode cX12_people 76 = .ok (.iand, 1) := by decide +kernel
theorem dX12_people_77 : decode cX12_people 77 = .ok (.iaload, 1) := by decide +kernel
theorem dX12_people_78 : decode cX12_people 78 = .ok (.iconst 1, 1) := by decide +kernel
theorem dX12_people_79 : decode cX12_people 79 = .ok (.iadd, 1) := by decide +kernel
theorem dX12_people_80 : decode cX12_people 80 = .ok (.iastore, 1) := by decide +kernel
theorem dX12_people_81 : decode cX12_people 81 = .ok (.iload_n 2, 1) := by decide +kernel
theorem dX12_people_82 : decode cX12_people 82 = .ok (.iconst 1, 1) := by decide +kernel
theorem dX12_people_83 : decode cX12_people 83 = .ok (.isub, 1) := by decide +kernel
theorem dX12_people_84 : decode cX12_people 84 = .ok (.iload_n 1, 1) := by decide +kernel
theorem dX12_people_85 : decode cX12_people 85 = .ok (.iand, 1) := by decide +kernel
theorem dX12_people_86 : decode cX12_people 86 = .ok (.istore_n 2, 1) := by decide +kernel
theorem dX12_people_87 : decode cX12_people 87 = .ok (.goto (-57), 3) := by decide +kernel
theorem dX12_people_90 : decode cX12_people 90 = .ok (.iinc 1 1, 3) := by decide +kernel
theorem dX12_people_93 : decode cX12_people 93 = .ok (.goto (-91), 3) := by decide +kernel
theorem dX12_people_96 : decode cX12_people 96 = .ok (.aload_n 0, 1) := by decide +kernel
theorem dX12_people_97 : decode cX12_people 97 = .ok (.getfield 43, 3) := by decide +kernel
theorem dX12_people_100 : decode cX12_people 100 = .ok (.iconst 1, 1) := by decide +kernel
theorem dX12_people_101 : decode cX12_people 101 = .ok (.aload_n 0, 1) := by decide +kernel
theorem dX12_people_102 : decode cX12_people 102 = .ok (.getfield 62, 3) := by decide +kernel
theorem dX12_people_105 : decode cX12_people 105 = .ok (.ishl, 1) := by decide +kernel
theorem dX12_people_106 : decode cX12_people 106 = .ok (.iconst 1, 1) := by decide +kernel
theorem dX12_people_107 : decode cX12_people 107 = .ok (.isub, 1) := by decide +kernel
theorem dX12_people_108 : decode cX12_people 108 = .ok (.iaload, 1) := by decide +kernel
theorem dX12_people_109 : decode cX12_people 109 = .ok (.ireturn, 1) := by decide +kernel
set_option maxRecDepth 100000 in
set_option maxHeartbeats 4000000 in
theorem c_X12_people {l : Launch} {G : Gx} (hap : k_ap G shR.length) (M0 : Mem) (r : Int32 × Mem) (hf : f_X12_people M0 = some r) : k_Met l yX12_people cX12_people 3 (some .int) 3 68 G shR [.ref (G.2.1 0)] M0 (k_Qi G shR r.1 r.2) := by
  refine k_Met_of (by decide) hap (Nat.le_of_ble_eq_true rfl) ?_
  intro p e s m args below meth c C hr hlk
  have C : Cx p s m args c cX12_people RX12 3 G shR := C
  have k_b2 : ∀ (n2 : Nat) (v1 : Int32) (M : Mem), f_X12_people_b2 n2 v1 M = some r → K p l e (k_rm 3 68) s m args below meth c 3 G shR (MQ below (k_Qi G shR r.1 r.2) args s 0 0 (k_A G shR.length)) 2 [(0, .ref (G.2.1 0)), (1, .int v1)] [] M := by
    intro n2
    induction n2 with
    | zero => intro v1 M hf; simp [f_X12_people_b2] at hf
    | succ n2 ih2 =>
      have k_b30 : ∀ (n30 : Nat) (v1 : Int32) (v2 : Int32) (M : Mem), f_X12_people_b30 (f_X12_people_b2 n2) n30 v1 v2 M = some r → K p l e (k_rm 3 68) s m args below meth c 3 G shR (MQ below (k_Qi G shR r.1 r.2) args s 0 0 (k_A G shR.length)) 30 [(0, .ref (G.2.1 0)), (1, .int v1), (2, .int v2)] [] M := by
        intro n30
        induction n30 with
        | zero => intro v1 v2 M hf; simp [f_X12_people_b30] at hf
        | succ n30 ih30 =>
          intro v1 v2 M hf
          unfold f_X12_people_b30 at hf
          refine k_iload_n C dX12_people_30 2 rfl ?_
          rcases ite_g hf with ⟨c5, hf⟩ | ⟨c5, hf⟩
          · refine k_if_le_t C dX12_people_31 (tgt := 90) (by decide) c5 ?_
            refine k_iinc C dX12_people_90 1 rfl (v := (v1 + (1 : Int32))) rfl (by decide) [1, 0] (lv' := [(0, .ref (G.2.1 0)), (1, .int (v1 + (1 : Int32)))]) rfl ?_
            refine k_goto C dX12_people_93 (tgt := 2) (by decide) ?_
            exact ih2 (v1 + (1 : Int32)) M hf
          · refine k_if_le_f C dX12_people_31 (tgt := 90) (by decide) c5 ?_
            refine k_aload_n C dX12_people_34 0 rfl ?_
            refine k_iload_n C dX12_people_35 2 rfl ?_
            obtain ⟨t6, ht6, hf⟩ := bnd hf
            refine k_callVi C (As := [.int v2]) (c_X12_areUnlike hap v2 M t6 ht6) ML_X12_areUnlike wd_1546 shR_0 rfl rfl rfl ⟨Nat.le_of_ble_eq_true rfl, Nat.le_of_ble_eq_true rfl⟩ (Nat.le_of_ble_eq_true rfl) dX12_people_36 ?_
            rcases ite_g hf with ⟨c7, hf⟩ | ⟨c7, hf⟩
            · refine k_if_eq_t C dX12_people_39 (tgt := 81) (by decide) c7 ?_
              refine k_iload_n C dX12_people_81 2 rfl ?_
              refine k_iconst C dX12_people_82 (v := (1 : Int32)) rfl ?_
              refine k_isub C dX12_people_83 ?_
              refine k_iload_n C dX12_people_84 1 rfl ?_
              refine k_iand C dX12_people_85 ?_
              refine k_istore_n C dX12_people_86 (by decide) [1, 2, 0] (lv' := [(0, .ref (G.2.1 0)), (1, .int v1), (2, .int ((v2 - (1 : Int32)) &&& v1))]) rfl ?_
              refine k_goto C dX12_people_87 (tgt := 30) (by decide) ?_
              exact ih30 v1 ((v2 - (1 : Int32)) &&& v1) M hf
            · refine k_if_eq_f C dX12_people_39 (tgt := 81) (by decide) c7 ?_
              refine k_aload_n C dX12_people_42 0 rfl ?_
              refine k_getr C shR_0 (j := 22) rfl FL_X12_43 dX12_people_43 ?_
              refine k_iload_n C dX12_people_46 1 rfl ?_
              refine k_iload_n C dX12_people_47 2 rfl ?_
              refine k_iconst C dX12_people_48 (v := (-1 : Int32)) rfl ?_
              refine k_ixor C dX12_people_49 ?_
              refine k_iand C dX12_people_50 ?_
              obtain ⟨t8, ht8, hf⟩ := bnd hf
              refine k_iald C shR_12 ht8 dX12_people_51 ?_
              refine k_iconst C dX12_people_52 (v := (1 : Int32)) rfl ?_
              refine k_iadd C dX12_people_53 ?_
              refine k_aload_n C dX12_people_54 0 rfl ?_
              refine k_getr C shR_0 (j := 22) rfl FL_X12_43 dX12_people_55 ?_
              refine k_iload_n C dX12_people_58 1 rfl ?_
              obtain ⟨t9, ht9, hf⟩ := bnd hf
              refine k_iald C shR_12 ht9 dX12_people_59 ?_
              rcases ite_g hf with ⟨c10, hf⟩ | ⟨c10, hf⟩
              · refine k_icmp_ge_t C dX12_people_60 (tgt := 81) (by decide) c10 ?_
                refine k_iload_n C dX12_people_81 2 rfl ?_
                refine k_iconst C dX12_people_82 (v := (1 : Int32)) rfl ?_
                refine k_isub C dX12_people_83 ?_
                refine k_iload_n C dX12_people_84 1 rfl ?_
                refine k_iand C dX12_people_85 ?_
                refine k_istore_n C dX12_people_86 (by decide) [1, 2, 0] (lv' := [(0, .ref (G.2.1 0)), (1, .int v1), (2, .int ((v2 - (1 : Int32)) &&& v1))]) rfl ?_
                refine k_goto C dX12_people_87 (tgt := 30) (by decide) ?_
                exact ih30 v1 ((v2 - (1 : Int32)) &&& v1) M hf
              · refine k_icmp_ge_f C dX12_people_60 (tgt := 81) (by decide) c10 ?_
                refine k_aload_n C dX12_people_63 0 rfl ?_
                refine k_getr C shR_0 (j := 22) rfl FL_X12_43 dX12_people_64 ?_
                refine k_iload_n C dX12_people_67 1 rfl ?_
                refine k_aload_n C dX12_people_68 0 rfl ?_
                refine k_getr C shR_0 (j := 22) rfl FL_X12_43 dX12_people_69 ?_
                refine k_iload_n C dX12_people_72 1 rfl ?_
                refine k_iload_n C dX12_people_73 2 rfl ?_
                refine k_iconst C dX12_people_74 (v := (-1 : Int32)) rfl ?_
                refine k_ixor C dX12_people_75 ?_
                refine k_iand C dX12_people_76 ?_
                obtain ⟨t11, ht11, hf⟩ := bnd hf
                refine k_iald C shR_12 ht11 dX12_people_77 ?_
                refine k_iconst C dX12_people_78 (v := (1 : Int32)) rfl ?_
                refine k_iadd C dX12_people_79 ?_
                obtain ⟨M12, hM12, hf⟩ := bnd hf
                refine k_iast C shR_12 hM12 dX12_people_80 ?_
                refine k_iload_n C dX12_people_81 2 rfl ?_
                refine k_iconst C dX12_people_82 (v := (1 : Int32)) rfl ?_
                refine k_isub C dX12_people_83 ?_
                refine k_iload_n C dX12_people_84 1 rfl ?_
                refine k_iand C dX12_people_85 ?_
                refine k_istore_n C dX12_people_86 (by decide) [1, 2, 0] (lv' := [(0, .ref (G.2.1 0)), (1, .int v1), (2, .int ((v2 - (1 : Int32)) &&& v1))]) rfl ?_
                refine k_goto C dX12_people_87 (tgt := 30) (by decide) ?_
                exact ih30 v1 ((v2 - (1 : Int32)) &&& v1) M12 hf
      intro v1 M hf
      unfold f_X12_people_b2 at hf
      refine k_iload_n C dX12_people_2 1 rfl ?_
      refine k_iconst C dX12_people_3 (v := (1 : Int32)) rfl ?_
      refine k_aload_n C dX12_people_4 0 rfl ?_
      refine k_geti C shR_0 (j := 5) rfl FL_X12_62 dX12_people_5 ?_
      refine k_ishlJ C dX12_people_8 ?_
      rcases ite_g hf with ⟨c1, hf⟩ | ⟨c1, hf⟩
      · refine k_icmp_ge_t C dX12_people_9 (tgt := 96) (by decide) c1 ?_
        refine k_aload_n C dX12_people_96 0 rfl ?_
        refine k_getr C shR_0 (j := 22) rfl FL_X12_43 dX12_people_97 ?_
        refine k_iconst C dX12_people_100 (v := (1 : Int32)) rfl ?_
        refine k_aload_n C dX12_people_101 0 rfl ?_
        refine k_geti C shR_0 (j := 5) rfl FL_X12_62 dX12_people_102 ?_
        refine k_ishlJ C dX12_people_105 ?_
        refine k_iconst C dX12_people_106 (v := (1 : Int32)) rfl ?_
        refine k_isub C dX12_people_107 ?_
        obtain ⟨t2, ht2, hf⟩ := bnd hf
        refine k_iald C shR_12 ht2 dX12_people_108 ?_
        exact k_iret C hr hlk (prf hf) (prs hf) dX12_people_109
      · refine k_icmp_ge_f C dX12_people_9 (tgt := 96) (by decide) c1 ?_
        refine k_aload_n C dX12_people_12 0 rfl ?_
        refine k_getr C shR_0 (j := 22) rfl FL_X12_43 dX12_people_13 ?_
        refine k_iload_n C dX12_people_16 1 rfl ?_
        refine k_iload_n C dX12_people_17 1 rfl ?_
        have hj13 : K p l e (k_rm 3 68) s m args below meth c 3 G shR (MQ below (k_Qi G shR r.1 r.2) args s 0 0 (k_A G shR.length)) 27 [(0, .ref (G.2.1 0)), (1, .int v1)] [.int (if v1 = 0 then (0 : Int32) else (8 : Int32)), .int v1, .ref (G.2.1 12)] M := by
          obtain ⟨M3, hM3, hf⟩ := bnd hf
          refine k_iast C shR_12 hM3 dX12_people_27 ?_
          refine k_iload_n C dX12_people_28 1 rfl ?_
          refine k_istore_n C dX12_people_29 (by decide) [1, 2, 0] (lv' := [(0, .ref (G.2.1 0)), (1, .int v1), (2, .int v1)]) rfl ?_
          exact k_b30 FU v1 v1 M3 hf
        by_cases c14 : v1 = 0
        · refine k_if_ne_f C dX12_people_18 (tgt := 25) (by decide) c14 ?_
          refine k_iconst C dX12_people_21 (v := (0 : Int32)) rfl ?_
          refine k_goto C dX12_people_22 (tgt := 27) (by decide) ?_
          exact k_val (by rw [if_pos c14]) hj13
        · refine k_if_ne_t C dX12_people_18 (tgt := 25) (by decide) c14 ?_
          refine k_bipush C dX12_people_25 (v := (8 : Int32)) rfl ?_
          exact k_val (by rw [if_neg c14]) hj13
  unfold f_X12_people at hf
  refine k_lv (lv' := [(0, .ref (G.2.1 0))]) [0] rfl ?_
  refine k_iconst C dX12_people_0 (v := (0 : Int32)) rfl ?_
  refine k_istore_n C dX12_people_1 (by decide) [1, 0] (lv' := [(0, .ref (G.2.1 0)), (1, .int (0 : Int32))]) rfl ?_
  exact k_b2 FU (0 : Int32) M0 hf
theorem dX12_likesOf_0 : decode cX12_likesOf 0 = .ok (.iconst (-1), 1) := by decide +kernel
theorem dX12_likesOf_1 : decode cX12_likesOf 1 = .ok (.istore_n 2, 1) := by decide +kernel
theorem dX12_likesOf_2 : decode cX12_likesOf 2 = .ok (.iconst 0, 1) := by decide +kernel
theorem dX12_likesOf_3 : decode cX12_likesOf 3 = .ok (.istore_n 3, 1) := by decide +kernel
theorem dX12_likesOf_4 : decode cX12_likesOf 4 = .ok (.iload_n 3, 1) := by decide +kernel
theorem dX12_likesOf_5 : decode cX12_likesOf 5 = .ok (.aload_n 0, 1) := by decide +kernel
theorem dX12_likesOf_6 : decode cX12_likesOf 6 = .ok (.getfield 62, 3) := by decide +kernel
theorem dX12_likesOf_9 : decode cX12_likesOf 9 = .ok (.if_icmp .ge 26, 3) := by decide +kernel
theorem dX12_likesOf_12 : decode cX12_likesOf 12 = .ok (.iload_n 2, 1) := by decide +kernel
theorem dX12_likesOf_13 : decode cX12_likesOf 13 = .ok (.aload_n 0, 1) := by decide +kernel
theorem dX12_likesOf_14 : decode cX12_likesOf 14 = .ok (.iload_n 3, 1) := by decide +kernel
theorem dX12_likesOf_15 : decode cX12_likesOf 15 = .ok (.iload_n 1, 1) := by decide +kernel
theorem dX12_likesOf_16 : decode cX12_likesOf 16 = .ok (.invokevirtual 154, 3) := by decide +kernel
theorem dX12_likesOf_19 : decode cX12_likesOf 19 = .ok (.ifCond .eq 7, 3) := by decide +kernel
theorem dX12_likesOf_22 : decode cX12_likesOf 22 = .ok (.iconst 1, 1) := by decide +kernel
theorem dX12_likesOf_23 : decode cX12_likesOf 23 = .ok (.goto 4, 3) := by decide +kernel
theorem dX12_likesOf_26 : decode cX12_likesOf 26 = .ok (.iconst 0, 1) := by decide +kernel
theorem dX12_likesOf_27 : decode cX12_likesOf 27 = .ok (.iadd, 1) := by decide +kernel
theorem dX12_likesOf_28 : decode cX12_likesOf 28 = .ok (.istore_n 2, 1) := by decide +kernel
theorem dX12_likesOf_29 : decode cX12_likesOf 29 = .ok (.iinc 3 1, 3) := by decide +kernel
theorem dX12_likesOf_32 : decode cX12_likesOf 32 = .ok (.goto (-28), 3) := by decide +kernel
theorem dX12_likesOf_35 : decode cX12_likesOf 35 = .ok (.iload_n 2, 1) := by decide +kernel
theorem dX12_likesOf_36 : decode cX12_likesOf 36 = .ok (.ireturn, 1) := by decide +kernel
set_option maxRecDepth 100000 in
set_option maxHeartbeats 4000000 in
theorem c_X12_likesOf {l : Launch} {G : Gx} (hap : k_ap G shR.length) (v1 : Int32) (M0 : Mem) (r : Int32) (hf : f_X12_likesOf v1 M0 = some r) : k_Met l yX12_likesOf cX12_likesOf 4 (some .int) 2 44 G shR [.ref (G.2.1 0), .int v1] M0 (k_Qi G shR r M0) := by
  refine k_Met_of (by decide) hap (Nat.le_of_ble_eq_true rfl) ?_
  intro p e s m args below meth c C hr hlk
  have C : Cx p s m args c cX12_likesOf RX12 4 G shR := C
  have k_b4 : ∀ (n4 : Nat) (v1 : Int32) (v2 : Int32) (v3 : Int32), f_X12_likesOf_b4 M0 n4 v1 v2 v3 = some r → K p l e (k_rm 2 44) s m args below meth c 4 G shR (MQ below (k_Qi G shR r M0) args s 0 0 (k_A G shR.length)) 4 [(0, .ref (G.2.1 0)), (1, .int v1), (2, .int v2), (3, .int v3)] [] M0 := by
    intro n4
    induction n4 with
    | zero => intro v1 v2 v3 hf; simp [f_X12_likesOf_b4] at hf
    | succ n4 ih4 =>
      intro v1 v2 v3 hf
      unfold f_X12_likesOf_b4 at hf
      refine k_iload_n C dX12_likesOf_4 3 rfl ?_
      refine k_aload_n C dX12_likesOf_5 0 rfl ?_
      refine k_geti C shR_0 (j := 5) rfl FL_X12_62 dX12_likesOf_6 ?_
      rcases ite_g hf with ⟨c2, hf⟩ | ⟨c2, hf⟩
      · refine k_icmp_ge_t C dX12_likesOf_9 (tgt := 35) (by decide) c2 ?_
        refine k_iload_n C dX12_likesOf_35 2 rfl ?_
        exact k_iret C hr hlk (Option.some.inj hf) rfl dX12_likesOf_36
      · refine k_icmp_ge_f C dX12_likesOf_9 (tgt := 35) (by decide) c2 ?_
        refine k_iload_n C dX12_likesOf_12 2 rfl ?_
        refine k_aload_n C dX12_likesOf_13 0 rfl ?_
        refine k_iload_n C dX12_likesOf_14 3 rfl ?_
        refine k_iload_n C dX12_likesOf_15 1 rfl ?_
        obtain ⟨t3, ht3, hf⟩ := bnd hf
        refine k_callVi C (As := [.int v3, .int v1]) (c_X12_areSame hap v3 v1 M0 t3 ht3) ML_X12_areSame wd_1459 shR_0 rfl rfl rfl ⟨Nat.le_of_ble_eq_true rfl, Nat.le_of_ble_eq_true rfl⟩ (Nat.le_of_ble_eq_true rfl) dX12_likesOf_16 ?_
        have hj4 : K p l e (k_rm 2 44) s m args below meth c 4 G shR (MQ below (k_Qi G shR r M0) args s 0 0 (k_A G shR.length)) 27 [(0, .ref (G.2.1 0)), (1, .int v1), (2, .int v2), (3, .int v3)] [.int (if t3 = 0 then (0 : Int32) else (1 : Int32)), .int v2] M0 := by
          refine k_iadd C dX12_likesOf_27 ?_
          refine k_istore_n C dX12_likesOf_28 (by decide) [1, 2, 0, 3] (lv' := [(0, .ref (G.2.1 0)), (1, .int v1), (2, .int (v2 + (if t3 = 0 then (0 : Int32) else (1 : Int32)))), (3, .int v3)]) rfl ?_
          refine k_iinc C dX12_likesOf_29 3 rfl (v := (v3 + (1 : Int32))) rfl (by decide) [1, 2, 3, 0] (lv' := [(0, .ref (G.2.1 0)), (1, .int v1), (2, .int (v2 + (if t3 = 0 then (0 : Int32) else (1 : Int32)))), (3, .int (v3 + (1 : Int32)))]) rfl ?_
          refine k_goto C dX12_likesOf_32 (tgt := 4) (by decide) ?_
          exact ih4 v1 (v2 + (if t3 = 0 then (0 : Int32) else (1 : Int32))) (v3 + (1 : Int32)) hf
        by_cases c5 : t3 = 0
        · refine k_if_eq_t C dX12_likesOf_19 (tgt := 26) (by decide) c5 ?_
          refine k_iconst C dX12_likesOf_26 (v := (0 : Int32)) rfl ?_
          exact k_val (by rw [if_pos c5]) hj4
        · refine k_if_eq_f C dX12_likesOf_19 (tgt := 26) (by decide) c5 ?_
          refine k_iconst C dX12_likesOf_22 (v := (1 : Int32)) rfl ?_
          refine k_goto C dX12_likesOf_23 (tgt := 27) (by decide) ?_
          exact k_val (by rw [if_neg c5]) hj4
  unfold f_X12_likesOf at hf
  refine k_lv (lv' := [(0, .ref (G.2.1 0)), (1, .int v1)]) [0, 1] rfl ?_
  refine k_iconst C dX12_likesOf_0 (v := (-1 : Int32)) rfl ?_
  refine k_istore_n C dX12_likesOf_1 (by decide) [1, 2, 0] (lv' := [(0, .ref (G.2.1 0)), (1, .int v1), (2, .int (-1 : Int32))]) rfl ?_
  refine k_iconst C dX12_likesOf_2 (v := (0 : Int32)) rfl ?_
  refine k_istore_n C dX12_likesOf_3 (by decide) [1, 2, 3, 0] (lv' := [(0, .ref (G.2.1 0)), (1, .int v1), (2, .int (-1 : Int32)), (3, .int (0 : Int32))]) rfl ?_
  exact k_b4 FU v1 (-1 : Int32) (0 : Int32) hf
theorem dX12_like_0 : decode cX12_like 0 = .ok (.iload_n 1, 1) := by decide +kernel
theorem dX12_like_1 : decode cX12_like 1 = .ok (.iconst (-1), 1) := by decide +kernel
theorem dX12_like_2 : decode cX12_like 2 = .ok (.if_icmp .eq 17, 3) := by decide +kernel
theorem dX12_like_5 : decode cX12_like 5 = .ok (.aload_n 0, 1) := by decide +kernel
theorem dX12_like_6 : decode cX12_like 6 = .ok (.iload_n 1, 1) := by decide +kernel
theorem dX12_like_7 : decode cX12_like 7 = .ok (.invokevirtual 104, 3) := by decide +kernel
theorem dX12_like_10 : decode cX12_like 10 = .ok (.ifCond .ne 9, 3) := by decide +kernel
theorem dX12_like_13 : decode cX12_like 13 = .ok (.aload_n 0, 1) := by decide +kernel
theorem dX12_like_14 : decode cX12_like 14 = .ok (.iconst (-1), 1) := by decide +kernel
theorem dX12_like_15 : decode cX12_like 15 = .ok (.invokevirtual 75, 3) := by decide +kernel
theorem dX12_like_18 : decode cX12_like 18 = .ok (.ireturn, 1) := by decide +kernel
theorem dX12_like_19 : decode cX12_like 19 = .ok (.iload_n 1, 1) := by decide +kernel
theorem dX12_like_20 : decode cX12_like 20 = .ok (.ifCond .lt 9, 3) := by decide +kernel
theorem dX12_like_23 : decode cX12_like 23 = .ok (.aload_n 0, 1) := by decide +kernel
theorem dX12_like_24 : decode cX12_like 24 = .ok (.iload_n 1, 1) := by decide +kernel
theorem dX12_like_25 : decode cX12_like 25 = .ok (.invokevirtual 196, 3) := by decide +kernel
theorem dX12_like_28 : decode cX12_like 28 = .ok (.ireturn, 1) := by decide +kernel
theorem dX12_like_29 : decode cX12_like 29 = .ok (.aload_n 0, 1) := by decide +kernel
theorem dX12_like_30 : decode cX12_like 30 = .ok (.getfield 62, 3) := by decide +kernel
theorem dX12_like_33 : decode cX12_like 33 = .ok (.ifCond .ne 8, 3) := by decide +kernel
theorem dX12_like_36 : decode cX12_like 36 = .ok (.bipush (-9), 2) := by decide +kernel
theorem dX12_like_38 : decode cX12_like 38 = .ok (.goto 4, 3) := by decide +kernel
theorem dX12_like_41 : decode cX12_like 41 = .ok (.iconst 0, 1) := by decide +kernel
theorem dX12_like_42 : decode cX12_like 42 = .ok (.istore_n 2, 1) := by decide +kernel
theorem dX12_like_43 : decode cX12_like 43 = .ok (.iconst 1, 1) := by decide +kernel
theorem dX12_like_44 : decode cX12_like 44 = .ok (.istore_n 3, 1) := by decide +kernel
theorem dX12_like_45 : decode cX12_like 45 = .ok (.iload_n 3, 1) := by decide +kernel
theorem dX12_like_46 : decode cX12_like 46 = .ok (.aload_n 0, 1) := by decide +kernel
theorem dX12_like_47 : decode cX12_like 47 = .ok (.getfield 62, 3) := by decide +kernel
theorem dX12_like_50 : decode cX12_like 50 = .ok (.if_icmp .ge 28, 3) := by decide +kernel
theorem dX12_like_53 : decode cX12_like 53 = .ok (.aload_n 0, 1) := by decide +kernel
theorem dX12_like_54 : decode cX12_like 54 = .ok (.iload_n 3, 1) := by decide +kernel
theorem dX12_like_55 : decode cX12_like 55 = .ok (.invokevirtual 196, 3) := by decide +kernel
theorem dX12_like_58 : decode cX12_like 58 = .ok (.aload_n 0, 1) := by decide +kernel
theorem dX12_like_59 : decode cX12_like 59 = .ok (.iload_n 2, 1) := by decide +kernel
theorem dX12_like_60 : decode cX12_like 60 = .ok (.invokevirtual 196, 3) := by decide +kernel
theorem dX12_like_63 : decode cX12_like 63 = .ok (.if_icmp .le 7, 3) := by decide +kernel
theorem dX12_like_66 : decode cX12_like 66 = .ok (.iload_n 3, 1) := by decide +kernel
theorem dX12_like_67 : decode cX12_like 67 = .ok (.goto 4, 3) := by decide +kernel
theorem dX12_like_70 : decode cX12_like 70 = .ok (.iload_n 2, 1) := by decide +kernel
theorem dX12_like_71 : decode cX12_like 71 = .ok (.istore_n 2, 1) := by decide +kernel
theorem dX12_like_72 : decode cX12_like 72 = .ok (.iinc 3 1, 3) := by decide +kernel
theorem dX12_like_75 : decode cX12_like 75 = .ok (.goto (-30), 3) := by decide +kernel
theorem dX12_like_78 : decode cX12_like 78 = .ok (.iload_n 2, 1) := by decide +kernel
theorem dX12_like_79 : decode cX12_like 79 = .ok (.ireturn, 1) := by decide +kernel
set_option maxRecDepth 100000 in
set_option maxHeartbeats 4000000 in
theorem c_X12_like {l : Launch} {G : Gx} (hap : k_ap G shR.length) (v1 : Int32) (M0 : Mem) (r : Int32 × Mem) (hf : f_X12_like v1 M0 = some r) : k_Met l yX12_like cX12_like 4 (some .int) 3 67 G shR [.ref (G.2.1 0), .int v1] M0 (k_Qi G shR r.1 r.2) := by
  refine k_Met_of (by decide) hap (Nat.le_of_ble_eq_true rfl) ?_
  intro p e s m args below meth c C hr hlk
  have C : Cx p s m args c cX12_like RX12 4 G shR := C
  have k_b45 : ∀ (n45 : Nat) (v2 : Int32) (v3 : Int32) (M : Mem), f_X12_like_b45 n45 v2 v3 M = some r → K p l e (k_rm 3 67) s m args below meth c 4 G shR (MQ below (k_Qi G shR r.1 r.2) args s 0 0 (k_A G shR.length)) 45 [(0, .ref (G.2.1 0)), (2, .int v2), (3, .int v3)] [] M := by
    intro n45
    induction n45 with
    | zero => intro v2 v3 M hf; simp [f_X12_like_b45] at hf
    | succ n45 ih45 =>
      intro v2 v3 M hf
      unfold f_X12_like_b45 at hf
      refine k_iload_n C dX12_like_45 2 rfl ?_
      refine k_aload_n C dX12_like_46 0 rfl ?_
      refine k_geti C shR_0 (j := 5) rfl FL_X12_62 dX12_like_47 ?_
      rcases ite_g hf with ⟨c4, hf⟩ | ⟨c4, hf⟩
      · refine k_icmp_ge_t C dX12_like_50 (tgt := 78) (by decide) c4 ?_
        refine k_iload_n C dX12_like_78 1 rfl ?_
        exact k_iret C hr hlk (prf hf) (prs hf) dX12_like_79
      · refine k_icmp_ge_f C dX12_like_50 (tgt := 78) (by decide) c4 ?_
        refine k_aload_n C dX12_like_53 0 rfl ?_
        refine k_iload_n C dX12_like_54 2 rfl ?_
        obtain ⟨t5, ht5, hf⟩ := bnd hf
        refine k_callVi C (As := [.int v3]) (c_X12_likesOf hap v3 M t5 ht5) ML_X12_likesOf wd_1558 shR_0 rfl rfl rfl ⟨Nat.le_of_ble_eq_true rfl, Nat.le_of_ble_eq_true rfl⟩ (Nat.le_of_ble_eq_true rfl) dX12_like_55 ?_
        refine k_aload_n C dX12_like_58 0 rfl ?_
        refine k_iload_n C dX12_like_59 1 rfl ?_
        obtain ⟨t6, ht6, hf⟩ := bnd hf
        refine k_callVi C (As := [.int v2]) (c_X12_likesOf hap v2 M t6 ht6) ML_X12_likesOf wd_1558 shR_0 rfl rfl rfl ⟨Nat.le_of_ble_eq_true rfl, Nat.le_of_ble_eq_true rfl⟩ (Nat.le_of_ble_eq_true rfl) dX12_like_60 ?_
        have hj7 : K p l e (k_rm 3 67) s m args below meth c 4 G shR (MQ below (k_Qi G shR r.1 r.2) args s 0 0 (k_A G shR.length)) 71 [(0, .ref (G.2.1 0)), (2, .int v2), (3, .int v3)] [.int (if t5 ≤ t6 then v2 else v3)] M := by
          refine k_istore_n C dX12_like_71 (by decide) [1, 0, 2] (lv' := [(0, .ref (G.2.1 0)), (2, .int (if t5 ≤ t6 then v2 else v3)), (3, .int v3)]) rfl ?_
          refine k_iinc C dX12_like_72 2 rfl (v := (v3 + (1 : Int32))) rfl (by decide) [1, 2, 0] (lv' := [(0, .ref (G.2.1 0)), (2, .int (if t5 ≤ t6 then v2 else v3)), (3, .int (v3 + (1 : Int32)))]) rfl ?_
          refine k_goto C dX12_like_75 (tgt := 45) (by decide) ?_
          exact ih45 (if t5 ≤ t6 then v2 else v3) (v3 + (1 : Int32)) M hf
        by_cases c8 : t5 ≤ t6
        · refine k_icmp_le_t C dX12_like_63 (tgt := 70) (by decide) c8 ?_
          refine k_iload_n C dX12_like_70 1 rfl ?_
          exact k_val (by rw [if_pos c8]) hj7
        · refine k_icmp_le_f C dX12_like_63 (tgt := 70) (by decide) c8 ?_
          refine k_iload_n C dX12_like_66 2 rfl ?_
          refine k_goto C dX12_like_67 (tgt := 71) (by decide) ?_
          exact k_val (by rw [if_neg c8]) hj7
  have k_b19 : ∀ (v1 : Int32) (M : Mem), f_X12_like_b19 v1 M = some r → K p l e (k_rm 3 67) s m args below meth c 4 G shR (MQ below (k_Qi G shR r.1 r.2) args s 0 0 (k_A G shR.length)) 19 [(0, .ref (G.2.1 0)), (1, .int v1)] [] M := by
    intro v1 M hf
    unfold f_X12_like_b19 at hf
    refine k_iload_n C dX12_like_19 1 rfl ?_
    rcases ite_g hf with ⟨c2, hf⟩ | ⟨c2, hf⟩
    · refine k_if_lt_t C dX12_like_20 (tgt := 29) (by decide) c2 ?_
      refine k_aload_n C dX12_like_29 0 rfl ?_
      refine k_geti C shR_0 (j := 5) rfl FL_X12_62 dX12_like_30 ?_
      have hj9 : K p l e (k_rm 3 67) s m args below meth c 4 G shR (MQ below (k_Qi G shR r.1 r.2) args s 0 0 (k_A G shR.length)) 42 [(0, .ref (G.2.1 0)), (1, .int v1)] [.int (if (M.1 0 5) = 0 then (-9 : Int32) else (0 : Int32))] M := by
        refine k_istore_n C dX12_like_42 (by decide) [1, 0] (lv' := [(0, .ref (G.2.1 0)), (2, .int (if (M.1 0 5) = 0 then (-9 : Int32) else (0 : Int32)))]) rfl ?_
        refine k_iconst C dX12_like_43 (v := (1 : Int32)) rfl ?_
        refine k_istore_n C dX12_like_44 (by decide) [1, 2, 0] (lv' := [(0, .ref (G.2.1 0)), (2, .int (if (M.1 0 5) = 0 then (-9 : Int32) else (0 : Int32))), (3, .int (1 : Int32))]) rfl ?_
        exact k_b45 FU (if (M.1 0 5) = 0 then (-9 : Int32) else (0 : Int32)) (1 : Int32) M hf
      by_cases c10 : (M.1 0 5) = 0
      · refine k_if_ne_f C dX12_like_33 (tgt := 41) (by decide) c10 ?_
        refine k_bipush C dX12_like_36 (v := (-9 : Int32)) rfl ?_
        refine k_goto C dX12_like_38 (tgt := 42) (by decide) ?_
        exact k_val (by rw [if_pos c10]) hj9
      · refine k_if_ne_t C dX12_like_33 (tgt := 41) (by decide) c10 ?_
        refine k_iconst C dX12_like_41 (v := (0 : Int32)) rfl ?_
        exact k_val (by rw [if_neg c10]) hj9
    · refine k_if_lt_f C dX12_like_20 (tgt := 29) (by decide) c2 ?_
      refine k_aload_n C dX12_like_23 0 rfl ?_
      refine k_iload_n C dX12_like_24 1 rfl ?_
      obtain ⟨t11, ht11, hf⟩ := bnd hf
      refine k_callVi C (As := [.int v1]) (c_X12_likesOf hap v1 M t11 ht11) ML_X12_likesOf wd_1558 shR_0 rfl rfl rfl ⟨Nat.le_of_ble_eq_true rfl, Nat.le_of_ble_eq_true rfl⟩ (Nat.le_of_ble_eq_true rfl) dX12_like_25 ?_
      exact k_iret C hr hlk (prf hf) (prs hf) dX12_like_28
  unfold f_X12_like at hf
  refine k_lv (lv' := [(0, .ref (G.2.1 0)), (1, .int v1)]) [0, 1] rfl ?_
  refine k_iload_n C dX12_like_0 1 rfl ?_
  refine k_iconst C dX12_like_1 (v := (-1 : Int32)) rfl ?_
  rcases ite_g hf with ⟨c1, hf⟩ | ⟨c1, hf⟩
  · refine k_icmp_eq_t C dX12_like_2 (tgt := 19) (by decide) c1 ?_
    exact k_b19 v1 M0 hf
  · refine k_icmp_eq_f C dX12_like_2 (tgt := 19) (by decide) c1 ?_
    refine k_aload_n C dX12_like_5 0 rfl ?_
    refine k_iload_n C dX12_like_6 1 rfl ?_
    refine k_callVi C (As := [.int v1]) (c_X12_isDoing hap v1 M0 _ rfl) ML_X12_isDoing wd_1416 shR_0 rfl rfl rfl ⟨Nat.le_of_ble_eq_true rfl, Nat.le_of_ble_eq_true rfl⟩ (Nat.le_of_ble_eq_true rfl) dX12_like_7 ?_
    rcases ite_g hf with ⟨c12, hf⟩ | ⟨c12, hf⟩
    · refine k_if_ne_f C dX12_like_10 (tgt := 19) (by decide) c12 ?_
      refine k_aload_n C dX12_like_13 0 rfl ?_
      refine k_iconst C dX12_like_14 (v := (-1 : Int32)) rfl ?_
      obtain ⟨⟨t13, M13⟩, ht13, hf⟩ := bnd hf
      replace hf := bp_s hf
      refine k_callVi C (As := [.int (-1 : Int32)]) (c_X12_no hap (-1 : Int32) M0 (t13, M13) ht13) ML_X12_no wd_1369 shR_0 rfl rfl rfl ⟨Nat.le_of_ble_eq_true rfl, Nat.le_of_ble_eq_true rfl⟩ (Nat.le_of_ble_eq_true rfl) dX12_like_15 ?_
      exact k_iret C hr hlk (prf hf) (prs hf) dX12_like_18
    · refine k_if_ne_t C dX12_like_10 (tgt := 19) (by decide) c12 ?_
      exact k_b19 v1 M0 hf
theorem dX12_lays_0 : decode cX12_lays 0 = .ok (.aload_n 0, 1) := by decide +kernel
theorem dX12_lays_1 : decode cX12_lays 1 = .ok (.iload_n 1, 1) := by decide +kernel
theorem dX12_lays_2 : decode cX12_lays 2 = .ok (.bipush 9, 2) := by decide +kernel
theorem dX12_lays_4 : decode cX12_lays 4 = .ok (.idiv, 1) := by decide +kernel
theorem dX12_lays_5 : decode cX12_lays 5 = .ok (.putfield 111, 3) := by decide +kernel
theorem dX12_lays_8 : decode cX12_lays 8 = .ok (.aload_n 0, 1) := by decide +kernel
theorem dX12_lays_9 : decode cX12_lays 9 = .ok (.iload_n 1, 1) := by decide +kernel
theorem dX12_lays_10 : decode cX12_lays 10 = .ok (.bipush 9, 2) := by decide +kernel
theorem dX12_lays_12 : decode cX12_lays 12 = .ok (.irem, 1) := by decide +kernel
theorem dX12_lays_13 : decode cX12_lays 13 = .ok (.putfield 114, 3) := by decide +kernel
theorem dX12_lays_16 : decode cX12_lays 16 = .ok (.return_, 1) := by decide +kernel
set_option maxRecDepth 100000 in
set_option maxHeartbeats 4000000 in
theorem c_X12_lays {l : Launch} {G : Gx} (hap : k_ap G shR.length) (v1 : Int32) (M0 : Mem) (r : Mem) (hf : f_X12_lays v1 M0 = some r) : k_Met l yX12_lays cX12_lays 2 none 0 0 G shR [.ref (G.2.1 0), .int v1] M0 (k_Qv G shR r) := by
  refine k_Met_of (by decide) hap (Nat.le_of_ble_eq_true rfl) ?_
  intro p e s m args below meth c C hr hlk
  have C : Cx p s m args c cX12_lays RX12 2 G shR := C
  unfold f_X12_lays at hf
  refine k_lv (lv' := [(0, .ref (G.2.1 0)), (1, .int v1)]) [0, 1] rfl ?_
  refine k_aload_n C dX12_lays_0 0 rfl ?_
  refine k_iload_n C dX12_lays_1 1 rfl ?_
  refine k_bipush C dX12_lays_2 (v := (9 : Int32)) rfl ?_
  refine k_idiv C dX12_lays_4 (by decide) ?_
  refine k_put C shR_0 (j := 7) rfl FL_X12_111 FW_X12_7 dX12_lays_5 ?_
  refine k_aload_n C dX12_lays_8 0 rfl ?_
  refine k_iload_n C dX12_lays_9 1 rfl ?_
  refine k_bipush C dX12_lays_10 (v := (9 : Int32)) rfl ?_
  refine k_iremJ C dX12_lays_12 (by decide) ?_
  refine k_put C shR_0 (j := 8) rfl FL_X12_114 FW_X12_8 dX12_lays_13 ?_
  exact k_vret C hr hlk (Option.some.inj hf) dX12_lays_16
