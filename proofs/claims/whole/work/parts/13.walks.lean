/-! walks, printed by a program of mine: each method meets its function -/
theorem dX4_nothingDue_0 : decode cX4_nothingDue 0 = .ok (.aload_n 0, 1) := by decide +kernel
theorem dX4_nothingDue_1 : decode cX4_nothingDue 1 = .ok (.getfield 13, 3) := by decide +kernel
theorem dX4_nothingDue_4 : decode cX4_nothingDue 4 = .ok (.invokevirtual 17, 3) := by decide +kernel
theorem dX4_nothingDue_7 : decode cX4_nothingDue 7 = .ok (.lconst 1, 1) := by decide +kernel
theorem dX4_nothingDue_8 : decode cX4_nothingDue 8 = .ok (.lstore_n 3, 1) := by decide +kernel
theorem dX4_nothingDue_9 : decode cX4_nothingDue 9 = .ok (.iconst 0, 1) := by decide +kernel
theorem dX4_nothingDue_10 : decode cX4_nothingDue 10 = .ok (.istore 5, 2) := by decide +kernel
theorem dX4_nothingDue_12 : decode cX4_nothingDue 12 = .ok (.iload 5, 2) := by decide +kernel
theorem dX4_nothingDue_14 : decode cX4_nothingDue 14 = .ok (.iload_n 1, 1) := by decide +kernel
theorem dX4_nothingDue_15 : decode cX4_nothingDue 15 = .ok (.if_icmp .ge 20, 3) := by decide +kernel
theorem dX4_nothingDue_18 : decode cX4_nothingDue 18 = .ok (.lload_n 3, 1) := by decide +kernel
theorem dX4_nothingDue_19 : decode cX4_nothingDue 19 = .ok (.aload_n 0, 1) := by decide +kernel
theorem dX4_nothingDue_20 : decode cX4_nothingDue 20 = .ok (.getfield 7, 3) := by decide +kernel
theorem dX4_nothingDue_23 : decode cX4_nothingDue 23 = .ok (.getfield 22, 3) := by decide +kernel
theorem dX4_nothingDue_26 : decode cX4_nothingDue 26 = .ok (.i2l, 1) := by decide +kernel
theorem dX4_nothingDue_27 : decode cX4_nothingDue 27 = .ok (.lmul, 1) := by decide +kernel
theorem dX4_nothingDue_28 : decode cX4_nothingDue 28 = .ok (.lstore_n 3, 1) := by decide +kernel
theorem dX4_nothingDue_29 : decode cX4_nothingDue 29 = .ok (.iinc 5 1, 3) := by decide +kernel
theorem dX4_nothingDue_32 : decode cX4_nothingDue 32 = .ok (.goto (-20), 3) := by decide +kernel
theorem dX4_nothingDue_35 : decode cX4_nothingDue 35 = .ok (.aload_n 0, 1) := by decide +kernel
theorem dX4_nothingDue_36 : decode cX4_nothingDue 36 = .ok (.getfield 7, 3) := by decide +kernel
theorem dX4_nothingDue_39 : decode cX4_nothingDue 39 = .ok (.aload_n 0, 1) := by decide +kernel
theorem dX4_nothingDue_40 : decode cX4_nothingDue 40 = .ok (.getfield 13, 3) := by decide +kernel
theorem dX4_nothingDue_43 : decode cX4_nothingDue 43 = .ok (.iload_n 1, 1) := by decide +kernel
theorem dX4_nothingDue_44 : decode cX4_nothingDue 44 = .ok (.invokestatic 28, 3) := by decide +kernel
theorem dX4_nothingDue_47 : decode cX4_nothingDue 47 = .ok (.i2l, 1) := by decide +kernel
theorem dX4_nothingDue_48 : decode cX4_nothingDue 48 = .ok (.lload_n 3, 1) := by decide +kernel
theorem dX4_nothingDue_49 : decode cX4_nothingDue 49 = .ok (.iload_n 2, 1) := by decide +kernel
theorem dX4_nothingDue_50 : decode cX4_nothingDue 50 = .ok (.invokestatic 32, 3) := by decide +kernel
theorem dX4_nothingDue_53 : decode cX4_nothingDue 53 = .ok (.lreturn, 1) := by decide +kernel
set_option maxRecDepth 100000 in
set_option maxHeartbeats 4000000 in
theorem c_X4_nothingDue {l : Launch} {G : Gx} (hap : k_ap G shC.length) (v1 : Int32) (v2 : Int32) (M0 : Mem) (r : Int64 × Mem) (hf : f_X4_nothingDue v1 v2 M0 = some r) : k_Met l yX4_nothingDue cX4_nothingDue 6 (some .long) 7 164 G shC [.ref (G.2.1 42), .int v1, .int v2] M0 (k_Ql G shC r.1 r.2) := by
  refine k_Met_of (by decide) hap (Nat.le_of_ble_eq_true rfl) ?_
  intro p e s m args below meth c C hr hlk
  have C : Cx p s m args c cX4_nothingDue RX4 6 G shC := C
  have k_b12 : ∀ (n12 : Nat) (v1 : Int32) (v2 : Int32) (v3 : Int64) (v5 : Int32) (M : Mem), f_X4_nothingDue_b12 n12 v1 v2 v3 v5 M = some r → K p l e (k_rm 7 164) s m args below meth c 6 G shC (MQ below (k_Ql G shC r.1 r.2) args s 0 0 (k_A G shC.length)) 12 [(0, .ref (G.2.1 42)), (1, .int v1), (2, .int v2), (3, .long v3), (5, .int v5)] [] M := by
    intro n12
    induction n12 with
    | zero => intro v1 v2 v3 v5 M hf; simp [f_X4_nothingDue_b12] at hf
    | succ n12 ih12 =>
      intro v1 v2 v3 v5 M hf
      unfold f_X4_nothingDue_b12 at hf
      refine k_iload C dX4_nothingDue_12 4 rfl ?_
      refine k_iload_n C dX4_nothingDue_14 1 rfl ?_
      rcases ite_g hf with ⟨c2, hf⟩ | ⟨c2, hf⟩
      · refine k_icmp_ge_t C dX4_nothingDue_15 (tgt := 35) (by decide) c2 ?_
        refine k_aload_n C dX4_nothingDue_35 0 rfl ?_
        refine k_getr C shC_42 (j := 0) rfl FL_X4_7 dX4_nothingDue_36 ?_
        refine k_aload_n C dX4_nothingDue_39 0 rfl ?_
        refine k_getr C shC_42 (j := 1) rfl FL_X4_13 dX4_nothingDue_40 ?_
        refine k_iload_n C dX4_nothingDue_43 1 rfl ?_
        obtain ⟨⟨t3, M3⟩, ht3, hf⟩ := bnd hf
        replace hf := bp_s hf
        refine k_callSi C (As := [.ref (G.2.1 1), .ref (G.2.1 25), .int v1]) (c_X4_luckyRows hap v1 M (t3, M3) ht3) MS_X4_luckyRows wd_995 rfl rfl ⟨Nat.le_of_ble_eq_true rfl, Nat.le_of_ble_eq_true rfl⟩ (Nat.le_of_ble_eq_true rfl) dX4_nothingDue_44 ?_
        refine k_i2l C dX4_nothingDue_47 ?_
        refine k_lload_n C dX4_nothingDue_48 3 rfl ?_
        refine k_iload_n C dX4_nothingDue_49 2 rfl ?_
        obtain ⟨t4, ht4, hf⟩ := bnd hf
        refine k_callSl C (As := [.long (t3).toInt64, .long v3, .int v2]) (c_X4_lowest hap (t3).toInt64 v3 v2 M3 t4 ht4) MS_X4_lowest wd_1000 rfl rfl ⟨Nat.le_of_ble_eq_true rfl, Nat.le_of_ble_eq_true rfl⟩ (Nat.le_of_ble_eq_true rfl) dX4_nothingDue_50 ?_
        exact k_lret C hr hlk (prf hf) (prs hf) dX4_nothingDue_53
      · refine k_icmp_ge_f C dX4_nothingDue_15 (tgt := 35) (by decide) c2 ?_
        refine k_lload_n C dX4_nothingDue_18 3 rfl ?_
        refine k_aload_n C dX4_nothingDue_19 0 rfl ?_
        refine k_getr C shC_42 (j := 0) rfl FL_X4_7 dX4_nothingDue_20 ?_
        refine k_geti C shC_1 (j := 4) rfl FL_X4_22 dX4_nothingDue_23 ?_
        refine k_i2l C dX4_nothingDue_26 ?_
        refine k_lmul C dX4_nothingDue_27 ?_
        refine k_lstore_n C dX4_nothingDue_28 (by decide) [1, 2, 3, 0, 4] (lv' := [(0, .ref (G.2.1 42)), (1, .int v1), (2, .int v2), (3, .long (v3 * ((M.1 1 4)).toInt64)), (5, .int v5)]) rfl ?_
        refine k_iinc C dX4_nothingDue_29 4 rfl (v := (v5 + (1 : Int32))) rfl (by decide) [1, 2, 3, 4, 0] (lv' := [(0, .ref (G.2.1 42)), (1, .int v1), (2, .int v2), (3, .long (v3 * ((M.1 1 4)).toInt64)), (5, .int (v5 + (1 : Int32)))]) rfl ?_
        refine k_goto C dX4_nothingDue_32 (tgt := 12) (by decide) ?_
        exact ih12 v1 v2 (v3 * ((M.1 1 4)).toInt64) (v5 + (1 : Int32)) M hf
  unfold f_X4_nothingDue at hf
  refine k_lv (lv' := [(0, .ref (G.2.1 42)), (1, .int v1), (2, .int v2)]) [0, 1, 2] rfl ?_
  refine k_aload_n C dX4_nothingDue_0 0 rfl ?_
  refine k_getr C shC_42 (j := 1) rfl FL_X4_13 dX4_nothingDue_1 ?_
  obtain ⟨M1, hM1, hf⟩ := bnd hf
  refine k_callVv C (As := []) (c_X8_open hap M0 M1 hM1) ML_X8_open wd_994 shC_25 rfl rfl rfl ⟨Nat.le_of_ble_eq_true rfl, Nat.le_of_ble_eq_true rfl⟩ (Nat.le_of_ble_eq_true rfl) dX4_nothingDue_4 ?_
  refine k_lconst C dX4_nothingDue_7 (v := (1 : Int64)) rfl ?_
  refine k_lstore_n C dX4_nothingDue_8 (by decide) [1, 2, 3, 0] (lv' := [(0, .ref (G.2.1 42)), (1, .int v1), (2, .int v2), (3, .long (1 : Int64))]) rfl ?_
  refine k_iconst C dX4_nothingDue_9 (v := (0 : Int32)) rfl ?_
  refine k_istore C dX4_nothingDue_10 (by decide) [1, 2, 3, 4, 0] (lv' := [(0, .ref (G.2.1 42)), (1, .int v1), (2, .int v2), (3, .long (1 : Int64)), (5, .int (0 : Int32))]) rfl ?_
  exact k_b12 FU v1 v2 (1 : Int64) (0 : Int32) M1 hf
theorem dX8_openBehindLog_0 : decode cX8_openBehindLog 0 = .ok (.aload_n 0, 1) := by decide +kernel
theorem dX8_openBehindLog_1 : decode cX8_openBehindLog 1 = .ok (.invokevirtual 45, 3) := by decide +kernel
theorem dX8_openBehindLog_4 : decode cX8_openBehindLog 4 = .ok (.aload_n 0, 1) := by decide +kernel
theorem dX8_openBehindLog_5 : decode cX8_openBehindLog 5 = .ok (.invokevirtual 48, 3) := by decide +kernel
theorem dX8_openBehindLog_8 : decode cX8_openBehindLog 8 = .ok (.pop, 1) := by decide +kernel
theorem dX8_openBehindLog_9 : decode cX8_openBehindLog 9 = .ok (.return_, 1) := by decide +kernel
set_option maxRecDepth 100000 in
set_option maxHeartbeats 4000000 in
theorem c_X8_openBehindLog {l : Launch} {G : Gx} (hap : k_ap G shC.length) (M0 : Mem) (r : Mem) (hf : f_X8_openBehindLog M0 = some r) : k_Met l yX8_openBehindLog cX8_openBehindLog 1 none 4 88 G shC [.ref (G.2.1 25)] M0 (k_Qv G shC r) := by
  refine k_Met_of (by decide) hap (Nat.le_of_ble_eq_true rfl) ?_
  intro p e s m args below meth c C hr hlk
  have C : Cx p s m args c cX8_openBehindLog RX8 1 G shC := C
  unfold f_X8_openBehindLog at hf
  refine k_lv (lv' := [(0, .ref (G.2.1 25))]) [0] rfl ?_
  refine k_aload_n C dX8_openBehindLog_0 0 rfl ?_
  obtain ⟨M1, hM1, hf⟩ := bnd hf
  refine k_callVv C (As := []) (c_X8_open hap M0 M1 hM1) ML_X8_open wd_563 shC_25 rfl rfl rfl ⟨Nat.le_of_ble_eq_true rfl, Nat.le_of_ble_eq_true rfl⟩ (Nat.le_of_ble_eq_true rfl) dX8_openBehindLog_1 ?_
  refine k_aload_n C dX8_openBehindLog_4 0 rfl ?_
  obtain ⟨⟨t2, M2⟩, ht2, hf⟩ := bnd hf
  replace hf := bp_s hf
  refine k_callVi C (As := []) (c_X8_walkLog hap M1 (t2, M2) ht2) ML_X8_walkLog wd_588 shC_25 rfl rfl rfl ⟨Nat.le_of_ble_eq_true rfl, Nat.le_of_ble_eq_true rfl⟩ (Nat.le_of_ble_eq_true rfl) dX8_openBehindLog_5 ?_
  refine k_pop C dX8_openBehindLog_8 rfl ?_
  exact k_vret C hr hlk (Option.some.inj hf) dX8_openBehindLog_9
theorem dX4_meanNext_0 : decode cX4_meanNext 0 = .ok (.aload_n 0, 1) := by decide +kernel
theorem dX4_meanNext_1 : decode cX4_meanNext 1 = .ok (.getfield 13, 3) := by decide +kernel
theorem dX4_meanNext_4 : decode cX4_meanNext 4 = .ok (.invokevirtual 44, 3) := by decide +kernel
theorem dX4_meanNext_7 : decode cX4_meanNext 7 = .ok (.lconst 0, 1) := by decide +kernel
theorem dX4_meanNext_8 : decode cX4_meanNext 8 = .ok (.lstore_n 2, 1) := by decide +kernel
theorem dX4_meanNext_9 : decode cX4_meanNext 9 = .ok (.iconst 0, 1) := by decide +kernel
theorem dX4_meanNext_10 : decode cX4_meanNext 10 = .ok (.istore 4, 2) := by decide +kernel
theorem dX4_meanNext_12 : decode cX4_meanNext 12 = .ok (.iload 4, 2) := by decide +kernel
theorem dX4_meanNext_14 : decode cX4_meanNext 14 = .ok (.aload_n 0, 1) := by decide +kernel
theorem dX4_meanNext_15 : decode cX4_meanNext 15 = .ok (.getfield 7, 3) := by decide +kernel
theorem dX4_meanNext_18 : decode cX4_meanNext 18 = .ok (.getfield 22, 3) := by decide +kernel
theorem dX4_meanNext_21 : decode cX4_meanNext 21 = .ok (.if_icmp .ge 22, 3) := by decide +kernel
theorem dX4_meanNext_24 : decode cX4_meanNext 24 = .ok (.lload_n 2, 1) := by decide +kernel
theorem dX4_meanNext_25 : decode cX4_meanNext 25 = .ok (.aload_n 0, 1) := by decide +kernel
theorem dX4_meanNext_26 : decode cX4_meanNext 26 = .ok (.getfield 13, 3) := by decide +kernel
theorem dX4_meanNext_29 : decode cX4_meanNext 29 = .ok (.iload 4, 2) := by decide +kernel
theorem dX4_meanNext_31 : decode cX4_meanNext 31 = .ok (.invokevirtual 36, 3) := by decide +kernel
theorem dX4_meanNext_34 : decode cX4_meanNext 34 = .ok (.i2l, 1) := by decide +kernel
theorem dX4_meanNext_35 : decode cX4_meanNext 35 = .ok (.ladd, 1) := by decide +kernel
theorem dX4_meanNext_36 : decode cX4_meanNext 36 = .ok (.lstore_n 2, 1) := by decide +kernel
theorem dX4_meanNext_37 : decode cX4_meanNext 37 = .ok (.iinc 4 1, 3) := by decide +kernel
theorem dX4_meanNext_40 : decode cX4_meanNext 40 = .ok (.goto (-28), 3) := by decide +kernel
theorem dX4_meanNext_43 : decode cX4_meanNext 43 = .ok (.lload_n 2, 1) := by decide +kernel
theorem dX4_meanNext_44 : decode cX4_meanNext 44 = .ok (.aload_n 0, 1) := by decide +kernel
theorem dX4_meanNext_45 : decode cX4_meanNext 45 = .ok (.getfield 7, 3) := by decide +kernel
theorem dX4_meanNext_48 : decode cX4_meanNext 48 = .ok (.getfield 22, 3) := by decide +kernel
theorem dX4_meanNext_51 : decode cX4_meanNext 51 = .ok (.i2l, 1) := by decide +kernel
theorem dX4_meanNext_52 : decode cX4_meanNext 52 = .ok (.iload_n 1, 1) := by decide +kernel
theorem dX4_meanNext_53 : decode cX4_meanNext 53 = .ok (.invokestatic 32, 3) := by decide +kernel
theorem dX4_meanNext_56 : decode cX4_meanNext 56 = .ok (.lreturn, 1) := by decide +kernel
set_option maxRecDepth 100000 in
set_option maxHeartbeats 4000000 in
theorem c_X4_meanNext {l : Launch} {G : Gx} (hap : k_ap G shC.length) (v1 : Int32) (M0 : Mem) (r : Int64 × Mem) (hf : f_X4_meanNext v1 M0 = some r) : k_Met l yX4_meanNext cX4_meanNext 5 (some .long) 5 108 G shC [.ref (G.2.1 42), .int v1] M0 (k_Ql G shC r.1 r.2) := by
  refine k_Met_of (by decide) hap (Nat.le_of_ble_eq_true rfl) ?_
  intro p e s m args below meth c C hr hlk
  have C : Cx p s m args c cX4_meanNext RX4 5 G shC := C
  have k_b12 : ∀ (n12 : Nat) (v1 : Int32) (v2 : Int64) (v4 : Int32) (M : Mem), f_X4_meanNext_b12 n12 v1 v2 v4 M = some r → K p l e (k_rm 5 108) s m args below meth c 5 G shC (MQ below (k_Ql G shC r.1 r.2) args s 0 0 (k_A G shC.length)) 12 [(0, .ref (G.2.1 42)), (1, .int v1), (2, .long v2), (4, .int v4)] [] M := by
    intro n12
    induction n12 with
    | zero => intro v1 v2 v4 M hf; simp [f_X4_meanNext_b12] at hf
    | succ n12 ih12 =>
      intro v1 v2 v4 M hf
      unfold f_X4_meanNext_b12 at hf
      refine k_iload C dX4_meanNext_12 3 rfl ?_
      refine k_aload_n C dX4_meanNext_14 0 rfl ?_
      refine k_getr C shC_42 (j := 0) rfl FL_X4_7 dX4_meanNext_15 ?_
      refine k_geti C shC_1 (j := 4) rfl FL_X4_22 dX4_meanNext_18 ?_
      rcases ite_g hf with ⟨c3, hf⟩ | ⟨c3, hf⟩
      · refine k_icmp_ge_t C dX4_meanNext_21 (tgt := 43) (by decide) c3 ?_
        refine k_lload_n C dX4_meanNext_43 2 rfl ?_
        refine k_aload_n C dX4_meanNext_44 0 rfl ?_
        refine k_getr C shC_42 (j := 0) rfl FL_X4_7 dX4_meanNext_45 ?_
        refine k_geti C shC_1 (j := 4) rfl FL_X4_22 dX4_meanNext_48 ?_
        refine k_i2l C dX4_meanNext_51 ?_
        refine k_iload_n C dX4_meanNext_52 1 rfl ?_
        obtain ⟨t4, ht4, hf⟩ := bnd hf
        refine k_callSl C (As := [.long v2, .long ((M.1 1 4)).toInt64, .int v1]) (c_X4_lowest hap v2 ((M.1 1 4)).toInt64 v1 M t4 ht4) MS_X4_lowest wd_1000 rfl rfl ⟨Nat.le_of_ble_eq_true rfl, Nat.le_of_ble_eq_true rfl⟩ (Nat.le_of_ble_eq_true rfl) dX4_meanNext_53 ?_
        exact k_lret C hr hlk (prf hf) (prs hf) dX4_meanNext_56
      · refine k_icmp_ge_f C dX4_meanNext_21 (tgt := 43) (by decide) c3 ?_
        refine k_lload_n C dX4_meanNext_24 2 rfl ?_
        refine k_aload_n C dX4_meanNext_25 0 rfl ?_
        refine k_getr C shC_42 (j := 1) rfl FL_X4_13 dX4_meanNext_26 ?_
        refine k_iload C dX4_meanNext_29 3 rfl ?_
        obtain ⟨t5, ht5, hf⟩ := bnd hf
        refine k_callVi C (As := [.int v4]) (c_X8_dueNow hap v4 M t5 ht5) ML_X8_dueNow wd_998 shC_25 rfl rfl rfl ⟨Nat.le_of_ble_eq_true rfl, Nat.le_of_ble_eq_true rfl⟩ (Nat.le_of_ble_eq_true rfl) dX4_meanNext_31 ?_
        refine k_i2l C dX4_meanNext_34 ?_
        refine k_ladd C dX4_meanNext_35 ?_
        refine k_lstore_n C dX4_meanNext_36 (by decide) [1, 2, 0, 3] (lv' := [(0, .ref (G.2.1 42)), (1, .int v1), (2, .long (v2 + (t5).toInt64)), (4, .int v4)]) rfl ?_
        refine k_iinc C dX4_meanNext_37 3 rfl (v := (v4 + (1 : Int32))) rfl (by decide) [1, 2, 3, 0] (lv' := [(0, .ref (G.2.1 42)), (1, .int v1), (2, .long (v2 + (t5).toInt64)), (4, .int (v4 + (1 : Int32)))]) rfl ?_
        refine k_goto C dX4_meanNext_40 (tgt := 12) (by decide) ?_
        exact ih12 v1 (v2 + (t5).toInt64) (v4 + (1 : Int32)) M hf
  unfold f_X4_meanNext at hf
  refine k_lv (lv' := [(0, .ref (G.2.1 42)), (1, .int v1)]) [0, 1] rfl ?_
  refine k_aload_n C dX4_meanNext_0 0 rfl ?_
  refine k_getr C shC_42 (j := 1) rfl FL_X4_13 dX4_meanNext_1 ?_
  obtain ⟨M1, hM1, hf⟩ := bnd hf
  refine k_callVv C (As := []) (c_X8_openBehindLog hap M0 M1 hM1) ML_X8_openBehindLog wd_1014 shC_25 rfl rfl rfl ⟨Nat.le_of_ble_eq_true rfl, Nat.le_of_ble_eq_true rfl⟩ (Nat.le_of_ble_eq_true rfl) dX4_meanNext_4 ?_
  refine k_lconst C dX4_meanNext_7 (v := (0 : Int64)) rfl ?_
  refine k_lstore_n C dX4_meanNext_8 (by decide) [1, 2, 0] (lv' := [(0, .ref (G.2.1 42)), (1, .int v1), (2, .long (0 : Int64))]) rfl ?_
  refine k_iconst C dX4_meanNext_9 (v := (0 : Int32)) rfl ?_
  refine k_istore C dX4_meanNext_10 (by decide) [1, 2, 3, 0] (lv' := [(0, .ref (G.2.1 42)), (1, .int v1), (2, .long (0 : Int64)), (4, .int (0 : Int32))]) rfl ?_
  exact k_b12 FU v1 (0 : Int64) (0 : Int32) M1 hf
theorem dX4_weeks_0 : decode cX4_weeks 0 = .ok (.aload_n 0, 1) := by decide +kernel
theorem dX4_weeks_1 : decode cX4_weeks 1 = .ok (.getfield 13, 3) := by decide +kernel
theorem dX4_weeks_4 : decode cX4_weeks 4 = .ok (.invokevirtual 17, 3) := by decide +kernel
theorem dX4_weeks_7 : decode cX4_weeks 7 = .ok (.iload_n 2, 1) := by decide +kernel
theorem dX4_weeks_8 : decode cX4_weeks 8 = .ok (.istore 4, 2) := by decide +kernel
theorem dX4_weeks_10 : decode cX4_weeks 10 = .ok (.iconst 0, 1) := by decide +kernel
theorem dX4_weeks_11 : decode cX4_weeks 11 = .ok (.istore 5, 2) := by decide +kernel
theorem dX4_weeks_13 : decode cX4_weeks 13 = .ok (.iconst 0, 1) := by decide +kernel
theorem dX4_weeks_14 : decode cX4_weeks 14 = .ok (.istore 6, 2) := by decide +kernel
theorem dX4_weeks_16 : decode cX4_weeks 16 = .ok (.iconst 0, 1) := by decide +kernel
theorem dX4_weeks_17 : decode cX4_weeks 17 = .ok (.istore 7, 2) := by decide +kernel
theorem dX4_weeks_19 : decode cX4_weeks 19 = .ok (.iload 7, 2) := by decide +kernel
theorem dX4_weeks_21 : decode cX4_weeks 21 = .ok (.iload_n 1, 1) := by decide +kernel
theorem dX4_weeks_22 : decode cX4_weeks 22 = .ok (.if_icmp .ge 106, 3) := by decide +kernel
theorem dX4_weeks_25 : decode cX4_weeks 25 = .ok (.aload_n 0, 1) := by decide +kernel
theorem dX4_weeks_26 : decode cX4_weeks 26 = .ok (.getfield 7, 3) := by decide +kernel
theorem dX4_weeks_29 : decode cX4_weeks 29 = .ok (.getfield 22, 3) := by decide +kernel
theorem dX4_weeks_32 : decode cX4_weeks 32 = .ok (.ifCond .le 96, 3) := by decide +kernel
theorem dX4_weeks_35 : decode cX4_weeks 35 = .ok (.aload_n 0, 1) := by decide +kernel
theorem dX4_weeks_36 : decode cX4_weeks 36 = .ok (.getfield 13, 3) := by decide +kernel
theorem dX4_weeks_39 : decode cX4_weeks 39 = .ok (.invokevirtual 53, 3) := by decide +kernel
theorem dX4_weeks_42 : decode cX4_weeks 42 = .ok (.iconst 0, 1) := by decide +kernel
theorem dX4_weeks_43 : decode cX4_weeks 43 = .ok (.istore 8, 2) := by decide +kernel
theorem dX4_weeks_45 : decode cX4_weeks 45 = .ok (.iconst 0, 1) := by decide +kernel
theorem dX4_weeks_46 : decode cX4_weeks 46 = .ok (.istore 9, 2) := by decide +kernel
theorem dX4_weeks_48 : decode cX4_weeks 48 = .ok (.iload 9, 2) := by decide +kernel
theorem dX4_weeks_50 : decode cX4_weeks 50 = .ok (.bipush 12, 2) := by decide +kernel
theorem dX4_weeks_52 : decode cX4_weeks 52 = .ok (.if_icmp .ge 48, 3) := by decide +kernel
theorem dX4_weeks_55 : decode cX4_weeks 55 = .ok (.iload 4, 2) := by decide +kernel
theorem dX4_weeks_57 : decode cX4_weeks 57 = .ok (.ldc 56, 2) := by decide +kernel
theorem dX4_weeks_59 : decode cX4_weeks 59 = .ok (.imul, 1) := by decide +kernel
theorem dX4_weeks_60 : decode cX4_weeks 60 = .ok (.sipush 12345, 3) := by decide +kernel
theorem dX4_weeks_63 : decode cX4_weeks 63 = .ok (.iadd, 1) := by decide +kernel
theorem dX4_weeks_64 : decode cX4_weeks 64 = .ok (.istore 4, 2) := by decide +kernel
theorem dX4_weeks_66 : decode cX4_weeks 66 = .ok (.iload 8, 2) := by decide +kernel
theorem dX4_weeks_68 : decode cX4_weeks 68 = .ok (.aload_n 0, 1) := by decide +kernel
theorem dX4_weeks_69 : decode cX4_weeks 69 = .ok (.getfield 13, 3) := by decide +kernel
theorem dX4_weeks_72 : decode cX4_weeks 72 = .ok (.iload 4, 2) := by decide +kernel
theorem dX4_weeks_74 : decode cX4_weeks 74 = .ok (.ldc 57, 2) := by decide +kernel
theorem dX4_weeks_76 : decode cX4_weeks 76 = .ok (.iand, 1) := by decide +kernel
theorem dX4_weeks_77 : decode cX4_weeks 77 = .ok (.ldc 58, 2) := by decide +kernel
theorem dX4_weeks_79 : decode cX4_weeks 79 = .ok (.idiv, 1) := by decide +kernel
theorem dX4_weeks_80 : decode cX4_weeks 80 = .ok (.aload_n 0, 1) := by decide +kernel
theorem dX4_weeks_81 : decode cX4_weeks 81 = .ok (.getfield 7, 3) := by decide +kernel
theorem dX4_weeks_84 : decode cX4_weeks 84 = .ok (.getfield 22, 3) := by decide +kernel
theorem dX4_weeks_87 : decode cX4_weeks 87 = .ok (.irem, 1) := by decide +kernel
theorem dX4_weeks_88 : decode cX4_weeks 88 = .ok (.invokevirtual 59, 3) := by decide +kernel
theorem dX4_weeks_91 : decode cX4_weeks 91 = .ok (.iadd, 1) := by decide +kernel
theorem dX4_weeks_92 : decode cX4_weeks 92 = .ok (.istore 8, 2) := by decide +kernel
theorem dX4_weeks_94 : decode cX4_weeks 94 = .ok (.iinc 9 1, 3) := by decide +kernel
theorem dX4_weeks_97 : decode cX4_weeks 97 = .ok (.goto (-49), 3) := by decide +kernel
theorem dX4_weeks_100 : decode cX4_weeks 100 = .ok (.iload 5, 2) := by decide +kernel
theorem dX4_weeks_102 : decode cX4_weeks 102 = .ok (.iload 8, 2) := by decide +kernel
theorem dX4_weeks_104 : decode cX4_weeks 104 = .ok (.iadd, 1) := by decide +kernel
theorem dX4_weeks_105 : decode cX4_weeks 105 = .ok (.istore 5, 2) := by decide +kernel
theorem dX4_weeks_107 : decode cX4_weeks 107 = .ok (.iload 6, 2) := by decide +kernel
theorem dX4_weeks_109 : decode cX4_weeks 109 = .ok (.iload 8, 2) := by decide +kernel
theorem dX4_weeks_111 : decode cX4_weeks 111 = .ok (.ifCond .ne 7, 3) := by decide +kernel
theorem dX4_weeks_114 : decode cX4_weeks 114 = .ok (.iconst 1, 1) := by decide +kernel
theorem dX4_weeks_115 : decode cX4_weeks 115 = .ok (.goto 4, 3) := by decide +kernel
theorem dX4_weeks_118 : decode cX4_weeks 118 = .ok (.iconst 0, 1) := by decide +kernel
theorem dX4_weeks_119 : decode cX4_weeks 119 = .ok (.iadd, 1) := by decide +kernel
theorem dX4_weeks_120 : decode cX4_weeks 120 = .ok (.istore 6, 2) := by decide +kernel
theorem dX4_weeks_122 : decode cX4_weeks 122 = .ok (.iinc 7 1, 3) := by decide +kernel
theorem dX4_weeks_125 : decode cX4_weeks 125 = .ok (.goto (-106), 3) := by decide +kernel
theorem dX4_weeks_128 : decode cX4_weeks 128 = .ok (.iload_n 3, 1) := by decide +kernel
theorem dX4_weeks_129 : decode cX4_weeks 129 = .ok (.ifCond .ne 8, 3) := by decide +kernel
theorem dX4_weeks_132 : decode cX4_weeks 132 = .ok (.iload 5, 2) := by decide +kernel
theorem dX4_weeks_134 : decode cX4_weeks 134 = .ok (.goto 5, 3) := by decide +kernel
theorem dX4_weeks_137 : decode cX4_weeks 137 = .ok (.iload 6, 2) := by decide +kernel
theorem dX4_weeks_139 : decode cX4_weeks 139 = .ok (.ireturn, 1) := by decide +kernel
set_option maxRecDepth 100000 in
set_option maxHeartbeats 4000000 in
theorem c_X4_weeks {l : Launch} {G : Gx} (hap : k_ap G shC.length) (v1 : Int32) (v2 : Int32) (v3 : Int32) (M0 : Mem) (r : Int32 × Mem) (hf : f_X4_weeks v1 v2 v3 M0 = some r) : k_Met l yX4_weeks cX4_weeks 10 (some .int) 4 88 G shC [.ref (G.2.1 42), .int v1, .int v2, .int v3] M0 (k_Qi G shC r.1 r.2) := by
  refine k_Met_of (by decide) hap (Nat.le_of_ble_eq_true rfl) ?_
  intro p e s m args below meth c C hr hlk
  have C : Cx p s m args c cX4_weeks RX4 10 G shC := C
  have k_b128 : ∀ (v3 : Int32) (v5 : Int32) (v6 : Int32) (M : Mem), f_X4_weeks_b128 v3 v5 v6 M = some r → K p l e (k_rm 4 88) s m args below meth c 10 G shC (MQ below (k_Qi G shC r.1 r.2) args s 0 0 (k_A G shC.length)) 128 [(3, .int v3), (5, .int v5), (6, .int v6)] [] M := by
    intro v3 v5 v6 M hf
    unfold f_X4_weeks_b128 at hf
    refine k_iload_n C dX4_weeks_128 0 rfl ?_
    rcases ite_g hf with ⟨c4, hf⟩ | ⟨c4, hf⟩
    · refine k_if_ne_f C dX4_weeks_129 (tgt := 137) (by decide) c4 ?_
      refine k_iload C dX4_weeks_132 1 rfl ?_
      refine k_goto C dX4_weeks_134 (tgt := 139) (by decide) ?_
      exact k_iret C hr hlk (prf hf) (prs hf) dX4_weeks_139
    · refine k_if_ne_t C dX4_weeks_129 (tgt := 137) (by decide) c4 ?_
      refine k_iload C dX4_weeks_137 2 rfl ?_
      exact k_iret C hr hlk (prf hf) (prs hf) dX4_weeks_139
  have k_b19 : ∀ (n19 : Nat) (v1 : Int32) (v3 : Int32) (v4 : Int32) (v5 : Int32) (v6 : Int32) (v7 : Int32) (M : Mem), f_X4_weeks_b19 n19 v1 v3 v4 v5 v6 v7 M = some r → K p l e (k_rm 4 88) s m args below meth c 10 G shC (MQ below (k_Qi G shC r.1 r.2) args s 0 0 (k_A G shC.length)) 19 [(0, .ref (G.2.1 42)), (1, .int v1), (3, .int v3), (4, .int v4), (5, .int v5), (6, .int v6), (7, .int v7)] [] M := by
    intro n19
    induction n19 with
    | zero => intro v1 v3 v4 v5 v6 v7 M hf; simp [f_X4_weeks_b19] at hf
    | succ n19 ih19 =>
      have k_b48 : ∀ (n48 : Nat) (v1 : Int32) (v3 : Int32) (v4 : Int32) (v5 : Int32) (v6 : Int32) (v7 : Int32) (v8 : Int32) (v9 : Int32) (M : Mem), f_X4_weeks_b48 (f_X4_weeks_b19 n19) n48 v1 v3 v4 v5 v6 v7 v8 v9 M = some r → K p l e (k_rm 4 88) s m args below meth c 10 G shC (MQ below (k_Qi G shC r.1 r.2) args s 0 0 (k_A G shC.length)) 48 [(0, .ref (G.2.1 42)), (1, .int v1), (3, .int v3), (4, .int v4), (5, .int v5), (6, .int v6), (7, .int v7), (8, .int v8), (9, .int v9)] [] M := by
        intro n48
        induction n48 with
        | zero => intro v1 v3 v4 v5 v6 v7 v8 v9 M hf; simp [f_X4_weeks_b48] at hf
        | succ n48 ih48 =>
          intro v1 v3 v4 v5 v6 v7 v8 v9 M hf
          unfold f_X4_weeks_b48 at hf
          refine k_iload C dX4_weeks_48 8 rfl ?_
          refine k_bipush C dX4_weeks_50 (v := (12 : Int32)) rfl ?_
          rcases ite_g hf with ⟨c8, hf⟩ | ⟨c8, hf⟩
          · refine k_icmp_ge_t C dX4_weeks_52 (tgt := 100) (by decide) c8 ?_
            refine k_iload C dX4_weeks_100 4 rfl ?_
            refine k_iload C dX4_weeks_102 7 rfl ?_
            refine k_iadd C dX4_weeks_104 ?_
            refine k_istore C dX4_weeks_105 (by decide) [1, 2, 3, 4, 0, 5, 6, 7] (lv' := [(0, .ref (G.2.1 42)), (1, .int v1), (3, .int v3), (4, .int v4), (5, .int (v5 + v8)), (6, .int v6), (7, .int v7), (8, .int v8)]) rfl ?_
            refine k_iload C dX4_weeks_107 5 rfl ?_
            refine k_iload C dX4_weeks_109 7 rfl ?_
            have hj9 : K p l e (k_rm 4 88) s m args below meth c 10 G shC (MQ below (k_Qi G shC r.1 r.2) args s 0 0 (k_A G shC.length)) 119 [(0, .ref (G.2.1 42)), (1, .int v1), (3, .int v3), (4, .int v4), (5, .int (v5 + v8)), (6, .int v6), (7, .int v7), (8, .int v8)] [.int (if v8 = 0 then (1 : Int32) else (0 : Int32)), .int v6] M := by
              refine k_iadd C dX4_weeks_119 ?_
              refine k_istore C dX4_weeks_120 (by decide) [1, 2, 3, 4, 5, 0, 6] (lv' := [(0, .ref (G.2.1 42)), (1, .int v1), (3, .int v3), (4, .int v4), (5, .int (v5 + v8)), (6, .int (v6 + (if v8 = 0 then (1 : Int32) else (0 : Int32)))), (7, .int v7)]) rfl ?_
              refine k_iinc C dX4_weeks_122 6 rfl (v := (v7 + (1 : Int32))) rfl (by decide) [1, 2, 3, 4, 5, 6, 0] (lv' := [(0, .ref (G.2.1 42)), (1, .int v1), (3, .int v3), (4, .int v4), (5, .int (v5 + v8)), (6, .int (v6 + (if v8 = 0 then (1 : Int32) else (0 : Int32)))), (7, .int (v7 + (1 : Int32)))]) rfl ?_
              refine k_goto C dX4_weeks_125 (tgt := 19) (by decide) ?_
              exact ih19 v1 v3 v4 (v5 + v8) (v6 + (if v8 = 0 then (1 : Int32) else (0 : Int32))) (v7 + (1 : Int32)) M hf
            by_cases c10 : v8 = 0
            · refine k_if_ne_f C dX4_weeks_111 (tgt := 118) (by decide) c10 ?_
              refine k_iconst C dX4_weeks_114 (v := (1 : Int32)) rfl ?_
              refine k_goto C dX4_weeks_115 (tgt := 119) (by decide) ?_
              exact k_val (by rw [if_pos c10]) hj9
            · refine k_if_ne_t C dX4_weeks_111 (tgt := 118) (by decide) c10 ?_
              refine k_iconst C dX4_weeks_118 (v := (0 : Int32)) rfl ?_
              exact k_val (by rw [if_neg c10]) hj9
          · refine k_icmp_ge_f C dX4_weeks_52 (tgt := 100) (by decide) c8 ?_
            refine k_iload C dX4_weeks_55 3 rfl ?_
            refine k_ldc C dX4_weeks_57 wd_1243 ?_
            refine k_imul C dX4_weeks_59 ?_
            refine k_sipush C dX4_weeks_60 (v := (12345 : Int32)) rfl ?_
            refine k_iadd C dX4_weeks_63 ?_
            refine k_istore C dX4_weeks_64 (by decide) [1, 2, 3, 0, 4, 5, 6, 7, 8] (lv' := [(0, .ref (G.2.1 42)), (1, .int v1), (3, .int v3), (4, .int ((v4 * (1103515245 : Int32)) + (12345 : Int32))), (5, .int v5), (6, .int v6), (7, .int v7), (8, .int v8), (9, .int v9)]) rfl ?_
            refine k_iload C dX4_weeks_66 7 rfl ?_
            refine k_aload_n C dX4_weeks_68 0 rfl ?_
            refine k_getr C shC_42 (j := 1) rfl FL_X4_13 dX4_weeks_69 ?_
            refine k_iload C dX4_weeks_72 3 rfl ?_
            refine k_ldc C dX4_weeks_74 wd_1244 ?_
            refine k_iand C dX4_weeks_76 ?_
            refine k_ldc C dX4_weeks_77 wd_1245 ?_
            refine k_idiv C dX4_weeks_79 (by decide) ?_
            refine k_aload_n C dX4_weeks_80 0 rfl ?_
            refine k_getr C shC_42 (j := 0) rfl FL_X4_7 dX4_weeks_81 ?_
            refine k_geti C shC_1 (j := 4) rfl FL_X4_22 dX4_weeks_84 ?_
            obtain ⟨t11, ht11, hf⟩ := bnd hf
            refine k_iremO C dX4_weeks_87 ht11 ?_
            obtain ⟨⟨t12, M12⟩, ht12, hf⟩ := bnd hf
            replace hf := bp_s hf
            refine k_callVi C (As := [.int t11]) (c_X8_step hap t11 M (t12, M12) ht12) ML_X8_step wd_1246 shC_25 rfl rfl rfl ⟨Nat.le_of_ble_eq_true rfl, Nat.le_of_ble_eq_true rfl⟩ (Nat.le_of_ble_eq_true rfl) dX4_weeks_88 ?_
            refine k_iadd C dX4_weeks_91 ?_
            refine k_istore C dX4_weeks_92 (by decide) [1, 2, 3, 4, 5, 6, 7, 0, 8] (lv' := [(0, .ref (G.2.1 42)), (1, .int v1), (3, .int v3), (4, .int ((v4 * (1103515245 : Int32)) + (12345 : Int32))), (5, .int v5), (6, .int v6), (7, .int v7), (8, .int (v8 + t12)), (9, .int v9)]) rfl ?_
            refine k_iinc C dX4_weeks_94 8 rfl (v := (v9 + (1 : Int32))) rfl (by decide) [1, 2, 3, 4, 5, 6, 7, 8, 0] (lv' := [(0, .ref (G.2.1 42)), (1, .int v1), (3, .int v3), (4, .int ((v4 * (1103515245 : Int32)) + (12345 : Int32))), (5, .int v5), (6, .int v6), (7, .int v7), (8, .int (v8 + t12)), (9, .int (v9 + (1 : Int32)))]) rfl ?_
            refine k_goto C dX4_weeks_97 (tgt := 48) (by decide) ?_
            exact ih48 v1 v3 ((v4 * (1103515245 : Int32)) + (12345 : Int32)) v5 v6 v7 (v8 + t12) (v9 + (1 : Int32)) M12 hf
      intro v1 v3 v4 v5 v6 v7 M hf
      unfold f_X4_weeks_b19 at hf
      refine k_iload C dX4_weeks_19 6 rfl ?_
      refine k_iload_n C dX4_weeks_21 1 rfl ?_
      rcases ite_g hf with ⟨c3, hf⟩ | ⟨c3, hf⟩
      · refine k_icmp_ge_t C dX4_weeks_22 (tgt := 128) (by decide) c3 ?_
        refine k_lv [2, 4, 5] rfl ?_
        exact k_b128 v3 v5 v6 M hf
      · refine k_icmp_ge_f C dX4_weeks_22 (tgt := 128) (by decide) c3 ?_
        refine k_aload_n C dX4_weeks_25 0 rfl ?_
        refine k_getr C shC_42 (j := 0) rfl FL_X4_7 dX4_weeks_26 ?_
        refine k_geti C shC_1 (j := 4) rfl FL_X4_22 dX4_weeks_29 ?_
        rcases ite_g hf with ⟨c6, hf⟩ | ⟨c6, hf⟩
        · refine k_if_le_t C dX4_weeks_32 (tgt := 128) (by decide) c6 ?_
          refine k_lv [2, 4, 5] rfl ?_
          exact k_b128 v3 v5 v6 M hf
        · refine k_if_le_f C dX4_weeks_32 (tgt := 128) (by decide) c6 ?_
          refine k_aload_n C dX4_weeks_35 0 rfl ?_
          refine k_getr C shC_42 (j := 1) rfl FL_X4_13 dX4_weeks_36 ?_
          obtain ⟨M7, hM7, hf⟩ := bnd hf
          refine k_callVv C (As := []) (c_X8_forgetSteps hap M M7 hM7) ML_X8_forgetSteps wd_1242 shC_25 rfl rfl rfl ⟨Nat.le_of_ble_eq_true rfl, Nat.le_of_ble_eq_true rfl⟩ (Nat.le_of_ble_eq_true rfl) dX4_weeks_39 ?_
          refine k_iconst C dX4_weeks_42 (v := (0 : Int32)) rfl ?_
          refine k_istore C dX4_weeks_43 (by decide) [1, 2, 3, 4, 5, 6, 7, 0] (lv' := [(0, .ref (G.2.1 42)), (1, .int v1), (3, .int v3), (4, .int v4), (5, .int v5), (6, .int v6), (7, .int v7), (8, .int (0 : Int32))]) rfl ?_
          refine k_iconst C dX4_weeks_45 (v := (0 : Int32)) rfl ?_
          refine k_istore C dX4_weeks_46 (by decide) [1, 2, 3, 4, 5, 6, 7, 8, 0] (lv' := [(0, .ref (G.2.1 42)), (1, .int v1), (3, .int v3), (4, .int v4), (5, .int v5), (6, .int v6), (7, .int v7), (8, .int (0 : Int32)), (9, .int (0 : Int32))]) rfl ?_
          exact k_b48 FU v1 v3 v4 v5 v6 v7 (0 : Int32) (0 : Int32) M7 hf
  unfold f_X4_weeks at hf
  refine k_lv (lv' := [(0, .ref (G.2.1 42)), (1, .int v1), (2, .int v2), (3, .int v3)]) [0, 1, 2, 3] rfl ?_
  refine k_aload_n C dX4_weeks_0 0 rfl ?_
  refine k_getr C shC_42 (j := 1) rfl FL_X4_13 dX4_weeks_1 ?_
  obtain ⟨M1, hM1, hf⟩ := bnd hf
  refine k_callVv C (As := []) (c_X8_open hap M0 M1 hM1) ML_X8_open wd_994 shC_25 rfl rfl rfl ⟨Nat.le_of_ble_eq_true rfl, Nat.le_of_ble_eq_true rfl⟩ (Nat.le_of_ble_eq_true rfl) dX4_weeks_4 ?_
  refine k_iload_n C dX4_weeks_7 2 rfl ?_
  refine k_istore C dX4_weeks_8 (by decide) [1, 2, 4, 0] (lv' := [(0, .ref (G.2.1 42)), (1, .int v1), (3, .int v3), (4, .int v2)]) rfl ?_
  refine k_iconst C dX4_weeks_10 (v := (0 : Int32)) rfl ?_
  refine k_istore C dX4_weeks_11 (by decide) [1, 2, 3, 4, 0] (lv' := [(0, .ref (G.2.1 42)), (1, .int v1), (3, .int v3), (4, .int v2), (5, .int (0 : Int32))]) rfl ?_
  refine k_iconst C dX4_weeks_13 (v := (0 : Int32)) rfl ?_
  refine k_istore C dX4_weeks_14 (by decide) [1, 2, 3, 4, 5, 0] (lv' := [(0, .ref (G.2.1 42)), (1, .int v1), (3, .int v3), (4, .int v2), (5, .int (0 : Int32)), (6, .int (0 : Int32))]) rfl ?_
  refine k_iconst C dX4_weeks_16 (v := (0 : Int32)) rfl ?_
  refine k_istore C dX4_weeks_17 (by decide) [1, 2, 3, 4, 5, 6, 0] (lv' := [(0, .ref (G.2.1 42)), (1, .int v1), (3, .int v3), (4, .int v2), (5, .int (0 : Int32)), (6, .int (0 : Int32)), (7, .int (0 : Int32))]) rfl ?_
  exact k_b19 FU v1 v3 v2 (0 : Int32) (0 : Int32) (0 : Int32) M1 hf
theorem dX5_allCounted_0 : decode cX5_allCounted 0 = .ok (.iconst 0, 1) := by decide +kernel
theorem dX5_allCounted_1 : decode cX5_allCounted 1 = .ok (.istore_n 1, 1) := by decide +kernel
theorem dX5_allCounted_2 : decode cX5_allCounted 2 = .ok (.iconst 0, 1) := by decide +kernel
theorem dX5_allCounted_3 : decode cX5_allCounted 3 = .ok (.istore_n 2, 1) := by decide +kernel
theorem dX5_allCounted_4 : decode cX5_allCounted 4 = .ok (.iload_n 2, 1) := by decide +kernel
theorem dX5_allCounted_5 : decode cX5_allCounted 5 = .ok (.aload_n 0, 1) := by decide +kernel
theorem dX5_allCounted_6 : decode cX5_allCounted 6 = .ok (.getfield 9, 3) := by decide +kernel
theorem dX5_allCounted_9 : decode cX5_allCounted 9 = .ok (.getfield 19, 3) := by decide +kernel
theorem dX5_allCounted_12 : decode cX5_allCounted 12 = .ok (.if_icmp .ge 24, 3) := by decide +kernel
theorem dX5_allCounted_15 : decode cX5_allCounted 15 = .ok (.iload_n 1, 1) := by decide +kernel
theorem dX5_allCounted_16 : decode cX5_allCounted 16 = .ok (.aload_n 0, 1) := by decide +kernel
theorem dX5_allCounted_17 : decode cX5_allCounted 17 = .ok (.getfield 9, 3) := by decide +kernel
theorem dX5_allCounted_20 : decode cX5_allCounted 20 = .ok (.getfield 25, 3) := by decide +kernel
theorem dX5_allCounted_23 : decode cX5_allCounted 23 = .ok (.iload_n 2, 1) := by decide +kernel
theorem dX5_allCounted_24 : decode cX5_allCounted 24 = .ok (.iaload, 1) := by decide +kernel
theorem dX5_allCounted_25 : decode cX5_allCounted 25 = .ok (.invokestatic 29, 3) := by decide +kernel
theorem dX5_allCounted_28 : decode cX5_allCounted 28 = .ok (.iadd, 1) := by decide +kernel
theorem dX5_allCounted_29 : decode cX5_allCounted 29 = .ok (.istore_n 1, 1) := by decide +kernel
theorem dX5_allCounted_30 : decode cX5_allCounted 30 = .ok (.iinc 2 1, 3) := by decide +kernel
theorem dX5_allCounted_33 : decode cX5_allCounted 33 = .ok (.goto (-29), 3) := by decide +kernel
theorem dX5_allCounted_36 : decode cX5_allCounted 36 = .ok (.iload_n 1, 1) := by decide +kernel
theorem dX5_allCounted_37 : decode cX5_allCounted 37 = .ok (.ireturn, 1) := by decide +kernel
set_option maxRecDepth 100000 in
set_option maxHeartbeats 4000000 in
theorem c_X5_allCounted {l : Launch} {G : Gx} (hap : k_ap G shC.length) (M0 : Mem) (r : Int32) (hf : f_X5_allCounted M0 = some r) : k_Met l yX5_allCounted cX5_allCounted 3 (some .int) 1 20 G shC [.ref (G.2.1 41)] M0 (k_Qi G shC r M0) := by
  refine k_Met_of (by decide) hap (Nat.le_of_ble_eq_true rfl) ?_
  intro p e s m args below meth c C hr hlk
  have C : Cx p s m args c cX5_allCounted RX5 3 G shC := C
  have k_b4 : ∀ (n4 : Nat) (v1 : Int32) (v2 : Int32), f_X5_allCounted_b4 M0 n4 v1 v2 = some r → K p l e (k_rm 1 20) s m args below meth c 3 G shC (MQ below (k_Qi G shC r M0) args s 0 0 (k_A G shC.length)) 4 [(0, .ref (G.2.1 41)), (1, .int v1), (2, .int v2)] [] M0 := by
    intro n4
    induction n4 with
    | zero => intro v1 v2 hf; simp [f_X5_allCounted_b4] at hf
    | succ n4 ih4 =>
      intro v1 v2 hf
      unfold f_X5_allCounted_b4 at hf
      refine k_iload_n C dX5_allCounted_4 2 rfl ?_
      refine k_aload_n C dX5_allCounted_5 0 rfl ?_
      refine k_getr C shC_41 (j := 0) rfl FL_X5_9 dX5_allCounted_6 ?_
      refine k_geti C shC_1 (j := 4) rfl FL_X5_19 dX5_allCounted_9 ?_
      rcases ite_g hf with ⟨c1, hf⟩ | ⟨c1, hf⟩
      · refine k_icmp_ge_t C dX5_allCounted_12 (tgt := 36) (by decide) c1 ?_
        refine k_iload_n C dX5_allCounted_36 1 rfl ?_
        exact k_iret C hr hlk (Option.some.inj hf) rfl dX5_allCounted_37
      · refine k_icmp_ge_f C dX5_allCounted_12 (tgt := 36) (by decide) c1 ?_
        refine k_iload_n C dX5_allCounted_15 1 rfl ?_
        refine k_aload_n C dX5_allCounted_16 0 rfl ?_
        refine k_getr C shC_41 (j := 0) rfl FL_X5_9 dX5_allCounted_17 ?_
        refine k_getr C shC_1 (j := 2) rfl FL_X5_25 dX5_allCounted_20 ?_
        refine k_iload_n C dX5_allCounted_23 2 rfl ?_
        obtain ⟨t2, ht2, hf⟩ := bnd hf
        refine k_iald C shC_4 ht2 dX5_allCounted_24 ?_
        refine k_callSi C (As := [.int t2]) (c_J6_bitCount_0f7a4 hap t2 M0 _ rfl) MS_J6_bitCount_0f7a4 wd_952 rfl rfl ⟨Nat.le_of_ble_eq_true rfl, Nat.le_of_ble_eq_true rfl⟩ (Nat.le_of_ble_eq_true rfl) dX5_allCounted_25 ?_
        refine k_iadd C dX5_allCounted_28 ?_
        refine k_istore_n C dX5_allCounted_29 (by decide) [1, 0, 2] (lv' := [(0, .ref (G.2.1 41)), (1, .int (v1 + (f_J6_bitCount_0f7a4 t2))), (2, .int v2)]) rfl ?_
        refine k_iinc C dX5_allCounted_30 2 rfl (v := (v2 + (1 : Int32))) rfl (by decide) [1, 2, 0] (lv' := [(0, .ref (G.2.1 41)), (1, .int (v1 + (f_J6_bitCount_0f7a4 t2))), (2, .int (v2 + (1 : Int32)))]) rfl ?_
        refine k_goto C dX5_allCounted_33 (tgt := 4) (by decide) ?_
        exact ih4 (v1 + (f_J6_bitCount_0f7a4 t2)) (v2 + (1 : Int32)) hf
  unfold f_X5_allCounted at hf
  refine k_lv (lv' := [(0, .ref (G.2.1 41))]) [0] rfl ?_
  refine k_iconst C dX5_allCounted_0 (v := (0 : Int32)) rfl ?_
  refine k_istore_n C dX5_allCounted_1 (by decide) [1, 0] (lv' := [(0, .ref (G.2.1 41)), (1, .int (0 : Int32))]) rfl ?_
  refine k_iconst C dX5_allCounted_2 (v := (0 : Int32)) rfl ?_
  refine k_istore_n C dX5_allCounted_3 (by decide) [1, 2, 0] (lv' := [(0, .ref (G.2.1 41)), (1, .int (0 : Int32)), (2, .int (0 : Int32))]) rfl ?_
  exact k_b4 FU (0 : Int32) (0 : Int32) hf
theorem dX5_totalFlipped_0 : decode cX5_totalFlipped 0 = .ok (.aload_n 0, 1) := by decide +kernel
theorem dX5_totalFlipped_1 : decode cX5_totalFlipped 1 = .ok (.getfield 9, 3) := by decide +kernel
theorem dX5_totalFlipped_4 : decode cX5_totalFlipped 4 = .ok (.iload_n 1, 1) := by decide +kernel
theorem dX5_totalFlipped_5 : decode cX5_totalFlipped 5 = .ok (.iload_n 2, 1) := by decide +kernel
theorem dX5_totalFlipped_6 : decode cX5_totalFlipped 6 = .ok (.invokevirtual 45, 3) := by decide +kernel
theorem dX5_totalFlipped_9 : decode cX5_totalFlipped 9 = .ok (.aload_n 0, 1) := by decide +kernel
theorem dX5_totalFlipped_10 : decode cX5_totalFlipped 10 = .ok (.getfield 15, 3) := by decide +kernel
theorem dX5_totalFlipped_13 : decode cX5_totalFlipped 13 = .ok (.invokevirtual 35, 3) := by decide +kernel
theorem dX5_totalFlipped_16 : decode cX5_totalFlipped 16 = .ok (.istore_n 3, 1) := by decide +kernel
theorem dX5_totalFlipped_17 : decode cX5_totalFlipped 17 = .ok (.aload_n 0, 1) := by decide +kernel
theorem dX5_totalFlipped_18 : decode cX5_totalFlipped 18 = .ok (.getfield 9, 3) := by decide +kernel
theorem dX5_totalFlipped_21 : decode cX5_totalFlipped 21 = .ok (.iload_n 1, 1) := by decide +kernel
theorem dX5_totalFlipped_22 : decode cX5_totalFlipped 22 = .ok (.iload_n 2, 1) := by decide +kernel
theorem dX5_totalFlipped_23 : decode cX5_totalFlipped 23 = .ok (.invokevirtual 45, 3) := by decide +kernel
theorem dX5_totalFlipped_26 : decode cX5_totalFlipped 26 = .ok (.iload_n 3, 1) := by decide +kernel
theorem dX5_totalFlipped_27 : decode cX5_totalFlipped 27 = .ok (.ireturn, 1) := by decide +kernel
set_option maxRecDepth 100000 in
set_option maxHeartbeats 4000000 in
theorem c_X5_totalFlipped {l : Launch} {G : Gx} (hap : k_ap G shC.length) (v1 : Int32) (v2 : Int32) (M0 : Mem) (r : Int32 × Mem) (hf : f_X5_totalFlipped v1 v2 M0 = some r) : k_Met l yX5_totalFlipped cX5_totalFlipped 4 (some .int) 4 88 G shC [.ref (G.2.1 41), .int v1, .int v2] M0 (k_Qi G shC r.1 r.2) := by
  refine k_Met_of (by decide) hap (Nat.le_of_ble_eq_true rfl) ?_
  intro p e s m args below meth c C hr hlk
  have C : Cx p s m args c cX5_totalFlipped RX5 4 G shC := C
  unfold f_X5_totalFlipped at hf
  refine k_lv (lv' := [(0, .ref (G.2.1 41)), (1, .int v1), (2, .int v2)]) [0, 1, 2] rfl ?_
  refine k_aload_n C dX5_totalFlipped_0 0 rfl ?_
  refine k_getr C shC_41 (j := 0) rfl FL_X5_9 dX5_totalFlipped_1 ?_
  refine k_iload_n C dX5_totalFlipped_4 1 rfl ?_
  refine k_iload_n C dX5_totalFlipped_5 2 rfl ?_
  obtain ⟨M1, hM1, hf⟩ := bnd hf
  refine k_callVv C (As := [.int v1, .int v2]) (c_X0_flipMark hap 1 BD_1 v1 v2 M0 M1 hM1) ML_X0_flipMark wd_870 shC_1 rfl rfl rfl ⟨Nat.le_of_ble_eq_true rfl, Nat.le_of_ble_eq_true rfl⟩ (Nat.le_of_ble_eq_true rfl) dX5_totalFlipped_6 ?_
  refine k_aload_n C dX5_totalFlipped_9 0 rfl ?_
  refine k_getr C shC_41 (j := 1) rfl FL_X5_15 dX5_totalFlipped_10 ?_
  obtain ⟨⟨t2, M2⟩, ht2, hf⟩ := bnd hf
  replace hf := bp_s hf
  refine k_callVi C (As := []) (c_X8_total hap M1 (t2, M2) ht2) ML_X8_total wd_865 shC_25 rfl rfl rfl ⟨Nat.le_of_ble_eq_true rfl, Nat.le_of_ble_eq_true rfl⟩ (Nat.le_of_ble_eq_true rfl) dX5_totalFlipped_13 ?_
  refine k_istore_n C dX5_totalFlipped_16 (by decide) [1, 2, 3, 0] (lv' := [(0, .ref (G.2.1 41)), (1, .int v1), (2, .int v2), (3, .int t2)]) rfl ?_
  refine k_aload_n C dX5_totalFlipped_17 0 rfl ?_
  refine k_getr C shC_41 (j := 0) rfl FL_X5_9 dX5_totalFlipped_18 ?_
  refine k_iload_n C dX5_totalFlipped_21 1 rfl ?_
  refine k_iload_n C dX5_totalFlipped_22 2 rfl ?_
  obtain ⟨M3, hM3, hf⟩ := bnd hf
  refine k_callVv C (As := [.int v1, .int v2]) (c_X0_flipMark hap 1 BD_1 v1 v2 M2 M3 hM3) ML_X0_flipMark wd_870 shC_1 rfl rfl rfl ⟨Nat.le_of_ble_eq_true rfl, Nat.le_of_ble_eq_true rfl⟩ (Nat.le_of_ble_eq_true rfl) dX5_totalFlipped_23 ?_
  refine k_iload_n C dX5_totalFlipped_26 3 rfl ?_
  exact k_iret C hr hlk (prf hf) (prs hf) dX5_totalFlipped_27
theorem dX5_bestFlip_0 : decode cX5_bestFlip 0 = .ok (.bipush (-9), 2) := by decide +kernel
theorem dX5_bestFlip_2 : decode cX5_bestFlip 2 = .ok (.istore_n 1, 1) := by decide +kernel
theorem dX5_bestFlip_3 : decode cX5_bestFlip 3 = .ok (.aload_n 0, 1) := by decide +kernel
theorem dX5_bestFlip_4 : decode cX5_bestFlip 4 = .ok (.getfield 15, 3) := by decide +kernel
theorem dX5_bestFlip_7 : decode cX5_bestFlip 7 = .ok (.invokevirtual 35, 3) := by decide +kernel
theorem dX5_bestFlip_10 : decode cX5_bestFlip 10 = .ok (.istore_n 2, 1) := by decide +kernel
theorem dX5_bestFlip_11 : decode cX5_bestFlip 11 = .ok (.iconst 0, 1) := by decide +kernel
theorem dX5_bestFlip_12 : decode cX5_bestFlip 12 = .ok (.istore_n 3, 1) := by decide +kernel
theorem dX5_bestFlip_13 : decode cX5_bestFlip 13 = .ok (.iload_n 3, 1) := by decide +kernel
theorem dX5_bestFlip_14 : decode cX5_bestFlip 14 = .ok (.aload_n 0, 1) := by decide +kernel
theorem dX5_bestFlip_15 : decode cX5_bestFlip 15 = .ok (.getfield 9, 3) := by decide +kernel
theorem dX5_bestFlip_18 : decode cX5_bestFlip 18 = .ok (.getfield 19, 3) := by decide +kernel
theorem dX5_bestFlip_21 : decode cX5_bestFlip 21 = .ok (.if_icmp .ge 51, 3) := by decide +kernel
theorem dX5_bestFlip_24 : decode cX5_bestFlip 24 = .ok (.iconst 0, 1) := by decide +kernel
theorem dX5_bestFlip_25 : decode cX5_bestFlip 25 = .ok (.istore 4, 2) := by decide +kernel
theorem dX5_bestFlip_27 : decode cX5_bestFlip 27 = .ok (.iload 4, 2) := by decide +kernel
theorem dX5_bestFlip_29 : decode cX5_bestFlip 29 = .ok (.bipush 8, 2) := by decide +kernel
theorem dX5_bestFlip_31 : decode cX5_bestFlip 31 = .ok (.if_icmp .ge 35, 3) := by decide +kernel
theorem dX5_bestFlip_34 : decode cX5_bestFlip 34 = .ok (.aload_n 0, 1) := by decide +kernel
theorem dX5_bestFlip_35 : decode cX5_bestFlip 35 = .ok (.iload_n 3, 1) := by decide +kernel
theorem dX5_bestFlip_36 : decode cX5_bestFlip 36 = .ok (.iload 4, 2) := by decide +kernel
theorem dX5_bestFlip_38 : decode cX5_bestFlip 38 = .ok (.invokevirtual 41, 3) := by decide +kernel
theorem dX5_bestFlip_41 : decode cX5_bestFlip 41 = .ok (.istore 5, 2) := by decide +kernel
theorem dX5_bestFlip_43 : decode cX5_bestFlip 43 = .ok (.iload 5, 2) := by decide +kernel
theorem dX5_bestFlip_45 : decode cX5_bestFlip 45 = .ok (.iload_n 2, 1) := by decide +kernel
theorem dX5_bestFlip_46 : decode cX5_bestFlip 46 = .ok (.if_icmp .ge 14, 3) := by decide +kernel
theorem dX5_bestFlip_49 : decode cX5_bestFlip 49 = .ok (.iload 5, 2) := by decide +kernel
theorem dX5_bestFlip_51 : decode cX5_bestFlip 51 = .ok (.istore_n 2, 1) := by decide +kernel
theorem dX5_bestFlip_52 : decode cX5_bestFlip 52 = .ok (.bipush 10, 2) := by decide +kernel
theorem dX5_bestFlip_54 : decode cX5_bestFlip 54 = .ok (.iload_n 3, 1) := by decide +kernel
theorem dX5_bestFlip_55 : decode cX5_bestFlip 55 = .ok (.imul, 1) := by decide +kernel
theorem dX5_bestFlip_56 : decode cX5_bestFlip 56 = .ok (.iload 4, 2) := by decide +kernel
theorem dX5_bestFlip_58 : decode cX5_bestFlip 58 = .ok (.iadd, 1) := by decide +kernel
theorem dX5_bestFlip_59 : decode cX5_bestFlip 59 = .ok (.istore_n 1, 1) := by decide +kernel
theorem dX5_bestFlip_60 : decode cX5_bestFlip 60 = .ok (.iinc 4 1, 3) := by decide +kernel
theorem dX5_bestFlip_63 : decode cX5_bestFlip 63 = .ok (.goto (-36), 3) := by decide +kernel
theorem dX5_bestFlip_66 : decode cX5_bestFlip 66 = .ok (.iinc 3 1, 3) := by decide +kernel
theorem dX5_bestFlip_69 : decode cX5_bestFlip 69 = .ok (.goto (-56), 3) := by decide +kernel
theorem dX5_bestFlip_72 : decode cX5_bestFlip 72 = .ok (.iload_n 1, 1) := by decide +kernel
theorem dX5_bestFlip_73 : decode cX5_bestFlip 73 = .ok (.ireturn, 1) := by decide +kernel
set_option maxRecDepth 100000 in
set_option maxHeartbeats 4000000 in
theorem c_X5_bestFlip {l : Launch} {G : Gx} (hap : k_ap G shC.length) (M0 : Mem) (r : Int32 × Mem) (hf : f_X5_bestFlip M0 = some r) : k_Met l yX5_bestFlip cX5_bestFlip 6 (some .int) 5 111 G shC [.ref (G.2.1 41)] M0 (k_Qi G shC r.1 r.2) := by
  refine k_Met_of (by decide) hap (Nat.le_of_ble_eq_true rfl) ?_
  intro p e s m args below meth c C hr hlk
  have C : Cx p s m args c cX5_bestFlip RX5 6 G shC := C
  have k_b13 : ∀ (n13 : Nat) (v1 : Int32) (v2 : Int32) (v3 : Int32) (M : Mem), f_X5_bestFlip_b13 n13 v1 v2 v3 M = some r → K p l e (k_rm 5 111) s m args below meth c 6 G shC (MQ below (k_Qi G shC r.1 r.2) args s 0 0 (k_A G shC.length)) 13 [(0, .ref (G.2.1 41)), (1, .int v1), (2, .int v2), (3, .int v3)] [] M := by
    intro n13
    induction n13 with
    | zero => intro v1 v2 v3 M hf; simp [f_X5_bestFlip_b13] at hf
    | succ n13 ih13 =>
      have k_b27 : ∀ (n27 : Nat) (v1 : Int32) (v2 : Int32) (v3 : Int32) (v4 : Int32) (M : Mem), f_X5_bestFlip_b27 (f_X5_bestFlip_b13 n13) n27 v1 v2 v3 v4 M = some r → K p l e (k_rm 5 111) s m args below meth c 6 G shC (MQ below (k_Qi G shC r.1 r.2) args s 0 0 (k_A G shC.length)) 27 [(0, .ref (G.2.1 41)), (1, .int v1), (2, .int v2), (3, .int v3), (4, .int v4)] [] M := by
        intro n27
        induction n27 with
        | zero => intro v1 v2 v3 v4 M hf; simp [f_X5_bestFlip_b27] at hf
        | succ n27 ih27 =>
          intro v1 v2 v3 v4 M hf
          unfold f_X5_bestFlip_b27 at hf
          refine k_iload C dX5_bestFlip_27 4 rfl ?_
          refine k_bipush C dX5_bestFlip_29 (v := (8 : Int32)) rfl ?_
          rcases ite_g hf with ⟨c4, hf⟩ | ⟨c4, hf⟩
          · refine k_icmp_ge_t C dX5_bestFlip_31 (tgt := 66) (by decide) c4 ?_
            refine k_iinc C dX5_bestFlip_66 3 rfl (v := (v3 + (1 : Int32))) rfl (by decide) [1, 2, 3, 0] (lv' := [(0, .ref (G.2.1 41)), (1, .int v1), (2, .int v2), (3, .int (v3 + (1 : Int32)))]) rfl ?_
            refine k_goto C dX5_bestFlip_69 (tgt := 13) (by decide) ?_
            exact ih13 v1 v2 (v3 + (1 : Int32)) M hf
          · refine k_icmp_ge_f C dX5_bestFlip_31 (tgt := 66) (by decide) c4 ?_
            refine k_aload_n C dX5_bestFlip_34 0 rfl ?_
            refine k_iload_n C dX5_bestFlip_35 3 rfl ?_
            refine k_iload C dX5_bestFlip_36 4 rfl ?_
            obtain ⟨⟨t5, M5⟩, ht5, hf⟩ := bnd hf
            replace hf := bp_s hf
            refine k_callVi C (As := [.int v3, .int v4]) (c_X5_totalFlipped hap v3 v4 M (t5, M5) ht5) ML_X5_totalFlipped wd_866 shC_41 rfl rfl rfl ⟨Nat.le_of_ble_eq_true rfl, Nat.le_of_ble_eq_true rfl⟩ (Nat.le_of_ble_eq_true rfl) dX5_bestFlip_38 ?_
            refine k_istore C dX5_bestFlip_41 (by decide) [1, 2, 3, 4, 5, 0] (lv' := [(0, .ref (G.2.1 41)), (1, .int v1), (2, .int v2), (3, .int v3), (4, .int v4), (5, .int t5)]) rfl ?_
            refine k_iload C dX5_bestFlip_43 5 rfl ?_
            refine k_iload_n C dX5_bestFlip_45 2 rfl ?_
            rcases ite_g hf with ⟨c6, hf⟩ | ⟨c6, hf⟩
            · refine k_icmp_ge_t C dX5_bestFlip_46 (tgt := 60) (by decide) c6 ?_
              refine k_iinc C dX5_bestFlip_60 4 rfl (v := (v4 + (1 : Int32))) rfl (by decide) [1, 2, 3, 4, 0] (lv' := [(0, .ref (G.2.1 41)), (1, .int v1), (2, .int v2), (3, .int v3), (4, .int (v4 + (1 : Int32)))]) rfl ?_
              refine k_goto C dX5_bestFlip_63 (tgt := 27) (by decide) ?_
              exact ih27 v1 v2 v3 (v4 + (1 : Int32)) M5 hf
            · refine k_icmp_ge_f C dX5_bestFlip_46 (tgt := 60) (by decide) c6 ?_
              refine k_iload C dX5_bestFlip_49 5 rfl ?_
              refine k_istore_n C dX5_bestFlip_51 (by decide) [1, 0, 3, 4] (lv' := [(0, .ref (G.2.1 41)), (2, .int t5), (3, .int v3), (4, .int v4)]) rfl ?_
              refine k_bipush C dX5_bestFlip_52 (v := (10 : Int32)) rfl ?_
              refine k_iload_n C dX5_bestFlip_54 2 rfl ?_
              refine k_imul C dX5_bestFlip_55 ?_
              refine k_iload C dX5_bestFlip_56 3 rfl ?_
              refine k_iadd C dX5_bestFlip_58 ?_
              refine k_istore_n C dX5_bestFlip_59 (by decide) [1, 0, 2, 3, 4] (lv' := [(0, .ref (G.2.1 41)), (1, .int (((10 : Int32) * v3) + v4)), (2, .int t5), (3, .int v3), (4, .int v4)]) rfl ?_
              refine k_iinc C dX5_bestFlip_60 4 rfl (v := (v4 + (1 : Int32))) rfl (by decide) [1, 2, 3, 4, 0] (lv' := [(0, .ref (G.2.1 41)), (1, .int (((10 : Int32) * v3) + v4)), (2, .int t5), (3, .int v3), (4, .int (v4 + (1 : Int32)))]) rfl ?_
              refine k_goto C dX5_bestFlip_63 (tgt := 27) (by decide) ?_
              exact ih27 (((10 : Int32) * v3) + v4) t5 v3 (v4 + (1 : Int32)) M5 hf
      intro v1 v2 v3 M hf
      unfold f_X5_bestFlip_b13 at hf
      refine k_iload_n C dX5_bestFlip_13 3 rfl ?_
      refine k_aload_n C dX5_bestFlip_14 0 rfl ?_
      refine k_getr C shC_41 (j := 0) rfl FL_X5_9 dX5_bestFlip_15 ?_
      refine k_geti C shC_1 (j := 4) rfl FL_X5_19 dX5_bestFlip_18 ?_
      rcases ite_g hf with ⟨c2, hf⟩ | ⟨c2, hf⟩
      · refine k_icmp_ge_t C dX5_bestFlip_21 (tgt := 72) (by decide) c2 ?_
        refine k_iload_n C dX5_bestFlip_72 1 rfl ?_
        exact k_iret C hr hlk (prf hf) (prs hf) dX5_bestFlip_73
      · refine k_icmp_ge_f C dX5_bestFlip_21 (tgt := 72) (by decide) c2 ?_
        refine k_iconst C dX5_bestFlip_24 (v := (0 : Int32)) rfl ?_
        refine k_istore C dX5_bestFlip_25 (by decide) [1, 2, 3, 4, 0] (lv' := [(0, .ref (G.2.1 41)), (1, .int v1), (2, .int v2), (3, .int v3), (4, .int (0 : Int32))]) rfl ?_
        exact k_b27 FU v1 v2 v3 (0 : Int32) M hf
  unfold f_X5_bestFlip at hf
  refine k_lv (lv' := [(0, .ref (G.2.1 41))]) [0] rfl ?_
  refine k_bipush C dX5_bestFlip_0 (v := (-9 : Int32)) rfl ?_
  refine k_istore_n C dX5_bestFlip_2 (by decide) [1, 0] (lv' := [(0, .ref (G.2.1 41)), (1, .int (-9 : Int32))]) rfl ?_
  refine k_aload_n C dX5_bestFlip_3 0 rfl ?_
  refine k_getr C shC_41 (j := 1) rfl FL_X5_15 dX5_bestFlip_4 ?_
  obtain ⟨⟨t1, M1⟩, ht1, hf⟩ := bnd hf
  replace hf := bp_s hf
  refine k_callVi C (As := []) (c_X8_total hap M0 (t1, M1) ht1) ML_X8_total wd_865 shC_25 rfl rfl rfl ⟨Nat.le_of_ble_eq_true rfl, Nat.le_of_ble_eq_true rfl⟩ (Nat.le_of_ble_eq_true rfl) dX5_bestFlip_7 ?_
  refine k_istore_n C dX5_bestFlip_10 (by decide) [1, 2, 0] (lv' := [(0, .ref (G.2.1 41)), (1, .int (-9 : Int32)), (2, .int t1)]) rfl ?_
  refine k_iconst C dX5_bestFlip_11 (v := (0 : Int32)) rfl ?_
  refine k_istore_n C dX5_bestFlip_12 (by decide) [1, 2, 3, 0] (lv' := [(0, .ref (G.2.1 41)), (1, .int (-9 : Int32)), (2, .int t1), (3, .int (0 : Int32))]) rfl ?_
  exact k_b13 FU (-9 : Int32) t1 (0 : Int32) M1 hf
theorem dX5_marksOf_0 : decode cX5_marksOf 0 = .ok (.iconst 0, 1) := by decide +kernel
theorem dX5_marksOf_1 : decode cX5_marksOf 1 = .ok (.istore_n 2, 1) := by decide +kernel
theorem dX5_marksOf_2 : decode cX5_marksOf 2 = .ok (.iconst 0, 1) := by decide +kernel
theorem dX5_marksOf_3 : decode cX5_marksOf 3 = .ok (.istore_n 3, 1) := by decide +kernel
theorem dX5_marksOf_4 : decode cX5_marksOf 4 = .ok (.iload_n 3, 1) := by decide +kernel
theorem dX5_marksOf_5 : decode cX5_marksOf 5 = .ok (.aload_n 0, 1) := by decide +kernel
theorem dX5_marksOf_6 : decode cX5_marksOf 6 = .ok (.getfield 9, 3) := by decide +kernel
theorem dX5_marksOf_9 : decode cX5_marksOf 9 = .ok (.getfield 19, 3) := by decide +kernel
theorem dX5_marksOf_12 : decode cX5_marksOf 12 = .ok (.if_icmp .ge 29, 3) := by decide +kernel
theorem dX5_marksOf_15 : decode cX5_marksOf 15 = .ok (.iload_n 1, 1) := by decide +kernel
theorem dX5_marksOf_16 : decode cX5_marksOf 16 = .ok (.iload_n 3, 1) := by decide +kernel
theorem dX5_marksOf_17 : decode cX5_marksOf 17 = .ok (.ishr, 1) := by decide +kernel
theorem dX5_marksOf_18 : decode cX5_marksOf 18 = .ok (.iconst 1, 1) := by decide +kernel
theorem dX5_marksOf_19 : decode cX5_marksOf 19 = .ok (.iand, 1) := by decide +kernel
theorem dX5_marksOf_20 : decode cX5_marksOf 20 = .ok (.ifCond .eq 15, 3) := by decide +kernel
theorem dX5_marksOf_23 : decode cX5_marksOf 23 = .ok (.iload_n 2, 1) := by decide +kernel
theorem dX5_marksOf_24 : decode cX5_marksOf 24 = .ok (.aload_n 0, 1) := by decide +kernel
theorem dX5_marksOf_25 : decode cX5_marksOf 25 = .ok (.getfield 9, 3) := by decide +kernel
theorem dX5_marksOf_28 : decode cX5_marksOf 28 = .ok (.getfield 25, 3) := by decide +kernel
theorem dX5_marksOf_31 : decode cX5_marksOf 31 = .ok (.iload_n 3, 1) := by decide +kernel
theorem dX5_marksOf_32 : decode cX5_marksOf 32 = .ok (.iaload, 1) := by decide +kernel
theorem dX5_marksOf_33 : decode cX5_marksOf 33 = .ok (.ior, 1) := by decide +kernel
theorem dX5_marksOf_34 : decode cX5_marksOf 34 = .ok (.istore_n 2, 1) := by decide +kernel
theorem dX5_marksOf_35 : decode cX5_marksOf 35 = .ok (.iinc 3 1, 3) := by decide +kernel
theorem dX5_marksOf_38 : decode cX5_marksOf 38 = .ok (.goto (-34), 3) := by decide +kernel
theorem dX5_marksOf_41 : decode cX5_marksOf 41 = .ok (.iload_n 2, 1) := by decide +kernel
theorem dX5_marksOf_42 : decode cX5_marksOf 42 = .ok (.ireturn, 1) := by decide +kernel
set_option maxRecDepth 100000 in
set_option maxHeartbeats 4000000 in
theorem c_X5_marksOf {l : Launch} {G : Gx} (hap : k_ap G shC.length) (v1 : Int32) (M0 : Mem) (r : Int32) (hf : f_X5_marksOf v1 M0 = some r) : k_Met l yX5_marksOf cX5_marksOf 4 (some .int) 0 0 G shC [.ref (G.2.1 41), .int v1] M0 (k_Qi G shC r M0) := by
  refine k_Met_of (by decide) hap (Nat.le_of_ble_eq_true rfl) ?_
  intro p e s m args below meth c C hr hlk
  have C : Cx p s m args c cX5_marksOf RX5 4 G shC := C
  have k_b4 : ∀ (n4 : Nat) (v1 : Int32) (v2 : Int32) (v3 : Int32), f_X5_marksOf_b4 M0 n4 v1 v2 v3 = some r → K p l e (k_rm 0 0) s m args below meth c 4 G shC (MQ below (k_Qi G shC r M0) args s 0 0 (k_A G shC.length)) 4 [(0, .ref (G.2.1 41)), (1, .int v1), (2, .int v2), (3, .int v3)] [] M0 := by
    intro n4
    induction n4 with
    | zero => intro v1 v2 v3 hf; simp [f_X5_marksOf_b4] at hf
    | succ n4 ih4 =>
      intro v1 v2 v3 hf
      unfold f_X5_marksOf_b4 at hf
      refine k_iload_n C dX5_marksOf_4 3 rfl ?_
      refine k_aload_n C dX5_marksOf_5 0 rfl ?_
      refine k_getr C shC_41 (j := 0) rfl FL_X5_9 dX5_marksOf_6 ?_
      refine k_geti C shC_1 (j := 4) rfl FL_X5_19 dX5_marksOf_9 ?_
      rcases ite_g hf with ⟨c1, hf⟩ | ⟨c1, hf⟩
      · refine k_icmp_ge_t C dX5_marksOf_12 (tgt := 41) (by decide) c1 ?_
        refine k_iload_n C dX5_marksOf_41 2 rfl ?_
        exact k_iret C hr hlk (Option.some.inj hf) rfl dX5_marksOf_42
      · refine k_icmp_ge_f C dX5_marksOf_12 (tgt := 41) (by decide) c1 ?_
        refine k_iload_n C dX5_marksOf_15 1 rfl ?_
        refine k_iload_n C dX5_marksOf_16 3 rfl ?_
        refine k_ishrJ C dX5_marksOf_17 ?_
        refine k_iconst C dX5_marksOf_18 (v := (1 : Int32)) rfl ?_
        refine k_iand C dX5_marksOf_19 ?_
        rcases ite_g hf with ⟨c2, hf⟩ | ⟨c2, hf⟩
        · refine k_if_eq_t C dX5_marksOf_20 (tgt := 35) (by decide) c2 ?_
          refine k_iinc C dX5_marksOf_35 3 rfl (v := (v3 + (1 : Int32))) rfl (by decide) [1, 2, 3, 0] (lv' := [(0, .ref (G.2.1 41)), (1, .int v1), (2, .int v2), (3, .int (v3 + (1 : Int32)))]) rfl ?_
          refine k_goto C dX5_marksOf_38 (tgt := 4) (by decide) ?_
          exact ih4 v1 v2 (v3 + (1 : Int32)) hf
        · refine k_if_eq_f C dX5_marksOf_20 (tgt := 35) (by decide) c2 ?_
          refine k_iload_n C dX5_marksOf_23 2 rfl ?_
          refine k_aload_n C dX5_marksOf_24 0 rfl ?_
          refine k_getr C shC_41 (j := 0) rfl FL_X5_9 dX5_marksOf_25 ?_
          refine k_getr C shC_1 (j := 2) rfl FL_X5_25 dX5_marksOf_28 ?_
          refine k_iload_n C dX5_marksOf_31 3 rfl ?_
          obtain ⟨t3, ht3, hf⟩ := bnd hf
          refine k_iald C shC_4 ht3 dX5_marksOf_32 ?_
          refine k_ior C dX5_marksOf_33 ?_
          refine k_istore_n C dX5_marksOf_34 (by decide) [1, 2, 0, 3] (lv' := [(0, .ref (G.2.1 41)), (1, .int v1), (2, .int (v2 ||| t3)), (3, .int v3)]) rfl ?_
          refine k_iinc C dX5_marksOf_35 3 rfl (v := (v3 + (1 : Int32))) rfl (by decide) [1, 2, 3, 0] (lv' := [(0, .ref (G.2.1 41)), (1, .int v1), (2, .int (v2 ||| t3)), (3, .int (v3 + (1 : Int32)))]) rfl ?_
          refine k_goto C dX5_marksOf_38 (tgt := 4) (by decide) ?_
          exact ih4 v1 (v2 ||| t3) (v3 + (1 : Int32)) hf
  unfold f_X5_marksOf at hf
  refine k_lv (lv' := [(0, .ref (G.2.1 41)), (1, .int v1)]) [0, 1] rfl ?_
  refine k_iconst C dX5_marksOf_0 (v := (0 : Int32)) rfl ?_
  refine k_istore_n C dX5_marksOf_1 (by decide) [1, 2, 0] (lv' := [(0, .ref (G.2.1 41)), (1, .int v1), (2, .int (0 : Int32))]) rfl ?_
  refine k_iconst C dX5_marksOf_2 (v := (0 : Int32)) rfl ?_
  refine k_istore_n C dX5_marksOf_3 (by decide) [1, 2, 3, 0] (lv' := [(0, .ref (G.2.1 41)), (1, .int v1), (2, .int (0 : Int32)), (3, .int (0 : Int32))]) rfl ?_
  exact k_b4 FU v1 (0 : Int32) (0 : Int32) hf
theorem dX5_nextOf_0 : decode cX5_nextOf 0 = .ok (.iconst 0, 1) := by decide +kernel
theorem dX5_nextOf_1 : decode cX5_nextOf 1 = .ok (.istore_n 2, 1) := by decide +kernel
theorem dX5_nextOf_2 : decode cX5_nextOf 2 = .ok (.iconst 0, 1) := by decide +kernel
theorem dX5_nextOf_3 : decode cX5_nextOf 3 = .ok (.istore_n 3, 1) := by decide +kernel
theorem dX5_nextOf_4 : decode cX5_nextOf 4 = .ok (.iload_n 3, 1) := by decide +kernel
theorem dX5_nextOf_5 : decode cX5_nextOf 5 = .ok (.aload_n 0, 1) := by decide +kernel
theorem dX5_nextOf_6 : decode cX5_nextOf 6 = .ok (.getfield 9, 3) := by decide +kernel
theorem dX5_nextOf_9 : decode cX5_nextOf 9 = .ok (.getfield 19, 3) := by decide +kernel
theorem dX5_nextOf_12 : decode cX5_nextOf 12 = .ok (.if_icmp .ge 28, 3) := by decide +kernel
theorem dX5_nextOf_15 : decode cX5_nextOf 15 = .ok (.iload_n 1, 1) := by decide +kernel
theorem dX5_nextOf_16 : decode cX5_nextOf 16 = .ok (.iload_n 3, 1) := by decide +kernel
theorem dX5_nextOf_17 : decode cX5_nextOf 17 = .ok (.ishr, 1) := by decide +kernel
theorem dX5_nextOf_18 : decode cX5_nextOf 18 = .ok (.iconst 1, 1) := by decide +kernel
theorem dX5_nextOf_19 : decode cX5_nextOf 19 = .ok (.iand, 1) := by decide +kernel
theorem dX5_nextOf_20 : decode cX5_nextOf 20 = .ok (.ifCond .eq 14, 3) := by decide +kernel
theorem dX5_nextOf_23 : decode cX5_nextOf 23 = .ok (.iload_n 2, 1) := by decide +kernel
theorem dX5_nextOf_24 : decode cX5_nextOf 24 = .ok (.aload_n 0, 1) := by decide +kernel
theorem dX5_nextOf_25 : decode cX5_nextOf 25 = .ok (.getfield 15, 3) := by decide +kernel
theorem dX5_nextOf_28 : decode cX5_nextOf 28 = .ok (.iload_n 3, 1) := by decide +kernel
theorem dX5_nextOf_29 : decode cX5_nextOf 29 = .ok (.invokevirtual 59, 3) := by decide +kernel
theorem dX5_nextOf_32 : decode cX5_nextOf 32 = .ok (.iadd, 1) := by decide +kernel
theorem dX5_nextOf_33 : decode cX5_nextOf 33 = .ok (.istore_n 2, 1) := by decide +kernel
theorem dX5_nextOf_34 : decode cX5_nextOf 34 = .ok (.iinc 3 1, 3) := by decide +kernel
theorem dX5_nextOf_37 : decode cX5_nextOf 37 = .ok (.goto (-33), 3) := by decide +kernel
theorem dX5_nextOf_40 : decode cX5_nextOf 40 = .ok (.iload_n 2, 1) := by decide +kernel
theorem dX5_nextOf_41 : decode cX5_nextOf 41 = .ok (.ireturn, 1) := by decide +kernel
set_option maxRecDepth 100000 in
set_option maxHeartbeats 4000000 in
theorem c_X5_nextOf {l : Launch} {G : Gx} (hap : k_ap G shC.length) (v1 : Int32) (M0 : Mem) (r : Int32) (hf : f_X5_nextOf v1 M0 = some r) : k_Met l yX5_nextOf cX5_nextOf 4 (some .int) 2 44 G shC [.ref (G.2.1 41), .int v1] M0 (k_Qi G shC r M0) := by
  refine k_Met_of (by decide) hap (Nat.le_of_ble_eq_true rfl) ?_
  intro p e s m args below meth c C hr hlk
  have C : Cx p s m args c cX5_nextOf RX5 4 G shC := C
  have k_b4 : ∀ (n4 : Nat) (v1 : Int32) (v2 : Int32) (v3 : Int32), f_X5_nextOf_b4 M0 n4 v1 v2 v3 = some r → K p l e (k_rm 2 44) s m args below meth c 4 G shC (MQ below (k_Qi G shC r M0) args s 0 0 (k_A G shC.length)) 4 [(0, .ref (G.2.1 41)), (1, .int v1), (2, .int v2), (3, .int v3)] [] M0 := by
    intro n4
    induction n4 with
    | zero => intro v1 v2 v3 hf; simp [f_X5_nextOf_b4] at hf
    | succ n4 ih4 =>
      intro v1 v2 v3 hf
      unfold f_X5_nextOf_b4 at hf
      refine k_iload_n C dX5_nextOf_4 3 rfl ?_
      refine k_aload_n C dX5_nextOf_5 0 rfl ?_
      refine k_getr C shC_41 (j := 0) rfl FL_X5_9 dX5_nextOf_6 ?_
      refine k_geti C shC_1 (j := 4) rfl FL_X5_19 dX5_nextOf_9 ?_
      rcases ite_g hf with ⟨c1, hf⟩ | ⟨c1, hf⟩
      · refine k_icmp_ge_t C dX5_nextOf_12 (tgt := 40) (by decide) c1 ?_
        refine k_iload_n C dX5_nextOf_40 2 rfl ?_
        exact k_iret C hr hlk (Option.some.inj hf) rfl dX5_nextOf_41
      · refine k_icmp_ge_f C dX5_nextOf_12 (tgt := 40) (by decide) c1 ?_
        refine k_iload_n C dX5_nextOf_15 1 rfl ?_
        refine k_iload_n C dX5_nextOf_16 3 rfl ?_
        refine k_ishrJ C dX5_nextOf_17 ?_
        refine k_iconst C dX5_nextOf_18 (v := (1 : Int32)) rfl ?_
        refine k_iand C dX5_nextOf_19 ?_
        rcases ite_g hf with ⟨c3, hf⟩ | ⟨c3, hf⟩
        · refine k_if_eq_t C dX5_nextOf_20 (tgt := 34) (by decide) c3 ?_
          refine k_iinc C dX5_nextOf_34 3 rfl (v := (v3 + (1 : Int32))) rfl (by decide) [1, 2, 3, 0] (lv' := [(0, .ref (G.2.1 41)), (1, .int v1), (2, .int v2), (3, .int (v3 + (1 : Int32)))]) rfl ?_
          refine k_goto C dX5_nextOf_37 (tgt := 4) (by decide) ?_
          exact ih4 v1 v2 (v3 + (1 : Int32)) hf
        · refine k_if_eq_f C dX5_nextOf_20 (tgt := 34) (by decide) c3 ?_
          refine k_iload_n C dX5_nextOf_23 2 rfl ?_
          refine k_aload_n C dX5_nextOf_24 0 rfl ?_
          refine k_getr C shC_41 (j := 1) rfl FL_X5_15 dX5_nextOf_25 ?_
          refine k_iload_n C dX5_nextOf_28 3 rfl ?_
          obtain ⟨t4, ht4, hf⟩ := bnd hf
          refine k_callVi C (As := [.int v3]) (c_X8_dueNow hap v3 M0 t4 ht4) ML_X8_dueNow wd_951 shC_25 rfl rfl rfl ⟨Nat.le_of_ble_eq_true rfl, Nat.le_of_ble_eq_true rfl⟩ (Nat.le_of_ble_eq_true rfl) dX5_nextOf_29 ?_
          refine k_iadd C dX5_nextOf_32 ?_
          refine k_istore_n C dX5_nextOf_33 (by decide) [1, 2, 0, 3] (lv' := [(0, .ref (G.2.1 41)), (1, .int v1), (2, .int (v2 + t4)), (3, .int v3)]) rfl ?_
          refine k_iinc C dX5_nextOf_34 3 rfl (v := (v3 + (1 : Int32))) rfl (by decide) [1, 2, 3, 0] (lv' := [(0, .ref (G.2.1 41)), (1, .int v1), (2, .int (v2 + t4)), (3, .int (v3 + (1 : Int32)))]) rfl ?_
          refine k_goto C dX5_nextOf_37 (tgt := 4) (by decide) ?_
          exact ih4 v1 (v2 + t4) (v3 + (1 : Int32)) hf
  unfold f_X5_nextOf at hf
  refine k_lv (lv' := [(0, .ref (G.2.1 41)), (1, .int v1)]) [0, 1] rfl ?_
  refine k_iconst C dX5_nextOf_0 (v := (0 : Int32)) rfl ?_
  refine k_istore_n C dX5_nextOf_1 (by decide) [1, 2, 0] (lv' := [(0, .ref (G.2.1 41)), (1, .int v1), (2, .int (0 : Int32))]) rfl ?_
  refine k_iconst C dX5_nextOf_2 (v := (0 : Int32)) rfl ?_
  refine k_istore_n C dX5_nextOf_3 (by decide) [1, 2, 3, 0] (lv' := [(0, .ref (G.2.1 41)), (1, .int v1), (2, .int (0 : Int32)), (3, .int (0 : Int32))]) rfl ?_
  exact k_b4 FU v1 (0 : Int32) (0 : Int32) hf
theorem dX5_covering_0 : decode cX5_covering 0 = .ok (.aload_n 0, 1) := by decide +kernel
theorem dX5_covering_1 : decode cX5_covering 1 = .ok (.getfield 15, 3) := by decide +kernel
theorem dX5_covering_4 : decode cX5_covering 4 = .ok (.invokevirtual 49, 3) := by decide +kernel
theorem dX5_covering_7 : decode cX5_covering 7 = .ok (.bipush (-9), 2) := by decide +kernel
theorem dX5_covering_9 : decode cX5_covering 9 = .ok (.istore_n 3, 1) := by decide +kernel
theorem dX5_covering_10 : decode cX5_covering 10 = .ok (.bipush (-9), 2) := by decide +kernel
theorem dX5_covering_12 : decode cX5_covering 12 = .ok (.istore 4, 2) := by decide +kernel
theorem dX5_covering_14 : decode cX5_covering 14 = .ok (.bipush 9, 2) := by decide +kernel
theorem dX5_covering_16 : decode cX5_covering 16 = .ok (.istore 5, 2) := by decide +kernel
theorem dX5_covering_18 : decode cX5_covering 18 = .ok (.ldc 52, 2) := by decide +kernel
theorem dX5_covering_20 : decode cX5_covering 20 = .ok (.istore 6, 2) := by decide +kernel
theorem dX5_covering_22 : decode cX5_covering 22 = .ok (.iconst 0, 1) := by decide +kernel
theorem dX5_covering_23 : decode cX5_covering 23 = .ok (.istore 7, 2) := by decide +kernel
theorem dX5_covering_25 : decode cX5_covering 25 = .ok (.iload 7, 2) := by decide +kernel
theorem dX5_covering_27 : decode cX5_covering 27 = .ok (.iconst 1, 1) := by decide +kernel
theorem dX5_covering_28 : decode cX5_covering 28 = .ok (.aload_n 0, 1) := by decide +kernel
theorem dX5_covering_29 : decode cX5_covering 29 = .ok (.getfield 9, 3) := by decide +kernel
theorem dX5_covering_32 : decode cX5_covering 32 = .ok (.getfield 19, 3) := by decide +kernel
theorem dX5_covering_35 : decode cX5_covering 35 = .ok (.ishl, 1) := by decide +kernel
theorem dX5_covering_36 : decode cX5_covering 36 = .ok (.if_icmp .ge 65, 3) := by decide +kernel
theorem dX5_covering_39 : decode cX5_covering 39 = .ok (.iload_n 1, 1) := by decide +kernel
theorem dX5_covering_40 : decode cX5_covering 40 = .ok (.aload_n 0, 1) := by decide +kernel
theorem dX5_covering_41 : decode cX5_covering 41 = .ok (.iload 7, 2) := by decide +kernel
theorem dX5_covering_43 : decode cX5_covering 43 = .ok (.invokevirtual 53, 3) := by decide +kernel
theorem dX5_covering_46 : decode cX5_covering 46 = .ok (.iconst (-1), 1) := by decide +kernel
theorem dX5_covering_47 : decode cX5_covering 47 = .ok (.ixor, 1) := by decide +kernel
theorem dX5_covering_48 : decode cX5_covering 48 = .ok (.iand, 1) := by decide +kernel
theorem dX5_covering_49 : decode cX5_covering 49 = .ok (.ifCond .ne 46, 3) := by decide +kernel
theorem dX5_covering_52 : decode cX5_covering 52 = .ok (.aload_n 0, 1) := by decide +kernel
theorem dX5_covering_53 : decode cX5_covering 53 = .ok (.iload 7, 2) := by decide +kernel
theorem dX5_covering_55 : decode cX5_covering 55 = .ok (.invokevirtual 56, 3) := by decide +kernel
theorem dX5_covering_58 : decode cX5_covering 58 = .ok (.istore 8, 2) := by decide +kernel
theorem dX5_covering_60 : decode cX5_covering 60 = .ok (.iload 7, 2) := by decide +kernel
theorem dX5_covering_62 : decode cX5_covering 62 = .ok (.invokestatic 29, 3) := by decide +kernel
theorem dX5_covering_65 : decode cX5_covering 65 = .ok (.iload 5, 2) := by decide +kernel
theorem dX5_covering_67 : decode cX5_covering 67 = .ok (.if_icmp .ge 13, 3) := by decide +kernel
theorem dX5_covering_70 : decode cX5_covering 70 = .ok (.iload 7, 2) := by decide +kernel
theorem dX5_covering_72 : decode cX5_covering 72 = .ok (.invokestatic 29, 3) := by decide +kernel
theorem dX5_covering_75 : decode cX5_covering 75 = .ok (.istore 5, 2) := by decide +kernel
theorem dX5_covering_77 : decode cX5_covering 77 = .ok (.iload 7, 2) := by decide +kernel
theorem dX5_covering_79 : decode cX5_covering 79 = .ok (.istore_n 3, 1) := by decide +kernel
theorem dX5_covering_80 : decode cX5_covering 80 = .ok (.iload 8, 2) := by decide +kernel
theorem dX5_covering_82 : decode cX5_covering 82 = .ok (.iload 6, 2) := by decide +kernel
theorem dX5_covering_84 : decode cX5_covering 84 = .ok (.if_icmp .ge 11, 3) := by decide +kernel
theorem dX5_covering_87 : decode cX5_covering 87 = .ok (.iload 8, 2) := by decide +kernel
theorem dX5_covering_89 : decode cX5_covering 89 = .ok (.istore 6, 2) := by decide +kernel
theorem dX5_covering_91 : decode cX5_covering 91 = .ok (.iload 7, 2) := by decide +kernel
theorem dX5_covering_93 : decode cX5_covering 93 = .ok (.istore 4, 2) := by decide +kernel
theorem dX5_covering_95 : decode cX5_covering 95 = .ok (.iinc 7 1, 3) := by decide +kernel
theorem dX5_covering_98 : decode cX5_covering 98 = .ok (.goto (-73), 3) := by decide +kernel
theorem dX5_covering_101 : decode cX5_covering 101 = .ok (.iload_n 2, 1) := by decide +kernel
theorem dX5_covering_102 : decode cX5_covering 102 = .ok (.ifCond .ne 5, 3) := by decide +kernel
theorem dX5_covering_105 : decode cX5_covering 105 = .ok (.iload_n 3, 1) := by decide +kernel
theorem dX5_covering_106 : decode cX5_covering 106 = .ok (.ireturn, 1) := by decide +kernel
theorem dX5_covering_107 : decode cX5_covering 107 = .ok (.iload_n 2, 1) := by decide +kernel
theorem dX5_covering_108 : decode cX5_covering 108 = .ok (.iconst 1, 1) := by decide +kernel
theorem dX5_covering_109 : decode cX5_covering 109 = .ok (.if_icmp .eq 10, 3) := by decide +kernel
theorem dX5_covering_112 : decode cX5_covering 112 = .ok (.iload 4, 2) := by decide +kernel
theorem dX5_covering_114 : decode cX5_covering 114 = .ok (.bipush (-9), 2) := by decide +kernel
theorem dX5_covering_116 : decode cX5_covering 116 = .ok (.if_icmp .ne 8, 3) := by decide +kernel
theorem dX5_covering_119 : decode cX5_covering 119 = .ok (.iload 4, 2) := by decide +kernel
theorem dX5_covering_121 : decode cX5_covering 121 = .ok (.goto 5, 3) := by decide +kernel
theorem dX5_covering_124 : decode cX5_covering 124 = .ok (.iload 6, 2) := by decide +kernel
theorem dX5_covering_126 : decode cX5_covering 126 = .ok (.ireturn, 1) := by decide +kernel
set_option maxRecDepth 100000 in
set_option maxHeartbeats 4000000 in
theorem c_X5_covering {l : Launch} {G : Gx} (hap : k_ap G shC.length) (v1 : Int32) (v2 : Int32) (M0 : Mem) (r : Int32 × Mem) (hf : f_X5_covering v1 v2 M0 = some r) : k_Met l yX5_covering cX5_covering 9 (some .int) 5 108 G shC [.ref (G.2.1 41), .int v1, .int v2] M0 (k_Qi G shC r.1 r.2) := by
  refine k_Met_of (by decide) hap (Nat.le_of_ble_eq_true rfl) ?_
  intro p e s m args below meth c C hr hlk
  have C : Cx p s m args c cX5_covering RX5 9 G shC := C
  have k_b25 : ∀ (n25 : Nat) (v1 : Int32) (v2 : Int32) (v3 : Int32) (v4 : Int32) (v5 : Int32) (v6 : Int32) (v7 : Int32) (M : Mem), f_X5_covering_b25 n25 v1 v2 v3 v4 v5 v6 v7 M = some r → K p l e (k_rm 5 108) s m args below meth c 9 G shC (MQ below (k_Qi G shC r.1 r.2) args s 0 0 (k_A G shC.length)) 25 [(0, .ref (G.2.1 41)), (1, .int v1), (2, .int v2), (3, .int v3), (4, .int v4), (5, .int v5), (6, .int v6), (7, .int v7)] [] M := by
    intro n25
    induction n25 with
    | zero => intro v1 v2 v3 v4 v5 v6 v7 M hf; simp [f_X5_covering_b25] at hf
    | succ n25 ih25 =>
      have k_b80 : ∀ (v1 : Int32) (v2 : Int32) (v3 : Int32) (v4 : Int32) (v5 : Int32) (v6 : Int32) (v7 : Int32) (v8 : Int32) (M : Mem), f_X5_covering_b80 (f_X5_covering_b25 n25) v1 v2 v3 v4 v5 v6 v7 v8 M = some r → K p l e (k_rm 5 108) s m args below meth c 9 G shC (MQ below (k_Qi G shC r.1 r.2) args s 0 0 (k_A G shC.length)) 80 [(0, .ref (G.2.1 41)), (1, .int v1), (2, .int v2), (3, .int v3), (4, .int v4), (5, .int v5), (6, .int v6), (7, .int v7), (8, .int v8)] [] M := by
        intro v1 v2 v3 v4 v5 v6 v7 v8 M hf
        unfold f_X5_covering_b80 at hf
        refine k_iload C dX5_covering_80 8 rfl ?_
        refine k_iload C dX5_covering_82 6 rfl ?_
        rcases ite_g hf with ⟨c12, hf⟩ | ⟨c12, hf⟩
        · refine k_icmp_ge_t C dX5_covering_84 (tgt := 95) (by decide) c12 ?_
          refine k_iinc C dX5_covering_95 7 rfl (v := (v7 + (1 : Int32))) rfl (by decide) [1, 2, 3, 4, 5, 6, 7, 0] (lv' := [(0, .ref (G.2.1 41)), (1, .int v1), (2, .int v2), (3, .int v3), (4, .int v4), (5, .int v5), (6, .int v6), (7, .int (v7 + (1 : Int32)))]) rfl ?_
          refine k_goto C dX5_covering_98 (tgt := 25) (by decide) ?_
          exact ih25 v1 v2 v3 v4 v5 v6 (v7 + (1 : Int32)) M hf
        · refine k_icmp_ge_f C dX5_covering_84 (tgt := 95) (by decide) c12 ?_
          refine k_iload C dX5_covering_87 8 rfl ?_
          refine k_istore C dX5_covering_89 (by decide) [1, 2, 3, 4, 6, 0, 7] (lv' := [(0, .ref (G.2.1 41)), (1, .int v1), (2, .int v2), (3, .int v3), (5, .int v5), (6, .int v8), (7, .int v7)]) rfl ?_
          refine k_iload C dX5_covering_91 6 rfl ?_
          refine k_istore C dX5_covering_93 (by decide) [1, 2, 3, 4, 0, 5, 6, 7] (lv' := [(0, .ref (G.2.1 41)), (1, .int v1), (2, .int v2), (3, .int v3), (4, .int v7), (5, .int v5), (6, .int v8), (7, .int v7)]) rfl ?_
          refine k_iinc C dX5_covering_95 7 rfl (v := (v7 + (1 : Int32))) rfl (by decide) [1, 2, 3, 4, 5, 6, 7, 0] (lv' := [(0, .ref (G.2.1 41)), (1, .int v1), (2, .int v2), (3, .int v3), (4, .int v7), (5, .int v5), (6, .int v8), (7, .int (v7 + (1 : Int32)))]) rfl ?_
          refine k_goto C dX5_covering_98 (tgt := 25) (by decide) ?_
          exact ih25 v1 v2 v3 v7 v5 v8 (v7 + (1 : Int32)) M hf
      intro v1 v2 v3 v4 v5 v6 v7 M hf
      unfold f_X5_covering_b25 at hf
      refine k_iload C dX5_covering_25 7 rfl ?_
      refine k_iconst C dX5_covering_27 (v := (1 : Int32)) rfl ?_
      refine k_aload_n C dX5_covering_28 0 rfl ?_
      refine k_getr C shC_41 (j := 0) rfl FL_X5_9 dX5_covering_29 ?_
      refine k_geti C shC_1 (j := 4) rfl FL_X5_19 dX5_covering_32 ?_
      refine k_ishlJ C dX5_covering_35 ?_
      rcases ite_g hf with ⟨c3, hf⟩ | ⟨c3, hf⟩
      · refine k_icmp_ge_t C dX5_covering_36 (tgt := 101) (by decide) c3 ?_
        refine k_iload_n C dX5_covering_101 2 rfl ?_
        rcases ite_g hf with ⟨c4, hf⟩ | ⟨c4, hf⟩
        · refine k_if_ne_f C dX5_covering_102 (tgt := 107) (by decide) c4 ?_
          refine k_iload_n C dX5_covering_105 3 rfl ?_
          exact k_iret C hr hlk (prf hf) (prs hf) dX5_covering_106
        · refine k_if_ne_t C dX5_covering_102 (tgt := 107) (by decide) c4 ?_
          refine k_iload_n C dX5_covering_107 2 rfl ?_
          refine k_iconst C dX5_covering_108 (v := (1 : Int32)) rfl ?_
          rcases ite_g hf with ⟨c5, hf⟩ | ⟨c5, hf⟩
          · refine k_icmp_eq_t C dX5_covering_109 (tgt := 119) (by decide) c5 ?_
            refine k_iload C dX5_covering_119 4 rfl ?_
            refine k_goto C dX5_covering_121 (tgt := 126) (by decide) ?_
            exact k_iret C hr hlk (prf hf) (prs hf) dX5_covering_126
          · refine k_icmp_eq_f C dX5_covering_109 (tgt := 119) (by decide) c5 ?_
            refine k_iload C dX5_covering_112 4 rfl ?_
            refine k_bipush C dX5_covering_114 (v := (-9 : Int32)) rfl ?_
            rcases ite_g hf with ⟨c6, hf⟩ | ⟨c6, hf⟩
            · refine k_icmp_ne_f C dX5_covering_116 (tgt := 124) (by decide) c6 ?_
              refine k_iload C dX5_covering_119 4 rfl ?_
              refine k_goto C dX5_covering_121 (tgt := 126) (by decide) ?_
              exact k_iret C hr hlk (prf hf) (prs hf) dX5_covering_126
            · refine k_icmp_ne_t C dX5_covering_116 (tgt := 124) (by decide) c6 ?_
              refine k_iload C dX5_covering_124 6 rfl ?_
              exact k_iret C hr hlk (prf hf) (prs hf) dX5_covering_126
      · refine k_icmp_ge_f C dX5_covering_36 (tgt := 101) (by decide) c3 ?_
        refine k_iload_n C dX5_covering_39 1 rfl ?_
        refine k_aload_n C dX5_covering_40 0 rfl ?_
        refine k_iload C dX5_covering_41 7 rfl ?_
        obtain ⟨t7, ht7, hf⟩ := bnd hf
        refine k_callVi C (As := [.int v7]) (c_X5_marksOf hap v7 M t7 ht7) ML_X5_marksOf wd_943 shC_41 rfl rfl rfl ⟨Nat.le_of_ble_eq_true rfl, Nat.le_of_ble_eq_true rfl⟩ (Nat.le_of_ble_eq_true rfl) dX5_covering_43 ?_
        refine k_iconst C dX5_covering_46 (v := (-1 : Int32)) rfl ?_
        refine k_ixor C dX5_covering_47 ?_
        refine k_iand C dX5_covering_48 ?_
        rcases ite_g hf with ⟨c9, hf⟩ | ⟨c9, hf⟩
        · refine k_if_ne_f C dX5_covering_49 (tgt := 95) (by decide) c9 ?_
          refine k_aload_n C dX5_covering_52 0 rfl ?_
          refine k_iload C dX5_covering_53 7 rfl ?_
          obtain ⟨t10, ht10, hf⟩ := bnd hf
          refine k_callVi C (As := [.int v7]) (c_X5_nextOf hap v7 M t10 ht10) ML_X5_nextOf wd_947 shC_41 rfl rfl rfl ⟨Nat.le_of_ble_eq_true rfl, Nat.le_of_ble_eq_true rfl⟩ (Nat.le_of_ble_eq_true rfl) dX5_covering_55 ?_
          refine k_istore C dX5_covering_58 (by decide) [1, 2, 3, 4, 5, 6, 7, 8, 0] (lv' := [(0, .ref (G.2.1 41)), (1, .int v1), (2, .int v2), (3, .int v3), (4, .int v4), (5, .int v5), (6, .int v6), (7, .int v7), (8, .int t10)]) rfl ?_
          refine k_iload C dX5_covering_60 7 rfl ?_
          refine k_callSi C (As := [.int v7]) (c_J6_bitCount_0f7a4 hap v7 M _ rfl) MS_J6_bitCount_0f7a4 wd_952 rfl rfl ⟨Nat.le_of_ble_eq_true rfl, Nat.le_of_ble_eq_true rfl⟩ (Nat.le_of_ble_eq_true rfl) dX5_covering_62 ?_
          refine k_iload C dX5_covering_65 5 rfl ?_
          rcases ite_g hf with ⟨c11, hf⟩ | ⟨c11, hf⟩
          · refine k_icmp_ge_t C dX5_covering_67 (tgt := 80) (by decide) c11 ?_
            exact k_b80 v1 v2 v3 v4 v5 v6 v7 t10 M hf
          · refine k_icmp_ge_f C dX5_covering_67 (tgt := 80) (by decide) c11 ?_
            refine k_iload C dX5_covering_70 7 rfl ?_
            refine k_callSi C (As := [.int v7]) (c_J6_bitCount_0f7a4 hap v7 M _ rfl) MS_J6_bitCount_0f7a4 wd_952 rfl rfl ⟨Nat.le_of_ble_eq_true rfl, Nat.le_of_ble_eq_true rfl⟩ (Nat.le_of_ble_eq_true rfl) dX5_covering_72 ?_
            refine k_istore C dX5_covering_75 (by decide) [1, 2, 3, 5, 0, 6, 7, 8] (lv' := [(0, .ref (G.2.1 41)), (1, .int v1), (2, .int v2), (4, .int v4), (5, .int (f_J6_bitCount_0f7a4 v7)), (6, .int v6), (7, .int v7), (8, .int t10)]) rfl ?_
            refine k_iload C dX5_covering_77 6 rfl ?_
            refine k_istore_n C dX5_covering_79 (by decide) [1, 2, 3, 0, 4, 5, 6, 7, 8] (lv' := [(0, .ref (G.2.1 41)), (1, .int v1), (2, .int v2), (3, .int v7), (4, .int v4), (5, .int (f_J6_bitCount_0f7a4 v7)), (6, .int v6), (7, .int v7), (8, .int t10)]) rfl ?_
            exact k_b80 v1 v2 v7 v4 (f_J6_bitCount_0f7a4 v7) v6 v7 t10 M hf
        · refine k_if_ne_t C dX5_covering_49 (tgt := 95) (by decide) c9 ?_
          refine k_iinc C dX5_covering_95 7 rfl (v := (v7 + (1 : Int32))) rfl (by decide) [1, 2, 3, 4, 5, 6, 7, 0] (lv' := [(0, .ref (G.2.1 41)), (1, .int v1), (2, .int v2), (3, .int v3), (4, .int v4), (5, .int v5), (6, .int v6), (7, .int (v7 + (1 : Int32)))]) rfl ?_
          refine k_goto C dX5_covering_98 (tgt := 25) (by decide) ?_
          exact ih25 v1 v2 v3 v4 v5 v6 (v7 + (1 : Int32)) M hf
  unfold f_X5_covering at hf
  refine k_lv (lv' := [(0, .ref (G.2.1 41)), (1, .int v1), (2, .int v2)]) [0, 1, 2] rfl ?_
  refine k_aload_n C dX5_covering_0 0 rfl ?_
  refine k_getr C shC_41 (j := 1) rfl FL_X5_15 dX5_covering_1 ?_
  obtain ⟨M1, hM1, hf⟩ := bnd hf
  refine k_callVv C (As := []) (c_X8_openBehindLog hap M0 M1 hM1) ML_X8_openBehindLog wd_941 shC_25 rfl rfl rfl ⟨Nat.le_of_ble_eq_true rfl, Nat.le_of_ble_eq_true rfl⟩ (Nat.le_of_ble_eq_true rfl) dX5_covering_4 ?_
  refine k_bipush C dX5_covering_7 (v := (-9 : Int32)) rfl ?_
  refine k_istore_n C dX5_covering_9 (by decide) [1, 2, 3, 0] (lv' := [(0, .ref (G.2.1 41)), (1, .int v1), (2, .int v2), (3, .int (-9 : Int32))]) rfl ?_
  refine k_bipush C dX5_covering_10 (v := (-9 : Int32)) rfl ?_
  refine k_istore C dX5_covering_12 (by decide) [1, 2, 3, 4, 0] (lv' := [(0, .ref (G.2.1 41)), (1, .int v1), (2, .int v2), (3, .int (-9 : Int32)), (4, .int (-9 : Int32))]) rfl ?_
  refine k_bipush C dX5_covering_14 (v := (9 : Int32)) rfl ?_
  refine k_istore C dX5_covering_16 (by decide) [1, 2, 3, 4, 5, 0] (lv' := [(0, .ref (G.2.1 41)), (1, .int v1), (2, .int v2), (3, .int (-9 : Int32)), (4, .int (-9 : Int32)), (5, .int (9 : Int32))]) rfl ?_
  refine k_ldc C dX5_covering_18 wd_942 ?_
  refine k_istore C dX5_covering_20 (by decide) [1, 2, 3, 4, 5, 6, 0] (lv' := [(0, .ref (G.2.1 41)), (1, .int v1), (2, .int v2), (3, .int (-9 : Int32)), (4, .int (-9 : Int32)), (5, .int (9 : Int32)), (6, .int (2147483647 : Int32))]) rfl ?_
  refine k_iconst C dX5_covering_22 (v := (0 : Int32)) rfl ?_
  refine k_istore C dX5_covering_23 (by decide) [1, 2, 3, 4, 5, 6, 7, 0] (lv' := [(0, .ref (G.2.1 41)), (1, .int v1), (2, .int v2), (3, .int (-9 : Int32)), (4, .int (-9 : Int32)), (5, .int (9 : Int32)), (6, .int (2147483647 : Int32)), (7, .int (0 : Int32))]) rfl ?_
  exact k_b25 FU v1 v2 (-9 : Int32) (-9 : Int32) (9 : Int32) (2147483647 : Int32) (0 : Int32) M1 hf
theorem dX5_closestTwo_0 : decode cX5_closestTwo 0 = .ok (.bipush (-9), 2) := by decide +kernel
theorem dX5_closestTwo_2 : decode cX5_closestTwo 2 = .ok (.istore_n 2, 1) := by decide +kernel
theorem dX5_closestTwo_3 : decode cX5_closestTwo 3 = .ok (.iconst (-1), 1) := by decide +kernel
theorem dX5_closestTwo_4 : decode cX5_closestTwo 4 = .ok (.istore_n 3, 1) := by decide +kernel
theorem dX5_closestTwo_5 : decode cX5_closestTwo 5 = .ok (.iconst 0, 1) := by decide +kernel
theorem dX5_closestTwo_6 : decode cX5_closestTwo 6 = .ok (.istore 4, 2) := by decide +kernel
theorem dX5_closestTwo_8 : decode cX5_closestTwo 8 = .ok (.iload 4, 2) := by decide +kernel
theorem dX5_closestTwo_10 : decode cX5_closestTwo 10 = .ok (.aload_n 0, 1) := by decide +kernel
theorem dX5_closestTwo_11 : decode cX5_closestTwo 11 = .ok (.getfield 9, 3) := by decide +kernel
theorem dX5_closestTwo_14 : decode cX5_closestTwo 14 = .ok (.getfield 19, 3) := by decide +kernel
theorem dX5_closestTwo_17 : decode cX5_closestTwo 17 = .ok (.if_icmp .ge 77, 3) := by decide +kernel
theorem dX5_closestTwo_20 : decode cX5_closestTwo 20 = .ok (.iload 4, 2) := by decide +kernel
theorem dX5_closestTwo_22 : decode cX5_closestTwo 22 = .ok (.iconst 1, 1) := by decide +kernel
theorem dX5_closestTwo_23 : decode cX5_closestTwo 23 = .ok (.iadd, 1) := by decide +kernel
theorem dX5_closestTwo_24 : decode cX5_closestTwo 24 = .ok (.istore 5, 2) := by decide +kernel
theorem dX5_closestTwo_26 : decode cX5_closestTwo 26 = .ok (.iload 5, 2) := by decide +kernel
theorem dX5_closestTwo_28 : decode cX5_closestTwo 28 = .ok (.aload_n 0, 1) := by decide +kernel
theorem dX5_closestTwo_29 : decode cX5_closestTwo 29 = .ok (.getfield 9, 3) := by decide +kernel
theorem dX5_closestTwo_32 : decode cX5_closestTwo 32 = .ok (.getfield 19, 3) := by decide +kernel
theorem dX5_closestTwo_35 : decode cX5_closestTwo 35 = .ok (.if_icmp .ge 53, 3) := by decide +kernel
theorem dX5_closestTwo_38 : decode cX5_closestTwo 38 = .ok (.aload_n 0, 1) := by decide +kernel
theorem dX5_closestTwo_39 : decode cX5_closestTwo 39 = .ok (.getfield 9, 3) := by decide +kernel
theorem dX5_closestTwo_42 : decode cX5_closestTwo 42 = .ok (.getfield 25, 3) := by decide +kernel
theorem dX5_closestTwo_45 : decode cX5_closestTwo 45 = .ok (.iload 4, 2) := by decide +kernel
theorem dX5_closestTwo_47 : decode cX5_closestTwo 47 = .ok (.iaload, 1) := by decide +kernel
theorem dX5_closestTwo_48 : decode cX5_closestTwo 48 = .ok (.aload_n 0, 1) := by decide +kernel
theorem dX5_closestTwo_49 : decode cX5_closestTwo 49 = .ok (.getfield 9, 3) := by decide +kernel
theorem dX5_closestTwo_52 : decode cX5_closestTwo 52 = .ok (.getfield 25, 3) := by decide +kernel
theorem dX5_closestTwo_55 : decode cX5_closestTwo 55 = .ok (.iload 5, 2) := by decide +kernel
theorem dX5_closestTwo_57 : decode cX5_closestTwo 57 = .ok (.iaload, 1) := by decide +kernel
theorem dX5_closestTwo_58 : decode cX5_closestTwo 58 = .ok (.iand, 1) := by decide +kernel
theorem dX5_closestTwo_59 : decode cX5_closestTwo 59 = .ok (.invokestatic 29, 3) := by decide +kernel
theorem dX5_closestTwo_62 : decode cX5_closestTwo 62 = .ok (.istore 6, 2) := by decide +kernel
theorem dX5_closestTwo_64 : decode cX5_closestTwo 64 = .ok (.iload 6, 2) := by decide +kernel
theorem dX5_closestTwo_66 : decode cX5_closestTwo 66 = .ok (.iload_n 3, 1) := by decide +kernel
theorem dX5_closestTwo_67 : decode cX5_closestTwo 67 = .ok (.if_icmp .le 15, 3) := by decide +kernel
theorem dX5_closestTwo_70 : decode cX5_closestTwo 70 = .ok (.iload 6, 2) := by decide +kernel
theorem dX5_closestTwo_72 : decode cX5_closestTwo 72 = .ok (.istore_n 3, 1) := by decide +kernel
theorem dX5_closestTwo_73 : decode cX5_closestTwo 73 = .ok (.bipush 10, 2) := by decide +kernel
theorem dX5_closestTwo_75 : decode cX5_closestTwo 75 = .ok (.iload 4, 2) := by decide +kernel
theorem dX5_closestTwo_77 : decode cX5_closestTwo 77 = .ok (.imul, 1) := by decide +kernel
theorem dX5_closestTwo_78 : decode cX5_closestTwo 78 = .ok (.iload 5, 2) := by decide +kernel
theorem dX5_closestTwo_80 : decode cX5_closestTwo 80 = .ok (.iadd, 1) := by decide +kernel
theorem dX5_closestTwo_81 : decode cX5_closestTwo 81 = .ok (.istore_n 2, 1) := by decide +kernel
theorem dX5_closestTwo_82 : decode cX5_closestTwo 82 = .ok (.iinc 5 1, 3) := by decide +kernel
theorem dX5_closestTwo_85 : decode cX5_closestTwo 85 = .ok (.goto (-59), 3) := by decide +kernel
theorem dX5_closestTwo_88 : decode cX5_closestTwo 88 = .ok (.iinc 4 1, 3) := by decide +kernel
theorem dX5_closestTwo_91 : decode cX5_closestTwo 91 = .ok (.goto (-83), 3) := by decide +kernel
theorem dX5_closestTwo_94 : decode cX5_closestTwo 94 = .ok (.iload_n 1, 1) := by decide +kernel
theorem dX5_closestTwo_95 : decode cX5_closestTwo 95 = .ok (.ifCond .eq 9, 3) := by decide +kernel
theorem dX5_closestTwo_98 : decode cX5_closestTwo 98 = .ok (.iload_n 2, 1) := by decide +kernel
theorem dX5_closestTwo_99 : decode cX5_closestTwo 99 = .ok (.bipush (-9), 2) := by decide +kernel
theorem dX5_closestTwo_101 : decode cX5_closestTwo 101 = .ok (.if_icmp .ne 7, 3) := by decide +kernel
theorem dX5_closestTwo_104 : decode cX5_closestTwo 104 = .ok (.iload_n 2, 1) := by decide +kernel
theorem dX5_closestTwo_105 : decode cX5_closestTwo 105 = .ok (.goto 4, 3) := by decide +kernel
theorem dX5_closestTwo_108 : decode cX5_closestTwo 108 = .ok (.iload_n 3, 1) := by decide +kernel
theorem dX5_closestTwo_109 : decode cX5_closestTwo 109 = .ok (.ireturn, 1) := by decide +kernel
set_option maxRecDepth 100000 in
set_option maxHeartbeats 4000000 in
theorem c_X5_closestTwo {l : Launch} {G : Gx} (hap : k_ap G shC.length) (v1 : Int32) (M0 : Mem) (r : Int32) (hf : f_X5_closestTwo v1 M0 = some r) : k_Met l yX5_closestTwo cX5_closestTwo 7 (some .int) 1 20 G shC [.ref (G.2.1 41), .int v1] M0 (k_Qi G shC r M0) := by
  refine k_Met_of (by decide) hap (Nat.le_of_ble_eq_true rfl) ?_
  intro p e s m args below meth c C hr hlk
  have C : Cx p s m args c cX5_closestTwo RX5 7 G shC := C
  have k_b8 : ∀ (n8 : Nat) (v1 : Int32) (v2 : Int32) (v3 : Int32) (v4 : Int32), f_X5_closestTwo_b8 M0 n8 v1 v2 v3 v4 = some r → K p l e (k_rm 1 20) s m args below meth c 7 G shC (MQ below (k_Qi G shC r M0) args s 0 0 (k_A G shC.length)) 8 [(0, .ref (G.2.1 41)), (1, .int v1), (2, .int v2), (3, .int v3), (4, .int v4)] [] M0 := by
    intro n8
    induction n8 with
    | zero => intro v1 v2 v3 v4 hf; simp [f_X5_closestTwo_b8] at hf
    | succ n8 ih8 =>
      have k_b26 : ∀ (n26 : Nat) (v1 : Int32) (v2 : Int32) (v3 : Int32) (v4 : Int32) (v5 : Int32), f_X5_closestTwo_b26 M0 (f_X5_closestTwo_b8 M0 n8) n26 v1 v2 v3 v4 v5 = some r → K p l e (k_rm 1 20) s m args below meth c 7 G shC (MQ below (k_Qi G shC r M0) args s 0 0 (k_A G shC.length)) 26 [(0, .ref (G.2.1 41)), (1, .int v1), (2, .int v2), (3, .int v3), (4, .int v4), (5, .int v5)] [] M0 := by
        intro n26
        induction n26 with
        | zero => intro v1 v2 v3 v4 v5 hf; simp [f_X5_closestTwo_b26] at hf
        | succ n26 ih26 =>
          intro v1 v2 v3 v4 v5 hf
          unfold f_X5_closestTwo_b26 at hf
          refine k_iload C dX5_closestTwo_26 5 rfl ?_
          refine k_aload_n C dX5_closestTwo_28 0 rfl ?_
          refine k_getr C shC_41 (j := 0) rfl FL_X5_9 dX5_closestTwo_29 ?_
          refine k_geti C shC_1 (j := 4) rfl FL_X5_19 dX5_closestTwo_32 ?_
          rcases ite_g hf with ⟨c4, hf⟩ | ⟨c4, hf⟩
          · refine k_icmp_ge_t C dX5_closestTwo_35 (tgt := 88) (by decide) c4 ?_
            refine k_iinc C dX5_closestTwo_88 4 rfl (v := (v4 + (1 : Int32))) rfl (by decide) [1, 2, 3, 4, 0] (lv' := [(0, .ref (G.2.1 41)), (1, .int v1), (2, .int v2), (3, .int v3), (4, .int (v4 + (1 : Int32)))]) rfl ?_
            refine k_goto C dX5_closestTwo_91 (tgt := 8) (by decide) ?_
            exact ih8 v1 v2 v3 (v4 + (1 : Int32)) hf
          · refine k_icmp_ge_f C dX5_closestTwo_35 (tgt := 88) (by decide) c4 ?_
            refine k_aload_n C dX5_closestTwo_38 0 rfl ?_
            refine k_getr C shC_41 (j := 0) rfl FL_X5_9 dX5_closestTwo_39 ?_
            refine k_getr C shC_1 (j := 2) rfl FL_X5_25 dX5_closestTwo_42 ?_
            refine k_iload C dX5_closestTwo_45 4 rfl ?_
            obtain ⟨t5, ht5, hf⟩ := bnd hf
            refine k_iald C shC_4 ht5 dX5_closestTwo_47 ?_
            refine k_aload_n C dX5_closestTwo_48 0 rfl ?_
            refine k_getr C shC_41 (j := 0) rfl FL_X5_9 dX5_closestTwo_49 ?_
            refine k_getr C shC_1 (j := 2) rfl FL_X5_25 dX5_closestTwo_52 ?_
            refine k_iload C dX5_closestTwo_55 5 rfl ?_
            obtain ⟨t6, ht6, hf⟩ := bnd hf
            refine k_iald C shC_4 ht6 dX5_closestTwo_57 ?_
            refine k_iand C dX5_closestTwo_58 ?_
            refine k_callSi C (As := [.int (t5 &&& t6)]) (c_J6_bitCount_0f7a4 hap (t5 &&& t6) M0 _ rfl) MS_J6_bitCount_0f7a4 wd_952 rfl rfl ⟨Nat.le_of_ble_eq_true rfl, Nat.le_of_ble_eq_true rfl⟩ (Nat.le_of_ble_eq_true rfl) dX5_closestTwo_59 ?_
            refine k_istore C dX5_closestTwo_62 (by decide) [1, 2, 3, 4, 5, 6, 0] (lv' := [(0, .ref (G.2.1 41)), (1, .int v1), (2, .int v2), (3, .int v3), (4, .int v4), (5, .int v5), (6, .int (f_J6_bitCount_0f7a4 (t5 &&& t6)))]) rfl ?_
            refine k_iload C dX5_closestTwo_64 6 rfl ?_
            refine k_iload_n C dX5_closestTwo_66 3 rfl ?_
            rcases ite_g hf with ⟨c7, hf⟩ | ⟨c7, hf⟩
            · refine k_icmp_le_t C dX5_closestTwo_67 (tgt := 82) (by decide) c7 ?_
              refine k_iinc C dX5_closestTwo_82 5 rfl (v := (v5 + (1 : Int32))) rfl (by decide) [1, 2, 3, 4, 5, 0] (lv' := [(0, .ref (G.2.1 41)), (1, .int v1), (2, .int v2), (3, .int v3), (4, .int v4), (5, .int (v5 + (1 : Int32)))]) rfl ?_
              refine k_goto C dX5_closestTwo_85 (tgt := 26) (by decide) ?_
              exact ih26 v1 v2 v3 v4 (v5 + (1 : Int32)) hf
            · refine k_icmp_le_f C dX5_closestTwo_67 (tgt := 82) (by decide) c7 ?_
              refine k_iload C dX5_closestTwo_70 6 rfl ?_
              refine k_istore_n C dX5_closestTwo_72 (by decide) [1, 2, 0, 4, 5] (lv' := [(0, .ref (G.2.1 41)), (1, .int v1), (3, .int (f_J6_bitCount_0f7a4 (t5 &&& t6))), (4, .int v4), (5, .int v5)]) rfl ?_
              refine k_bipush C dX5_closestTwo_73 (v := (10 : Int32)) rfl ?_
              refine k_iload C dX5_closestTwo_75 3 rfl ?_
              refine k_imul C dX5_closestTwo_77 ?_
              refine k_iload C dX5_closestTwo_78 4 rfl ?_
              refine k_iadd C dX5_closestTwo_80 ?_
              refine k_istore_n C dX5_closestTwo_81 (by decide) [1, 2, 0, 3, 4, 5] (lv' := [(0, .ref (G.2.1 41)), (1, .int v1), (2, .int (((10 : Int32) * v4) + v5)), (3, .int (f_J6_bitCount_0f7a4 (t5 &&& t6))), (4, .int v4), (5, .int v5)]) rfl ?_
              refine k_iinc C dX5_closestTwo_82 5 rfl (v := (v5 + (1 : Int32))) rfl (by decide) [1, 2, 3, 4, 5, 0] (lv' := [(0, .ref (G.2.1 41)), (1, .int v1), (2, .int (((10 : Int32) * v4) + v5)), (3, .int (f_J6_bitCount_0f7a4 (t5 &&& t6))), (4, .int v4), (5, .int (v5 + (1 : Int32)))]) rfl ?_
              refine k_goto C dX5_closestTwo_85 (tgt := 26) (by decide) ?_
              exact ih26 v1 (((10 : Int32) * v4) + v5) (f_J6_bitCount_0f7a4 (t5 &&& t6)) v4 (v5 + (1 : Int32)) hf
      intro v1 v2 v3 v4 hf
      unfold f_X5_closestTwo_b8 at hf
      refine k_iload C dX5_closestTwo_8 4 rfl ?_
      refine k_aload_n C dX5_closestTwo_10 0 rfl ?_
      refine k_getr C shC_41 (j := 0) rfl FL_X5_9 dX5_closestTwo_11 ?_
      refine k_geti C shC_1 (j := 4) rfl FL_X5_19 dX5_closestTwo_14 ?_
      rcases ite_g hf with ⟨c1, hf⟩ | ⟨c1, hf⟩
      · refine k_icmp_ge_t C dX5_closestTwo_17 (tgt := 94) (by decide) c1 ?_
        refine k_iload_n C dX5_closestTwo_94 1 rfl ?_
        rcases ite_g hf with ⟨c2, hf⟩ | ⟨c2, hf⟩
        · refine k_if_eq_t C dX5_closestTwo_95 (tgt := 104) (by decide) c2 ?_
          refine k_iload_n C dX5_closestTwo_104 2 rfl ?_
          refine k_goto C dX5_closestTwo_105 (tgt := 109) (by decide) ?_
          exact k_iret C hr hlk (Option.some.inj hf) rfl dX5_closestTwo_109
        · refine k_if_eq_f C dX5_closestTwo_95 (tgt := 104) (by decide) c2 ?_
          refine k_iload_n C dX5_closestTwo_98 2 rfl ?_
          refine k_bipush C dX5_closestTwo_99 (v := (-9 : Int32)) rfl ?_
          rcases ite_g hf with ⟨c3, hf⟩ | ⟨c3, hf⟩
          · refine k_icmp_ne_f C dX5_closestTwo_101 (tgt := 108) (by decide) c3 ?_
            refine k_iload_n C dX5_closestTwo_104 2 rfl ?_
            refine k_goto C dX5_closestTwo_105 (tgt := 109) (by decide) ?_
            exact k_iret C hr hlk (Option.some.inj hf) rfl dX5_closestTwo_109
          · refine k_icmp_ne_t C dX5_closestTwo_101 (tgt := 108) (by decide) c3 ?_
            refine k_iload_n C dX5_closestTwo_108 3 rfl ?_
            exact k_iret C hr hlk (Option.some.inj hf) rfl dX5_closestTwo_109
      · refine k_icmp_ge_f C dX5_closestTwo_17 (tgt := 94) (by decide) c1 ?_
        refine k_iload C dX5_closestTwo_20 4 rfl ?_
        refine k_iconst C dX5_closestTwo_22 (v := (1 : Int32)) rfl ?_
        refine k_iadd C dX5_closestTwo_23 ?_
        refine k_istore C dX5_closestTwo_24 (by decide) [1, 2, 3, 4, 5, 0] (lv' := [(0, .ref (G.2.1 41)), (1, .int v1), (2, .int v2), (3, .int v3), (4, .int v4), (5, .int (v4 + (1 : Int32)))]) rfl ?_
        exact k_b26 FU v1 v2 v3 v4 (v4 + (1 : Int32)) hf
  unfold f_X5_closestTwo at hf
  refine k_lv (lv' := [(0, .ref (G.2.1 41)), (1, .int v1)]) [0, 1] rfl ?_
  refine k_bipush C dX5_closestTwo_0 (v := (-9 : Int32)) rfl ?_
  refine k_istore_n C dX5_closestTwo_2 (by decide) [1, 2, 0] (lv' := [(0, .ref (G.2.1 41)), (1, .int v1), (2, .int (-9 : Int32))]) rfl ?_
  refine k_iconst C dX5_closestTwo_3 (v := (-1 : Int32)) rfl ?_
  refine k_istore_n C dX5_closestTwo_4 (by decide) [1, 2, 3, 0] (lv' := [(0, .ref (G.2.1 41)), (1, .int v1), (2, .int (-9 : Int32)), (3, .int (-1 : Int32))]) rfl ?_
  refine k_iconst C dX5_closestTwo_5 (v := (0 : Int32)) rfl ?_
  refine k_istore C dX5_closestTwo_6 (by decide) [1, 2, 3, 4, 0] (lv' := [(0, .ref (G.2.1 41)), (1, .int v1), (2, .int (-9 : Int32)), (3, .int (-1 : Int32)), (4, .int (0 : Int32))]) rfl ?_
  exact k_b8 FU v1 (-9 : Int32) (-1 : Int32) (0 : Int32) hf
theorem dX5_distance_0 : decode cX5_distance 0 = .ok (.aload_n 0, 1) := by decide +kernel
theorem dX5_distance_1 : decode cX5_distance 1 = .ok (.getfield 9, 3) := by decide +kernel
theorem dX5_distance_4 : decode cX5_distance 4 = .ok (.getfield 25, 3) := by decide +kernel
theorem dX5_distance_7 : decode cX5_distance 7 = .ok (.iload_n 1, 1) := by decide +kernel
theorem dX5_distance_8 : decode cX5_distance 8 = .ok (.iaload, 1) := by decide +kernel
theorem dX5_distance_9 : decode cX5_distance 9 = .ok (.aload_n 0, 1) := by decide +kernel
theorem dX5_distance_10 : decode cX5_distance 10 = .ok (.getfield 9, 3) := by decide +kernel
theorem dX5_distance_13 : decode cX5_distance 13 = .ok (.getfield 25, 3) := by decide +kernel
theorem dX5_distance_16 : decode cX5_distance 16 = .ok (.iload_n 2, 1) := by decide +kernel
theorem dX5_distance_17 : decode cX5_distance 17 = .ok (.iaload, 1) := by decide +kernel
theorem dX5_distance_18 : decode cX5_distance 18 = .ok (.ixor, 1) := by decide +kernel
theorem dX5_distance_19 : decode cX5_distance 19 = .ok (.invokestatic 29, 3) := by decide +kernel
theorem dX5_distance_22 : decode cX5_distance 22 = .ok (.ireturn, 1) := by decide +kernel
set_option maxRecDepth 100000 in
set_option maxHeartbeats 4000000 in
theorem c_X5_distance {l : Launch} {G : Gx} (hap : k_ap G shC.length) (v1 : Int32) (v2 : Int32) (M0 : Mem) (r : Int32) (hf : f_X5_distance v1 v2 M0 = some r) : k_Met l yX5_distance cX5_distance 3 (some .int) 1 20 G shC [.ref (G.2.1 41), .int v1, .int v2] M0 (k_Qi G shC r M0) := by
  refine k_Met_of (by decide) hap (Nat.le_of_ble_eq_true rfl) ?_
  intro p e s m args below meth c C hr hlk
  have C : Cx p s m args c cX5_distance RX5 3 G shC := C
  unfold f_X5_distance at hf
  refine k_lv (lv' := [(0, .ref (G.2.1 41)), (1, .int v1), (2, .int v2)]) [0, 1, 2] rfl ?_
  refine k_aload_n C dX5_distance_0 0 rfl ?_
  refine k_getr C shC_41 (j := 0) rfl FL_X5_9 dX5_distance_1 ?_
  refine k_getr C shC_1 (j := 2) rfl FL_X5_25 dX5_distance_4 ?_
  refine k_iload_n C dX5_distance_7 1 rfl ?_
  obtain ⟨t1, ht1, hf⟩ := bnd hf
  refine k_iald C shC_4 ht1 dX5_distance_8 ?_
  refine k_aload_n C dX5_distance_9 0 rfl ?_
  refine k_getr C shC_41 (j := 0) rfl FL_X5_9 dX5_distance_10 ?_
  refine k_getr C shC_1 (j := 2) rfl FL_X5_25 dX5_distance_13 ?_
  refine k_iload_n C dX5_distance_16 2 rfl ?_
  obtain ⟨t2, ht2, hf⟩ := bnd hf
  refine k_iald C shC_4 ht2 dX5_distance_17 ?_
  refine k_ixor C dX5_distance_18 ?_
  refine k_callSi C (As := [.int (t1 ^^^ t2)]) (c_J6_bitCount_0f7a4 hap (t1 ^^^ t2) M0 _ rfl) MS_J6_bitCount_0f7a4 wd_952 rfl rfl ⟨Nat.le_of_ble_eq_true rfl, Nat.le_of_ble_eq_true rfl⟩ (Nat.le_of_ble_eq_true rfl) dX5_distance_19 ?_
  exact k_iret C hr hlk (Option.some.inj hf) rfl dX5_distance_22
theorem dX5_farthestTwo_0 : decode cX5_farthestTwo 0 = .ok (.iconst 0, 1) := by decide +kernel
theorem dX5_farthestTwo_1 : decode cX5_farthestTwo 1 = .ok (.istore_n 1, 1) := by decide +kernel
theorem dX5_farthestTwo_2 : decode cX5_farthestTwo 2 = .ok (.iconst 0, 1) := by decide +kernel
theorem dX5_farthestTwo_3 : decode cX5_farthestTwo 3 = .ok (.istore_n 2, 1) := by decide +kernel
theorem dX5_farthestTwo_4 : decode cX5_farthestTwo 4 = .ok (.iload_n 2, 1) := by decide +kernel
theorem dX5_farthestTwo_5 : decode cX5_farthestTwo 5 = .ok (.aload_n 0, 1) := by decide +kernel
theorem dX5_farthestTwo_6 : decode cX5_farthestTwo 6 = .ok (.getfield 9, 3) := by decide +kernel
theorem dX5_farthestTwo_9 : decode cX5_farthestTwo 9 = .ok (.getfield 19, 3) := by decide +kernel
theorem dX5_farthestTwo_12 : decode cX5_farthestTwo 12 = .ok (.if_icmp .ge 41, 3) := by decide +kernel
theorem dX5_farthestTwo_15 : decode cX5_farthestTwo 15 = .ok (.iload_n 2, 1) := by decide +kernel
theorem dX5_farthestTwo_16 : decode cX5_farthestTwo 16 = .ok (.iconst 1, 1) := by decide +kernel
theorem dX5_farthestTwo_17 : decode cX5_farthestTwo 17 = .ok (.iadd, 1) := by decide +kernel
theorem dX5_farthestTwo_18 : decode cX5_farthestTwo 18 = .ok (.istore_n 3, 1) := by decide +kernel
theorem dX5_farthestTwo_19 : decode cX5_farthestTwo 19 = .ok (.iload_n 3, 1) := by decide +kernel
theorem dX5_farthestTwo_20 : decode cX5_farthestTwo 20 = .ok (.aload_n 0, 1) := by decide +kernel
theorem dX5_farthestTwo_21 : decode cX5_farthestTwo 21 = .ok (.getfield 9, 3) := by decide +kernel
theorem dX5_farthestTwo_24 : decode cX5_farthestTwo 24 = .ok (.getfield 19, 3) := by decide +kernel
theorem dX5_farthestTwo_27 : decode cX5_farthestTwo 27 = .ok (.if_icmp .ge 20, 3) := by decide +kernel
theorem dX5_farthestTwo_30 : decode cX5_farthestTwo 30 = .ok (.iload_n 1, 1) := by decide +kernel
theorem dX5_farthestTwo_31 : decode cX5_farthestTwo 31 = .ok (.aload_n 0, 1) := by decide +kernel
theorem dX5_farthestTwo_32 : decode cX5_farthestTwo 32 = .ok (.iload_n 2, 1) := by decide +kernel
theorem dX5_farthestTwo_33 : decode cX5_farthestTwo 33 = .ok (.iload_n 3, 1) := by decide +kernel
theorem dX5_farthestTwo_34 : decode cX5_farthestTwo 34 = .ok (.invokevirtual 62, 3) := by decide +kernel
theorem dX5_farthestTwo_37 : decode cX5_farthestTwo 37 = .ok (.invokestatic 65, 3) := by decide +kernel
theorem dX5_farthestTwo_40 : decode cX5_farthestTwo 40 = .ok (.istore_n 1, 1) := by decide +kernel
theorem dX5_farthestTwo_41 : decode cX5_farthestTwo 41 = .ok (.iinc 3 1, 3) := by decide +kernel
theorem dX5_farthestTwo_44 : decode cX5_farthestTwo 44 = .ok (.goto (-25), 3) := by decide +kernel
theorem dX5_farthestTwo_47 : decode cX5_farthestTwo 47 = .ok (.iinc 2 1, 3) := by decide +kernel
theorem dX5_farthestTwo_50 : decode cX5_farthestTwo 50 = .ok (.goto (-46), 3) := by decide +kernel
theorem dX5_farthestTwo_53 : decode cX5_farthestTwo 53 = .ok (.iload_n 1, 1) := by decide +kernel
theorem dX5_farthestTwo_54 : decode cX5_farthestTwo 54 = .ok (.ireturn, 1) := by decide +kernel
set_option maxRecDepth 100000 in
set_option maxHeartbeats 4000000 in
theorem c_X5_farthestTwo {l : Launch} {G : Gx} (hap : k_ap G shC.length) (M0 : Mem) (r : Int32) (hf : f_X5_farthestTwo M0 = some r) : k_Met l yX5_farthestTwo cX5_farthestTwo 4 (some .int) 2 42 G shC [.ref (G.2.1 41)] M0 (k_Qi G shC r M0) := by
  refine k_Met_of (by decide) hap (Nat.le_of_ble_eq_true rfl) ?_
  intro p e s m args below meth c C hr hlk
  have C : Cx p s m args c cX5_farthestTwo RX5 4 G shC := C
  have k_b4 : ∀ (n4 : Nat) (v1 : Int32) (v2 : Int32), f_X5_farthestTwo_b4 M0 n4 v1 v2 = some r → K p l e (k_rm 2 42) s m args below meth c 4 G shC (MQ below (k_Qi G shC r M0) args s 0 0 (k_A G shC.length)) 4 [(0, .ref (G.2.1 41)), (1, .int v1), (2, .int v2)] [] M0 := by
    intro n4
    induction n4 with
    | zero => intro v1 v2 hf; simp [f_X5_farthestTwo_b4] at hf
    | succ n4 ih4 =>
      have k_b19 : ∀ (n19 : Nat) (v1 : Int32) (v2 : Int32) (v3 : Int32), f_X5_farthestTwo_b19 M0 (f_X5_farthestTwo_b4 M0 n4) n19 v1 v2 v3 = some r → K p l e (k_rm 2 42) s m args below meth c 4 G shC (MQ below (k_Qi G shC r M0) args s 0 0 (k_A G shC.length)) 19 [(0, .ref (G.2.1 41)), (1, .int v1), (2, .int v2), (3, .int v3)] [] M0 := by
        intro n19
        induction n19 with
        | zero => intro v1 v2 v3 hf; simp [f_X5_farthestTwo_b19] at hf
        | succ n19 ih19 =>
          intro v1 v2 v3 hf
          unfold f_X5_farthestTwo_b19 at hf
          refine k_iload_n C dX5_farthestTwo_19 3 rfl ?_
          refine k_aload_n C dX5_farthestTwo_20 0 rfl ?_
          refine k_getr C shC_41 (j := 0) rfl FL_X5_9 dX5_farthestTwo_21 ?_
          refine k_geti C shC_1 (j := 4) rfl FL_X5_19 dX5_farthestTwo_24 ?_
          rcases ite_g hf with ⟨c3, hf⟩ | ⟨c3, hf⟩
          · refine k_icmp_ge_t C dX5_farthestTwo_27 (tgt := 47) (by decide) c3 ?_
            refine k_iinc C dX5_farthestTwo_47 2 rfl (v := (v2 + (1 : Int32))) rfl (by decide) [1, 2, 0] (lv' := [(0, .ref (G.2.1 41)), (1, .int v1), (2, .int (v2 + (1 : Int32)))]) rfl ?_
            refine k_goto C dX5_farthestTwo_50 (tgt := 4) (by decide) ?_
            exact ih4 v1 (v2 + (1 : Int32)) hf
          · refine k_icmp_ge_f C dX5_farthestTwo_27 (tgt := 47) (by decide) c3 ?_
            refine k_iload_n C dX5_farthestTwo_30 1 rfl ?_
            refine k_aload_n C dX5_farthestTwo_31 0 rfl ?_
            refine k_iload_n C dX5_farthestTwo_32 2 rfl ?_
            refine k_iload_n C dX5_farthestTwo_33 3 rfl ?_
            obtain ⟨t4, ht4, hf⟩ := bnd hf
            refine k_callVi C (As := [.int v2, .int v3]) (c_X5_distance hap v2 v3 M0 t4 ht4) ML_X5_distance wd_1124 shC_41 rfl rfl rfl ⟨Nat.le_of_ble_eq_true rfl, Nat.le_of_ble_eq_true rfl⟩ (Nat.le_of_ble_eq_true rfl) dX5_farthestTwo_34 ?_
            refine k_max C W_max wd_1128 ⟨Nat.le_of_ble_eq_true rfl, Nat.le_of_ble_eq_true rfl⟩ dX5_farthestTwo_37 ?_
            refine k_istore_n C dX5_farthestTwo_40 (by decide) [1, 0, 2, 3] (lv' := [(0, .ref (G.2.1 41)), (1, .int (mxI v1 t4)), (2, .int v2), (3, .int v3)]) rfl ?_
            refine k_iinc C dX5_farthestTwo_41 3 rfl (v := (v3 + (1 : Int32))) rfl (by decide) [1, 2, 3, 0] (lv' := [(0, .ref (G.2.1 41)), (1, .int (mxI v1 t4)), (2, .int v2), (3, .int (v3 + (1 : Int32)))]) rfl ?_
            refine k_goto C dX5_farthestTwo_44 (tgt := 19) (by decide) ?_
            exact ih19 (mxI v1 t4) v2 (v3 + (1 : Int32)) hf
      intro v1 v2 hf
      unfold f_X5_farthestTwo_b4 at hf
      refine k_iload_n C dX5_farthestTwo_4 2 rfl ?_
      refine k_aload_n C dX5_farthestTwo_5 0 rfl ?_
      refine k_getr C shC_41 (j := 0) rfl FL_X5_9 dX5_farthestTwo_6 ?_
      refine k_geti C shC_1 (j := 4) rfl FL_X5_19 dX5_farthestTwo_9 ?_
      rcases ite_g hf with ⟨c1, hf⟩ | ⟨c1, hf⟩
      · refine k_icmp_ge_t C dX5_farthestTwo_12 (tgt := 53) (by decide) c1 ?_
        refine k_iload_n C dX5_farthestTwo_53 1 rfl ?_
        exact k_iret C hr hlk (Option.some.inj hf) rfl dX5_farthestTwo_54
      · refine k_icmp_ge_f C dX5_farthestTwo_12 (tgt := 53) (by decide) c1 ?_
        refine k_iload_n C dX5_farthestTwo_15 2 rfl ?_
        refine k_iconst C dX5_farthestTwo_16 (v := (1 : Int32)) rfl ?_
        refine k_iadd C dX5_farthestTwo_17 ?_
        refine k_istore_n C dX5_farthestTwo_18 (by decide) [1, 2, 3, 0] (lv' := [(0, .ref (G.2.1 41)), (1, .int v1), (2, .int v2), (3, .int (v2 + (1 : Int32)))]) rfl ?_
        exact k_b19 FU v1 v2 (v2 + (1 : Int32)) hf
  unfold f_X5_farthestTwo at hf
  refine k_lv (lv' := [(0, .ref (G.2.1 41))]) [0] rfl ?_
  refine k_iconst C dX5_farthestTwo_0 (v := (0 : Int32)) rfl ?_
  refine k_istore_n C dX5_farthestTwo_1 (by decide) [1, 0] (lv' := [(0, .ref (G.2.1 41)), (1, .int (0 : Int32))]) rfl ?_
  refine k_iconst C dX5_farthestTwo_2 (v := (0 : Int32)) rfl ?_
  refine k_istore_n C dX5_farthestTwo_3 (by decide) [1, 2, 0] (lv' := [(0, .ref (G.2.1 41)), (1, .int (0 : Int32)), (2, .int (0 : Int32))]) rfl ?_
  exact k_b4 FU (0 : Int32) (0 : Int32) hf
theorem dX5_distancesFrom_0 : decode cX5_distancesFrom 0 = .ok (.iconst 0, 1) := by decide +kernel
theorem dX5_distancesFrom_1 : decode cX5_distancesFrom 1 = .ok (.istore_n 2, 1) := by decide +kernel
theorem dX5_distancesFrom_2 : decode cX5_distancesFrom 2 = .ok (.iconst 0, 1) := by decide +kernel
theorem dX5_distancesFrom_3 : decode cX5_distancesFrom 3 = .ok (.istore_n 3, 1) := by decide +kernel
theorem dX5_distancesFrom_4 : decode cX5_distancesFrom 4 = .ok (.iload_n 3, 1) := by decide +kernel
theorem dX5_distancesFrom_5 : decode cX5_distancesFrom 5 = .ok (.aload_n 0, 1) := by decide +kernel
theorem dX5_distancesFrom_6 : decode cX5_distancesFrom 6 = .ok (.getfield 9, 3) := by decide +kernel
theorem dX5_distancesFrom_9 : decode cX5_distancesFrom 9 = .ok (.getfield 19, 3) := by decide +kernel
theorem dX5_distancesFrom_12 : decode cX5_distancesFrom 12 = .ok (.if_icmp .ge 18, 3) := by decide +kernel
theorem dX5_distancesFrom_15 : decode cX5_distancesFrom 15 = .ok (.iload_n 2, 1) := by decide +kernel
theorem dX5_distancesFrom_16 : decode cX5_distancesFrom 16 = .ok (.aload_n 0, 1) := by decide +kernel
theorem dX5_distancesFrom_17 : decode cX5_distancesFrom 17 = .ok (.iload_n 1, 1) := by decide +kernel
theorem dX5_distancesFrom_18 : decode cX5_distancesFrom 18 = .ok (.iload_n 3, 1) := by decide +kernel
theorem dX5_distancesFrom_19 : decode cX5_distancesFrom 19 = .ok (.invokevirtual 62, 3) := by decide +kernel
theorem dX5_distancesFrom_22 : decode cX5_distancesFrom 22 = .ok (.iadd, 1) := by decide +kernel
theorem dX5_distancesFrom_23 : decode cX5_distancesFrom 23 = .ok (.istore_n 2, 1) := by decide +kernel
theorem dX5_distancesFrom_24 : decode cX5_distancesFrom 24 = .ok (.iinc 3 1, 3) := by decide +kernel
theorem dX5_distancesFrom_27 : decode cX5_distancesFrom 27 = .ok (.goto (-23), 3) := by decide +kernel
theorem dX5_distancesFrom_30 : decode cX5_distancesFrom 30 = .ok (.iload_n 2, 1) := by decide +kernel
theorem dX5_distancesFrom_31 : decode cX5_distancesFrom 31 = .ok (.ireturn, 1) := by decide +kernel
set_option maxRecDepth 100000 in
set_option maxHeartbeats 4000000 in
theorem c_X5_distancesFrom {l : Launch} {G : Gx} (hap : k_ap G shC.length) (v1 : Int32) (M0 : Mem) (r : Int32) (hf : f_X5_distancesFrom v1 M0 = some r) : k_Met l yX5_distancesFrom cX5_distancesFrom 4 (some .int) 2 42 G shC [.ref (G.2.1 41), .int v1] M0 (k_Qi G shC r M0) := by
  refine k_Met_of (by decide) hap (Nat.le_of_ble_eq_true rfl) ?_
  intro p e s m args below meth c C hr hlk
  have C : Cx p s m args c cX5_distancesFrom RX5 4 G shC := C
  have k_b4 : ∀ (n4 : Nat) (v1 : Int32) (v2 : Int32) (v3 : Int32), f_X5_distancesFrom_b4 M0 n4 v1 v2 v3 = some r → K p l e (k_rm 2 42) s m args below meth c 4 G shC (MQ below (k_Qi G shC r M0) args s 0 0 (k_A G shC.length)) 4 [(0, .ref (G.2.1 41)), (1, .int v1), (2, .int v2), (3, .int v3)] [] M0 := by
    intro n4
    induction n4 with
    | zero => intro v1 v2 v3 hf; simp [f_X5_distancesFrom_b4] at hf
    | succ n4 ih4 =>
      intro v1 v2 v3 hf
      unfold f_X5_distancesFrom_b4 at hf
      refine k_iload_n C dX5_distancesFrom_4 3 rfl ?_
      refine k_aload_n C dX5_distancesFrom_5 0 rfl ?_
      refine k_getr C shC_41 (j := 0) rfl FL_X5_9 dX5_distancesFrom_6 ?_
      refine k_geti C shC_1 (j := 4) rfl FL_X5_19 dX5_distancesFrom_9 ?_
      rcases ite_g hf with ⟨c2, hf⟩ | ⟨c2, hf⟩
      · refine k_icmp_ge_t C dX5_distancesFrom_12 (tgt := 30) (by decide) c2 ?_
        refine k_iload_n C dX5_distancesFrom_30 2 rfl ?_
        exact k_iret C hr hlk (Option.some.inj hf) rfl dX5_distancesFrom_31
      · refine k_icmp_ge_f C dX5_distancesFrom_12 (tgt := 30) (by decide) c2 ?_
        refine k_iload_n C dX5_distancesFrom_15 2 rfl ?_
        refine k_aload_n C dX5_distancesFrom_16 0 rfl ?_
        refine k_iload_n C dX5_distancesFrom_17 1 rfl ?_
        refine k_iload_n C dX5_distancesFrom_18 3 rfl ?_
        obtain ⟨t3, ht3, hf⟩ := bnd hf
        refine k_callVi C (As := [.int v1, .int v3]) (c_X5_distance hap v1 v3 M0 t3 ht3) ML_X5_distance wd_1124 shC_41 rfl rfl rfl ⟨Nat.le_of_ble_eq_true rfl, Nat.le_of_ble_eq_true rfl⟩ (Nat.le_of_ble_eq_true rfl) dX5_distancesFrom_19 ?_
        refine k_iadd C dX5_distancesFrom_22 ?_
        refine k_istore_n C dX5_distancesFrom_23 (by decide) [1, 2, 0, 3] (lv' := [(0, .ref (G.2.1 41)), (1, .int v1), (2, .int (v2 + t3)), (3, .int v3)]) rfl ?_
        refine k_iinc C dX5_distancesFrom_24 3 rfl (v := (v3 + (1 : Int32))) rfl (by decide) [1, 2, 3, 0] (lv' := [(0, .ref (G.2.1 41)), (1, .int v1), (2, .int (v2 + t3)), (3, .int (v3 + (1 : Int32)))]) rfl ?_
        refine k_goto C dX5_distancesFrom_27 (tgt := 4) (by decide) ?_
        exact ih4 v1 (v2 + t3) (v3 + (1 : Int32)) hf
  unfold f_X5_distancesFrom at hf
  refine k_lv (lv' := [(0, .ref (G.2.1 41)), (1, .int v1)]) [0, 1] rfl ?_
  refine k_iconst C dX5_distancesFrom_0 (v := (0 : Int32)) rfl ?_
  refine k_istore_n C dX5_distancesFrom_1 (by decide) [1, 2, 0] (lv' := [(0, .ref (G.2.1 41)), (1, .int v1), (2, .int (0 : Int32))]) rfl ?_
  refine k_iconst C dX5_distancesFrom_2 (v := (0 : Int32)) rfl ?_
  refine k_istore_n C dX5_distancesFrom_3 (by decide) [1, 2, 3, 0] (lv' := [(0, .ref (G.2.1 41)), (1, .int v1), (2, .int (0 : Int32)), (3, .int (0 : Int32))]) rfl ?_
  exact k_b4 FU v1 (0 : Int32) (0 : Int32) hf
theorem dX5_centre_0 : decode cX5_centre 0 = .ok (.bipush (-9), 2) := by decide +kernel
theorem dX5_centre_2 : decode cX5_centre 2 = .ok (.istore_n 1, 1) := by decide +kernel
theorem dX5_centre_3 : decode cX5_centre 3 = .ok (.ldc 52, 2) := by decide +kernel
theorem dX5_centre_5 : decode cX5_centre 5 = .ok (.istore_n 2, 1) := by decide +kernel
theorem dX5_centre_6 : decode cX5_centre 6 = .ok (.iconst 0, 1) := by decide +kernel
theorem dX5_centre_7 : decode cX5_centre 7 = .ok (.istore_n 3, 1) := by decide +kernel
theorem dX5_centre_8 : decode cX5_centre 8 = .ok (.iload_n 3, 1) := by decide +kernel
theorem dX5_centre_9 : decode cX5_centre 9 = .ok (.aload_n 0, 1) := by decide +kernel
theorem dX5_centre_10 : decode cX5_centre 10 = .ok (.getfield 9, 3) := by decide +kernel
theorem dX5_centre_13 : decode cX5_centre 13 = .ok (.getfield 19, 3) := by decide +kernel
theorem dX5_centre_16 : decode cX5_centre 16 = .ok (.if_icmp .ge 27, 3) := by decide +kernel
theorem dX5_centre_19 : decode cX5_centre 19 = .ok (.aload_n 0, 1) := by decide +kernel
theorem dX5_centre_20 : decode cX5_centre 20 = .ok (.iload_n 3, 1) := by decide +kernel
theorem dX5_centre_21 : decode cX5_centre 21 = .ok (.invokevirtual 70, 3) := by decide +kernel
theorem dX5_centre_24 : decode cX5_centre 24 = .ok (.istore 4, 2) := by decide +kernel
theorem dX5_centre_26 : decode cX5_centre 26 = .ok (.iload 4, 2) := by decide +kernel
theorem dX5_centre_28 : decode cX5_centre 28 = .ok (.iload_n 2, 1) := by decide +kernel
theorem dX5_centre_29 : decode cX5_centre 29 = .ok (.if_icmp .ge 8, 3) := by decide +kernel
theorem dX5_centre_32 : decode cX5_centre 32 = .ok (.iload 4, 2) := by decide +kernel
theorem dX5_centre_34 : decode cX5_centre 34 = .ok (.istore_n 2, 1) := by decide +kernel
theorem dX5_centre_35 : decode cX5_centre 35 = .ok (.iload_n 3, 1) := by decide +kernel
theorem dX5_centre_36 : decode cX5_centre 36 = .ok (.istore_n 1, 1) := by decide +kernel
theorem dX5_centre_37 : decode cX5_centre 37 = .ok (.iinc 3 1, 3) := by decide +kernel
theorem dX5_centre_40 : decode cX5_centre 40 = .ok (.goto (-32), 3) := by decide +kernel
theorem dX5_centre_43 : decode cX5_centre 43 = .ok (.iload_n 1, 1) := by decide +kernel
theorem dX5_centre_44 : decode cX5_centre 44 = .ok (.ireturn, 1) := by decide +kernel
set_option maxRecDepth 100000 in
set_option maxHeartbeats 4000000 in
theorem c_X5_centre {l : Launch} {G : Gx} (hap : k_ap G shC.length) (M0 : Mem) (r : Int32) (hf : f_X5_centre M0 = some r) : k_Met l yX5_centre cX5_centre 5 (some .int) 3 65 G shC [.ref (G.2.1 41)] M0 (k_Qi G shC r M0) := by
  refine k_Met_of (by decide) hap (Nat.le_of_ble_eq_true rfl) ?_
  intro p e s m args below meth c C hr hlk
  have C : Cx p s m args c cX5_centre RX5 5 G shC := C
  have k_b8 : ∀ (n8 : Nat) (v1 : Int32) (v2 : Int32) (v3 : Int32), f_X5_centre_b8 M0 n8 v1 v2 v3 = some r → K p l e (k_rm 3 65) s m args below meth c 5 G shC (MQ below (k_Qi G shC r M0) args s 0 0 (k_A G shC.length)) 8 [(0, .ref (G.2.1 41)), (1, .int v1), (2, .int v2), (3, .int v3)] [] M0 := by
    intro n8
    induction n8 with
    | zero => intro v1 v2 v3 hf; simp [f_X5_centre_b8] at hf
    | succ n8 ih8 =>
      intro v1 v2 v3 hf
      unfold f_X5_centre_b8 at hf
      refine k_iload_n C dX5_centre_8 3 rfl ?_
      refine k_aload_n C dX5_centre_9 0 rfl ?_
      refine k_getr C shC_41 (j := 0) rfl FL_X5_9 dX5_centre_10 ?_
      refine k_geti C shC_1 (j := 4) rfl FL_X5_19 dX5_centre_13 ?_
      rcases ite_g hf with ⟨c2, hf⟩ | ⟨c2, hf⟩
      · refine k_icmp_ge_t C dX5_centre_16 (tgt := 43) (by decide) c2 ?_
        refine k_iload_n C dX5_centre_43 1 rfl ?_
        exact k_iret C hr hlk (Option.some.inj hf) rfl dX5_centre_44
      · refine k_icmp_ge_f C dX5_centre_16 (tgt := 43) (by decide) c2 ?_
        refine k_aload_n C dX5_centre_19 0 rfl ?_
        refine k_iload_n C dX5_centre_20 3 rfl ?_
        obtain ⟨t3, ht3, hf⟩ := bnd hf
        refine k_callVi C (As := [.int v3]) (c_X5_distancesFrom hap v3 M0 t3 ht3) ML_X5_distancesFrom wd_1133 shC_41 rfl rfl rfl ⟨Nat.le_of_ble_eq_true rfl, Nat.le_of_ble_eq_true rfl⟩ (Nat.le_of_ble_eq_true rfl) dX5_centre_21 ?_
        refine k_istore C dX5_centre_24 (by decide) [1, 2, 3, 4, 0] (lv' := [(0, .ref (G.2.1 41)), (1, .int v1), (2, .int v2), (3, .int v3), (4, .int t3)]) rfl ?_
        refine k_iload C dX5_centre_26 4 rfl ?_
        refine k_iload_n C dX5_centre_28 2 rfl ?_
        rcases ite_g hf with ⟨c4, hf⟩ | ⟨c4, hf⟩
        · refine k_icmp_ge_t C dX5_centre_29 (tgt := 37) (by decide) c4 ?_
          refine k_iinc C dX5_centre_37 3 rfl (v := (v3 + (1 : Int32))) rfl (by decide) [1, 2, 3, 0] (lv' := [(0, .ref (G.2.1 41)), (1, .int v1), (2, .int v2), (3, .int (v3 + (1 : Int32)))]) rfl ?_
          refine k_goto C dX5_centre_40 (tgt := 8) (by decide) ?_
          exact ih8 v1 v2 (v3 + (1 : Int32)) hf
        · refine k_icmp_ge_f C dX5_centre_29 (tgt := 37) (by decide) c4 ?_
          refine k_iload C dX5_centre_32 4 rfl ?_
          refine k_istore_n C dX5_centre_34 (by decide) [1, 0, 3] (lv' := [(0, .ref (G.2.1 41)), (2, .int t3), (3, .int v3)]) rfl ?_
          refine k_iload_n C dX5_centre_35 2 rfl ?_
          refine k_istore_n C dX5_centre_36 (by decide) [1, 0, 2, 3] (lv' := [(0, .ref (G.2.1 41)), (1, .int v3), (2, .int t3), (3, .int v3)]) rfl ?_
          refine k_iinc C dX5_centre_37 3 rfl (v := (v3 + (1 : Int32))) rfl (by decide) [1, 2, 3, 0] (lv' := [(0, .ref (G.2.1 41)), (1, .int v3), (2, .int t3), (3, .int (v3 + (1 : Int32)))]) rfl ?_
          refine k_goto C dX5_centre_40 (tgt := 8) (by decide) ?_
          exact ih8 v3 t3 (v3 + (1 : Int32)) hf
  unfold f_X5_centre at hf
  refine k_lv (lv' := [(0, .ref (G.2.1 41))]) [0] rfl ?_
  refine k_bipush C dX5_centre_0 (v := (-9 : Int32)) rfl ?_
  refine k_istore_n C dX5_centre_2 (by decide) [1, 0] (lv' := [(0, .ref (G.2.1 41)), (1, .int (-9 : Int32))]) rfl ?_
  refine k_ldc C dX5_centre_3 wd_942 ?_
  refine k_istore_n C dX5_centre_5 (by decide) [1, 2, 0] (lv' := [(0, .ref (G.2.1 41)), (1, .int (-9 : Int32)), (2, .int (2147483647 : Int32))]) rfl ?_
  refine k_iconst C dX5_centre_6 (v := (0 : Int32)) rfl ?_
  refine k_istore_n C dX5_centre_7 (by decide) [1, 2, 3, 0] (lv' := [(0, .ref (G.2.1 41)), (1, .int (-9 : Int32)), (2, .int (2147483647 : Int32)), (3, .int (0 : Int32))]) rfl ?_
  exact k_b8 FU (-9 : Int32) (2147483647 : Int32) (0 : Int32) hf
theorem dX5_mostlyHad_0 : decode cX5_mostlyHad 0 = .ok (.iconst 0, 1) := by decide +kernel
theorem dX5_mostlyHad_1 : decode cX5_mostlyHad 1 = .ok (.istore_n 1, 1) := by decide +kernel
theorem dX5_mostlyHad_2 : decode cX5_mostlyHad 2 = .ok (.iconst 0, 1) := by decide +kernel
theorem dX5_mostlyHad_3 : decode cX5_mostlyHad 3 = .ok (.istore_n 2, 1) := by decide +kernel
theorem dX5_mostlyHad_4 : decode cX5_mostlyHad 4 = .ok (.iload_n 2, 1) := by decide +kernel
theorem dX5_mostlyHad_5 : decode cX5_mostlyHad 5 = .ok (.bipush 8, 2) := by decide +kernel
theorem dX5_mostlyHad_7 : decode cX5_mostlyHad 7 = .ok (.if_icmp .ge 68, 3) := by decide +kernel
theorem dX5_mostlyHad_10 : decode cX5_mostlyHad 10 = .ok (.iconst 0, 1) := by decide +kernel
theorem dX5_mostlyHad_11 : decode cX5_mostlyHad 11 = .ok (.istore_n 3, 1) := by decide +kernel
theorem dX5_mostlyHad_12 : decode cX5_mostlyHad 12 = .ok (.iconst 0, 1) := by decide +kernel
theorem dX5_mostlyHad_13 : decode cX5_mostlyHad 13 = .ok (.istore 4, 2) := by decide +kernel
theorem dX5_mostlyHad_15 : decode cX5_mostlyHad 15 = .ok (.iload 4, 2) := by decide +kernel
theorem dX5_mostlyHad_17 : decode cX5_mostlyHad 17 = .ok (.aload_n 0, 1) := by decide +kernel
theorem dX5_mostlyHad_18 : decode cX5_mostlyHad 18 = .ok (.getfield 9, 3) := by decide +kernel
theorem dX5_mostlyHad_21 : decode cX5_mostlyHad 21 = .ok (.getfield 19, 3) := by decide +kernel
theorem dX5_mostlyHad_24 : decode cX5_mostlyHad 24 = .ok (.if_icmp .ge 26, 3) := by decide +kernel
theorem dX5_mostlyHad_27 : decode cX5_mostlyHad 27 = .ok (.iload_n 3, 1) := by decide +kernel
theorem dX5_mostlyHad_28 : decode cX5_mostlyHad 28 = .ok (.aload_n 0, 1) := by decide +kernel
theorem dX5_mostlyHad_29 : decode cX5_mostlyHad 29 = .ok (.getfield 9, 3) := by decide +kernel
theorem dX5_mostlyHad_32 : decode cX5_mostlyHad 32 = .ok (.getfield 25, 3) := by decide +kernel
theorem dX5_mostlyHad_35 : decode cX5_mostlyHad 35 = .ok (.iload 4, 2) := by decide +kernel
theorem dX5_mostlyHad_37 : decode cX5_mostlyHad 37 = .ok (.iaload, 1) := by decide +kernel
theorem dX5_mostlyHad_38 : decode cX5_mostlyHad 38 = .ok (.iload_n 2, 1) := by decide +kernel
theorem dX5_mostlyHad_39 : decode cX5_mostlyHad 39 = .ok (.ishr, 1) := by decide +kernel
theorem dX5_mostlyHad_40 : decode cX5_mostlyHad 40 = .ok (.iconst 1, 1) := by decide +kernel
theorem dX5_mostlyHad_41 : decode cX5_mostlyHad 41 = .ok (.iand, 1) := by decide +kernel
theorem dX5_mostlyHad_42 : decode cX5_mostlyHad 42 = .ok (.iadd, 1) := by decide +kernel
theorem dX5_mostlyHad_43 : decode cX5_mostlyHad 43 = .ok (.istore_n 3, 1) := by decide +kernel
theorem dX5_mostlyHad_44 : decode cX5_mostlyHad 44 = .ok (.iinc 4 1, 3) := by decide +kernel
theorem dX5_mostlyHad_47 : decode cX5_mostlyHad 47 = .ok (.goto (-32), 3) := by decide +kernel
theorem dX5_mostlyHad_50 : decode cX5_mostlyHad 50 = .ok (.iconst 2, 1) := by decide +kernel
theorem dX5_mostlyHad_51 : decode cX5_mostlyHad 51 = .ok (.iload_n 3, 1) := by decide +kernel
theorem dX5_mostlyHad_52 : decode cX5_mostlyHad 52 = .ok (.imul, 1) := by decide +kernel
theorem dX5_mostlyHad_53 : decode cX5_mostlyHad 53 = .ok (.aload_n 0, 1) := by decide +kernel
theorem dX5_mostlyHad_54 : decode cX5_mostlyHad 54 = .ok (.getfield 9, 3) := by decide +kernel
theorem dX5_mostlyHad_57 : decode cX5_mostlyHad 57 = .ok (.getfield 19, 3) := by decide +kernel
theorem dX5_mostlyHad_60 : decode cX5_mostlyHad 60 = .ok (.if_icmp .le 9, 3) := by decide +kernel
theorem dX5_mostlyHad_63 : decode cX5_mostlyHad 63 = .ok (.iload_n 1, 1) := by decide +kernel
theorem dX5_mostlyHad_64 : decode cX5_mostlyHad 64 = .ok (.iconst 1, 1) := by decide +kernel
theorem dX5_mostlyHad_65 : decode cX5_mostlyHad 65 = .ok (.iload_n 2, 1) := by decide +kernel
theorem dX5_mostlyHad_66 : decode cX5_mostlyHad 66 = .ok (.ishl, 1) := by decide +kernel
theorem dX5_mostlyHad_67 : decode cX5_mostlyHad 67 = .ok (.ior, 1) := by decide +kernel
theorem dX5_mostlyHad_68 : decode cX5_mostlyHad 68 = .ok (.istore_n 1, 1) := by decide +kernel
theorem dX5_mostlyHad_69 : decode cX5_mostlyHad 69 = .ok (.iinc 2 1, 3) := by decide +kernel
theorem dX5_mostlyHad_72 : decode cX5_mostlyHad 72 = .ok (.goto (-68), 3) := by decide +kernel
theorem dX5_mostlyHad_75 : decode cX5_mostlyHad 75 = .ok (.iload_n 1, 1) := by decide +kernel
theorem dX5_mostlyHad_76 : decode cX5_mostlyHad 76 = .ok (.ireturn, 1) := by decide +kernel
set_option maxRecDepth 100000 in
set_option maxHeartbeats 4000000 in
theorem c_X5_mostlyHad {l : Launch} {G : Gx} (hap : k_ap G shC.length) (M0 : Mem) (r : Int32) (hf : f_X5_mostlyHad M0 = some r) : k_Met l yX5_mostlyHad cX5_mostlyHad 5 (some .int) 0 0 G shC [.ref (G.2.1 41)] M0 (k_Qi G shC r M0) := by
  refine k_Met_of (by decide) hap (Nat.le_of_ble_eq_true rfl) ?_
  intro p e s m args below meth c C hr hlk
  have C : Cx p s m args c cX5_mostlyHad RX5 5 G shC := C
  have k_b4 : ∀ (n4 : Nat) (v1 : Int32) (v2 : Int32), f_X5_mostlyHad_b4 M0 n4 v1 v2 = some r → K p l e (k_rm 0 0) s m args below meth c 5 G shC (MQ below (k_Qi G shC r M0) args s 0 0 (k_A G shC.length)) 4 [(0, .ref (G.2.1 41)), (1, .int v1), (2, .int v2)] [] M0 := by
    intro n4
    induction n4 with
    | zero => intro v1 v2 hf; simp [f_X5_mostlyHad_b4] at hf
    | succ n4 ih4 =>
      have k_b15 : ∀ (n15 : Nat) (v1 : Int32) (v2 : Int32) (v3 : Int32) (v4 : Int32), f_X5_mostlyHad_b15 M0 (f_X5_mostlyHad_b4 M0 n4) n15 v1 v2 v3 v4 = some r → K p l e (k_rm 0 0) s m args below meth c 5 G shC (MQ below (k_Qi G shC r M0) args s 0 0 (k_A G shC.length)) 15 [(0, .ref (G.2.1 41)), (1, .int v1), (2, .int v2), (3, .int v3), (4, .int v4)] [] M0 := by
        intro n15
        induction n15 with
        | zero => intro v1 v2 v3 v4 hf; simp [f_X5_mostlyHad_b15] at hf
        | succ n15 ih15 =>
          intro v1 v2 v3 v4 hf
          unfold f_X5_mostlyHad_b15 at hf
          refine k_iload C dX5_mostlyHad_15 4 rfl ?_
          refine k_aload_n C dX5_mostlyHad_17 0 rfl ?_
          refine k_getr C shC_41 (j := 0) rfl FL_X5_9 dX5_mostlyHad_18 ?_
          refine k_geti C shC_1 (j := 4) rfl FL_X5_19 dX5_mostlyHad_21 ?_
          rcases ite_g hf with ⟨c2, hf⟩ | ⟨c2, hf⟩
          · refine k_icmp_ge_t C dX5_mostlyHad_24 (tgt := 50) (by decide) c2 ?_
            refine k_iconst C dX5_mostlyHad_50 (v := (2 : Int32)) rfl ?_
            refine k_iload_n C dX5_mostlyHad_51 3 rfl ?_
            refine k_imul C dX5_mostlyHad_52 ?_
            refine k_aload_n C dX5_mostlyHad_53 0 rfl ?_
            refine k_getr C shC_41 (j := 0) rfl FL_X5_9 dX5_mostlyHad_54 ?_
            refine k_geti C shC_1 (j := 4) rfl FL_X5_19 dX5_mostlyHad_57 ?_
            rcases ite_g hf with ⟨c3, hf⟩ | ⟨c3, hf⟩
            · refine k_icmp_le_t C dX5_mostlyHad_60 (tgt := 69) (by decide) c3 ?_
              refine k_iinc C dX5_mostlyHad_69 2 rfl (v := (v2 + (1 : Int32))) rfl (by decide) [1, 2, 0] (lv' := [(0, .ref (G.2.1 41)), (1, .int v1), (2, .int (v2 + (1 : Int32)))]) rfl ?_
              refine k_goto C dX5_mostlyHad_72 (tgt := 4) (by decide) ?_
              exact ih4 v1 (v2 + (1 : Int32)) hf
            · refine k_icmp_le_f C dX5_mostlyHad_60 (tgt := 69) (by decide) c3 ?_
              refine k_iload_n C dX5_mostlyHad_63 1 rfl ?_
              refine k_iconst C dX5_mostlyHad_64 (v := (1 : Int32)) rfl ?_
              refine k_iload_n C dX5_mostlyHad_65 2 rfl ?_
              refine k_ishlJ C dX5_mostlyHad_66 ?_
              refine k_ior C dX5_mostlyHad_67 ?_
              refine k_istore_n C dX5_mostlyHad_68 (by decide) [1, 0, 2] (lv' := [(0, .ref (G.2.1 41)), (1, .int (v1 ||| (jshl (1 : Int32) v2))), (2, .int v2)]) rfl ?_
              refine k_iinc C dX5_mostlyHad_69 2 rfl (v := (v2 + (1 : Int32))) rfl (by decide) [1, 2, 0] (lv' := [(0, .ref (G.2.1 41)), (1, .int (v1 ||| (jshl (1 : Int32) v2))), (2, .int (v2 + (1 : Int32)))]) rfl ?_
              refine k_goto C dX5_mostlyHad_72 (tgt := 4) (by decide) ?_
              exact ih4 (v1 ||| (jshl (1 : Int32) v2)) (v2 + (1 : Int32)) hf
          · refine k_icmp_ge_f C dX5_mostlyHad_24 (tgt := 50) (by decide) c2 ?_
            refine k_iload_n C dX5_mostlyHad_27 3 rfl ?_
            refine k_aload_n C dX5_mostlyHad_28 0 rfl ?_
            refine k_getr C shC_41 (j := 0) rfl FL_X5_9 dX5_mostlyHad_29 ?_
            refine k_getr C shC_1 (j := 2) rfl FL_X5_25 dX5_mostlyHad_32 ?_
            refine k_iload C dX5_mostlyHad_35 4 rfl ?_
            obtain ⟨t4, ht4, hf⟩ := bnd hf
            refine k_iald C shC_4 ht4 dX5_mostlyHad_37 ?_
            refine k_iload_n C dX5_mostlyHad_38 2 rfl ?_
            refine k_ishrJ C dX5_mostlyHad_39 ?_
            refine k_iconst C dX5_mostlyHad_40 (v := (1 : Int32)) rfl ?_
            refine k_iand C dX5_mostlyHad_41 ?_
            refine k_iadd C dX5_mostlyHad_42 ?_
            refine k_istore_n C dX5_mostlyHad_43 (by decide) [1, 2, 3, 0, 4] (lv' := [(0, .ref (G.2.1 41)), (1, .int v1), (2, .int v2), (3, .int (v3 + ((jshr t4 v2) &&& (1 : Int32)))), (4, .int v4)]) rfl ?_
            refine k_iinc C dX5_mostlyHad_44 4 rfl (v := (v4 + (1 : Int32))) rfl (by decide) [1, 2, 3, 4, 0] (lv' := [(0, .ref (G.2.1 41)), (1, .int v1), (2, .int v2), (3, .int (v3 + ((jshr t4 v2) &&& (1 : Int32)))), (4, .int (v4 + (1 : Int32)))]) rfl ?_
            refine k_goto C dX5_mostlyHad_47 (tgt := 15) (by decide) ?_
            exact ih15 v1 v2 (v3 + ((jshr t4 v2) &&& (1 : Int32))) (v4 + (1 : Int32)) hf
      intro v1 v2 hf
      unfold f_X5_mostlyHad_b4 at hf
      refine k_iload_n C dX5_mostlyHad_4 2 rfl ?_
      refine k_bipush C dX5_mostlyHad_5 (v := (8 : Int32)) rfl ?_
      rcases ite_g hf with ⟨c1, hf⟩ | ⟨c1, hf⟩
      · refine k_icmp_ge_t C dX5_mostlyHad_7 (tgt := 75) (by decide) c1 ?_
        refine k_iload_n C dX5_mostlyHad_75 1 rfl ?_
        exact k_iret C hr hlk (Option.some.inj hf) rfl dX5_mostlyHad_76
      · refine k_icmp_ge_f C dX5_mostlyHad_7 (tgt := 75) (by decide) c1 ?_
        refine k_iconst C dX5_mostlyHad_10 (v := (0 : Int32)) rfl ?_
        refine k_istore_n C dX5_mostlyHad_11 (by decide) [1, 2, 3, 0] (lv' := [(0, .ref (G.2.1 41)), (1, .int v1), (2, .int v2), (3, .int (0 : Int32))]) rfl ?_
        refine k_iconst C dX5_mostlyHad_12 (v := (0 : Int32)) rfl ?_
        refine k_istore C dX5_mostlyHad_13 (by decide) [1, 2, 3, 4, 0] (lv' := [(0, .ref (G.2.1 41)), (1, .int v1), (2, .int v2), (3, .int (0 : Int32)), (4, .int (0 : Int32))]) rfl ?_
        exact k_b15 FU v1 v2 (0 : Int32) (0 : Int32) hf
  unfold f_X5_mostlyHad at hf
  refine k_lv (lv' := [(0, .ref (G.2.1 41))]) [0] rfl ?_
  refine k_iconst C dX5_mostlyHad_0 (v := (0 : Int32)) rfl ?_
  refine k_istore_n C dX5_mostlyHad_1 (by decide) [1, 0] (lv' := [(0, .ref (G.2.1 41)), (1, .int (0 : Int32))]) rfl ?_
  refine k_iconst C dX5_mostlyHad_2 (v := (0 : Int32)) rfl ?_
  refine k_istore_n C dX5_mostlyHad_3 (by decide) [1, 2, 0] (lv' := [(0, .ref (G.2.1 41)), (1, .int (0 : Int32)), (2, .int (0 : Int32))]) rfl ?_
  exact k_b4 FU (0 : Int32) (0 : Int32) hf
theorem dX5_isNewSet_0 : decode cX5_isNewSet 0 = .ok (.iconst 0, 1) := by decide +kernel
theorem dX5_isNewSet_1 : decode cX5_isNewSet 1 = .ok (.istore_n 2, 1) := by decide +kernel
theorem dX5_isNewSet_2 : decode cX5_isNewSet 2 = .ok (.iload_n 2, 1) := by decide +kernel
theorem dX5_isNewSet_3 : decode cX5_isNewSet 3 = .ok (.iload_n 1, 1) := by decide +kernel
theorem dX5_isNewSet_4 : decode cX5_isNewSet 4 = .ok (.if_icmp .ge 32, 3) := by decide +kernel
theorem dX5_isNewSet_7 : decode cX5_isNewSet 7 = .ok (.aload_n 0, 1) := by decide +kernel
theorem dX5_isNewSet_8 : decode cX5_isNewSet 8 = .ok (.getfield 9, 3) := by decide +kernel
theorem dX5_isNewSet_11 : decode cX5_isNewSet 11 = .ok (.getfield 25, 3) := by decide +kernel
theorem dX5_isNewSet_14 : decode cX5_isNewSet 14 = .ok (.iload_n 2, 1) := by decide +kernel
theorem dX5_isNewSet_15 : decode cX5_isNewSet 15 = .ok (.iaload, 1) := by decide +kernel
theorem dX5_isNewSet_16 : decode cX5_isNewSet 16 = .ok (.aload_n 0, 1) := by decide +kernel
theorem dX5_isNewSet_17 : decode cX5_isNewSet 17 = .ok (.getfield 9, 3) := by decide +kernel
theorem dX5_isNewSet_20 : decode cX5_isNewSet 20 = .ok (.getfield 25, 3) := by decide +kernel
theorem dX5_isNewSet_23 : decode cX5_isNewSet 23 = .ok (.iload_n 1, 1) := by decide +kernel
theorem dX5_isNewSet_24 : decode cX5_isNewSet 24 = .ok (.iaload, 1) := by decide +kernel
theorem dX5_isNewSet_25 : decode cX5_isNewSet 25 = .ok (.if_icmp .ne 5, 3) := by decide +kernel
theorem dX5_isNewSet_28 : decode cX5_isNewSet 28 = .ok (.iconst 0, 1) := by decide +kernel
theorem dX5_isNewSet_29 : decode cX5_isNewSet 29 = .ok (.ireturn, 1) := by decide +kernel
theorem dX5_isNewSet_30 : decode cX5_isNewSet 30 = .ok (.iinc 2 1, 3) := by decide +kernel
theorem dX5_isNewSet_33 : decode cX5_isNewSet 33 = .ok (.goto (-31), 3) := by decide +kernel
theorem dX5_isNewSet_36 : decode cX5_isNewSet 36 = .ok (.iconst 1, 1) := by decide +kernel
theorem dX5_isNewSet_37 : decode cX5_isNewSet 37 = .ok (.ireturn, 1) := by decide +kernel
set_option maxRecDepth 100000 in
set_option maxHeartbeats 4000000 in
theorem c_X5_isNewSet {l : Launch} {G : Gx} (hap : k_ap G shC.length) (v1 : Int32) (M0 : Mem) (r : Int32) (hf : f_X5_isNewSet v1 M0 = some r) : k_Met l yX5_isNewSet cX5_isNewSet 3 (some .boolean) 0 0 G shC [.ref (G.2.1 41), .int v1] M0 (k_Qi G shC r M0) := by
  refine k_Met_of (by decide) hap (Nat.le_of_ble_eq_true rfl) ?_
  intro p e s m args below meth c C hr hlk
  have C : Cx p s m args c cX5_isNewSet RX5 3 G shC := C
  have k_b2 : ∀ (n2 : Nat) (v1 : Int32) (v2 : Int32), f_X5_isNewSet_b2 M0 n2 v1 v2 = some r → K p l e (k_rm 0 0) s m args below meth c 3 G shC (MQ below (k_Qi G shC r M0) args s 0 0 (k_A G shC.length)) 2 [(0, .ref (G.2.1 41)), (1, .int v1), (2, .int v2)] [] M0 := by
    intro n2
    induction n2 with
    | zero => intro v1 v2 hf; simp [f_X5_isNewSet_b2] at hf
    | succ n2 ih2 =>
      intro v1 v2 hf
      unfold f_X5_isNewSet_b2 at hf
      refine k_iload_n C dX5_isNewSet_2 2 rfl ?_
      refine k_iload_n C dX5_isNewSet_3 1 rfl ?_
      rcases ite_g hf with ⟨c1, hf⟩ | ⟨c1, hf⟩
      · refine k_icmp_ge_t C dX5_isNewSet_4 (tgt := 36) (by decide) c1 ?_
        refine k_iconst C dX5_isNewSet_36 (v := (1 : Int32)) rfl ?_
        exact k_zret C hr hlk (gZ1.trans (congrArg some (Option.some.inj hf))) rfl dX5_isNewSet_37
      · refine k_icmp_ge_f C dX5_isNewSet_4 (tgt := 36) (by decide) c1 ?_
        refine k_aload_n C dX5_isNewSet_7 0 rfl ?_
        refine k_getr C shC_41 (j := 0) rfl FL_X5_9 dX5_isNewSet_8 ?_
        refine k_getr C shC_1 (j := 2) rfl FL_X5_25 dX5_isNewSet_11 ?_
        refine k_iload_n C dX5_isNewSet_14 2 rfl ?_
        obtain ⟨t2, ht2, hf⟩ := bnd hf
        refine k_iald C shC_4 ht2 dX5_isNewSet_15 ?_
        refine k_aload_n C dX5_isNewSet_16 0 rfl ?_
        refine k_getr C shC_41 (j := 0) rfl FL_X5_9 dX5_isNewSet_17 ?_
        refine k_getr C shC_1 (j := 2) rfl FL_X5_25 dX5_isNewSet_20 ?_
        refine k_iload_n C dX5_isNewSet_23 1 rfl ?_
        obtain ⟨t3, ht3, hf⟩ := bnd hf
        refine k_iald C shC_4 ht3 dX5_isNewSet_24 ?_
        rcases ite_g hf with ⟨c4, hf⟩ | ⟨c4, hf⟩
        · refine k_icmp_ne_f C dX5_isNewSet_25 (tgt := 30) (by decide) c4 ?_
          refine k_iconst C dX5_isNewSet_28 (v := (0 : Int32)) rfl ?_
          exact k_zret C hr hlk (gZ0.trans (congrArg some (Option.some.inj hf))) rfl dX5_isNewSet_29
        · refine k_icmp_ne_t C dX5_isNewSet_25 (tgt := 30) (by decide) c4 ?_
          refine k_iinc C dX5_isNewSet_30 2 rfl (v := (v2 + (1 : Int32))) rfl (by decide) [1, 2, 0] (lv' := [(0, .ref (G.2.1 41)), (1, .int v1), (2, .int (v2 + (1 : Int32)))]) rfl ?_
          refine k_goto C dX5_isNewSet_33 (tgt := 2) (by decide) ?_
          exact ih2 v1 (v2 + (1 : Int32)) hf
  unfold f_X5_isNewSet at hf
  refine k_lv (lv' := [(0, .ref (G.2.1 41)), (1, .int v1)]) [0, 1] rfl ?_
  refine k_iconst C dX5_isNewSet_0 (v := (0 : Int32)) rfl ?_
  refine k_istore_n C dX5_isNewSet_1 (by decide) [1, 2, 0] (lv' := [(0, .ref (G.2.1 41)), (1, .int v1), (2, .int (0 : Int32))]) rfl ?_
  exact k_b2 FU v1 (0 : Int32) hf
theorem dX5_unlikeSets_0 : decode cX5_unlikeSets 0 = .ok (.iconst 0, 1) := by decide +kernel
theorem dX5_unlikeSets_1 : decode cX5_unlikeSets 1 = .ok (.istore_n 1, 1) := by decide +kernel
theorem dX5_unlikeSets_2 : decode cX5_unlikeSets 2 = .ok (.iconst 0, 1) := by decide +kernel
theorem dX5_unlikeSets_3 : decode cX5_unlikeSets 3 = .ok (.istore_n 2, 1) := by decide +kernel
theorem dX5_unlikeSets_4 : decode cX5_unlikeSets 4 = .ok (.iload_n 2, 1) := by decide +kernel
theorem dX5_unlikeSets_5 : decode cX5_unlikeSets 5 = .ok (.aload_n 0, 1) := by decide +kernel
theorem dX5_unlikeSets_6 : decode cX5_unlikeSets 6 = .ok (.getfield 9, 3) := by decide +kernel
theorem dX5_unlikeSets_9 : decode cX5_unlikeSets 9 = .ok (.getfield 19, 3) := by decide +kernel
theorem dX5_unlikeSets_12 : decode cX5_unlikeSets 12 = .ok (.if_icmp .ge 20, 3) := by decide +kernel
theorem dX5_unlikeSets_15 : decode cX5_unlikeSets 15 = .ok (.aload_n 0, 1) := by decide +kernel
theorem dX5_unlikeSets_16 : decode cX5_unlikeSets 16 = .ok (.iload_n 2, 1) := by decide +kernel
theorem dX5_unlikeSets_17 : decode cX5_unlikeSets 17 = .ok (.invokevirtual 73, 3) := by decide +kernel
theorem dX5_unlikeSets_20 : decode cX5_unlikeSets 20 = .ok (.ifCond .eq 6, 3) := by decide +kernel
theorem dX5_unlikeSets_23 : decode cX5_unlikeSets 23 = .ok (.iinc 1 1, 3) := by decide +kernel
theorem dX5_unlikeSets_26 : decode cX5_unlikeSets 26 = .ok (.iinc 2 1, 3) := by decide +kernel
theorem dX5_unlikeSets_29 : decode cX5_unlikeSets 29 = .ok (.goto (-25), 3) := by decide +kernel
theorem dX5_unlikeSets_32 : decode cX5_unlikeSets 32 = .ok (.iload_n 1, 1) := by decide +kernel
theorem dX5_unlikeSets_33 : decode cX5_unlikeSets 33 = .ok (.ireturn, 1) := by decide +kernel
set_option maxRecDepth 100000 in
set_option maxHeartbeats 4000000 in
theorem c_X5_unlikeSets {l : Launch} {G : Gx} (hap : k_ap G shC.length) (M0 : Mem) (r : Int32) (hf : f_X5_unlikeSets M0 = some r) : k_Met l yX5_unlikeSets cX5_unlikeSets 3 (some .int) 1 22 G shC [.ref (G.2.1 41)] M0 (k_Qi G shC r M0) := by
  refine k_Met_of (by decide) hap (Nat.le_of_ble_eq_true rfl) ?_
  intro p e s m args below meth c C hr hlk
  have C : Cx p s m args c cX5_unlikeSets RX5 3 G shC := C
  have k_b4 : ∀ (n4 : Nat) (v1 : Int32) (v2 : Int32), f_X5_unlikeSets_b4 M0 n4 v1 v2 = some r → K p l e (k_rm 1 22) s m args below meth c 3 G shC (MQ below (k_Qi G shC r M0) args s 0 0 (k_A G shC.length)) 4 [(0, .ref (G.2.1 41)), (1, .int v1), (2, .int v2)] [] M0 := by
    intro n4
    induction n4 with
    | zero => intro v1 v2 hf; simp [f_X5_unlikeSets_b4] at hf
    | succ n4 ih4 =>
      intro v1 v2 hf
      unfold f_X5_unlikeSets_b4 at hf
      refine k_iload_n C dX5_unlikeSets_4 2 rfl ?_
      refine k_aload_n C dX5_unlikeSets_5 0 rfl ?_
      refine k_getr C shC_41 (j := 0) rfl FL_X5_9 dX5_unlikeSets_6 ?_
      refine k_geti C shC_1 (j := 4) rfl FL_X5_19 dX5_unlikeSets_9 ?_
      rcases ite_g hf with ⟨c2, hf⟩ | ⟨c2, hf⟩
      · refine k_icmp_ge_t C dX5_unlikeSets_12 (tgt := 32) (by decide) c2 ?_
        refine k_iload_n C dX5_unlikeSets_32 1 rfl ?_
        exact k_iret C hr hlk (Option.some.inj hf) rfl dX5_unlikeSets_33
      · refine k_icmp_ge_f C dX5_unlikeSets_12 (tgt := 32) (by decide) c2 ?_
        refine k_aload_n C dX5_unlikeSets_15 0 rfl ?_
        refine k_iload_n C dX5_unlikeSets_16 2 rfl ?_
        obtain ⟨t3, ht3, hf⟩ := bnd hf
        refine k_callVi C (As := [.int v2]) (c_X5_isNewSet hap v2 M0 t3 ht3) ML_X5_isNewSet wd_1201 shC_41 rfl rfl rfl ⟨Nat.le_of_ble_eq_true rfl, Nat.le_of_ble_eq_true rfl⟩ (Nat.le_of_ble_eq_true rfl) dX5_unlikeSets_17 ?_
        rcases ite_g hf with ⟨c4, hf⟩ | ⟨c4, hf⟩
        · refine k_if_eq_t C dX5_unlikeSets_20 (tgt := 26) (by decide) c4 ?_
          refine k_iinc C dX5_unlikeSets_26 2 rfl (v := (v2 + (1 : Int32))) rfl (by decide) [1, 2, 0] (lv' := [(0, .ref (G.2.1 41)), (1, .int v1), (2, .int (v2 + (1 : Int32)))]) rfl ?_
          refine k_goto C dX5_unlikeSets_29 (tgt := 4) (by decide) ?_
          exact ih4 v1 (v2 + (1 : Int32)) hf
        · refine k_if_eq_f C dX5_unlikeSets_20 (tgt := 26) (by decide) c4 ?_
          refine k_iinc C dX5_unlikeSets_23 1 rfl (v := (v1 + (1 : Int32))) rfl (by decide) [1, 0, 2] (lv' := [(0, .ref (G.2.1 41)), (1, .int (v1 + (1 : Int32))), (2, .int v2)]) rfl ?_
          refine k_iinc C dX5_unlikeSets_26 2 rfl (v := (v2 + (1 : Int32))) rfl (by decide) [1, 2, 0] (lv' := [(0, .ref (G.2.1 41)), (1, .int (v1 + (1 : Int32))), (2, .int (v2 + (1 : Int32)))]) rfl ?_
          refine k_goto C dX5_unlikeSets_29 (tgt := 4) (by decide) ?_
          exact ih4 (v1 + (1 : Int32)) (v2 + (1 : Int32)) hf
  unfold f_X5_unlikeSets at hf
  refine k_lv (lv' := [(0, .ref (G.2.1 41))]) [0] rfl ?_
  refine k_iconst C dX5_unlikeSets_0 (v := (0 : Int32)) rfl ?_
  refine k_istore_n C dX5_unlikeSets_1 (by decide) [1, 0] (lv' := [(0, .ref (G.2.1 41)), (1, .int (0 : Int32))]) rfl ?_
  refine k_iconst C dX5_unlikeSets_2 (v := (0 : Int32)) rfl ?_
  refine k_istore_n C dX5_unlikeSets_3 (by decide) [1, 2, 0] (lv' := [(0, .ref (G.2.1 41)), (1, .int (0 : Int32)), (2, .int (0 : Int32))]) rfl ?_
  exact k_b4 FU (0 : Int32) (0 : Int32) hf
theorem dX6_dueBehind_0 : decode cX6_dueBehind 0 = .ok (.aload_n 0, 1) := by decide +kernel
theorem dX6_dueBehind_1 : decode cX6_dueBehind 1 = .ok (.getfield 19, 3) := by decide +kernel
theorem dX6_dueBehind_4 : decode cX6_dueBehind 4 = .ok (.getfield 54, 3) := by decide +kernel
theorem dX6_dueBehind_7 : decode cX6_dueBehind 7 = .ok (.iload_n 1, 1) := by decide +kernel
theorem dX6_dueBehind_8 : decode cX6_dueBehind 8 = .ok (.iaload, 1) := by decide +kernel
theorem dX6_dueBehind_9 : decode cX6_dueBehind 9 = .ok (.iload_n 2, 1) := by decide +kernel
theorem dX6_dueBehind_10 : decode cX6_dueBehind 10 = .ok (.iand, 1) := by decide +kernel
theorem dX6_dueBehind_11 : decode cX6_dueBehind 11 = .ok (.invokestatic 57, 3) := by decide +kernel
theorem dX6_dueBehind_14 : decode cX6_dueBehind 14 = .ok (.istore_n 3, 1) := by decide +kernel
theorem dX6_dueBehind_15 : decode cX6_dueBehind 15 = .ok (.aload_n 0, 1) := by decide +kernel
theorem dX6_dueBehind_16 : decode cX6_dueBehind 16 = .ok (.getfield 15, 3) := by decide +kernel
theorem dX6_dueBehind_19 : decode cX6_dueBehind 19 = .ok (.iload_n 1, 1) := by decide +kernel
theorem dX6_dueBehind_20 : decode cX6_dueBehind 20 = .ok (.aload_n 0, 1) := by decide +kernel
theorem dX6_dueBehind_21 : decode cX6_dueBehind 21 = .ok (.getfield 19, 3) := by decide +kernel
theorem dX6_dueBehind_24 : decode cX6_dueBehind 24 = .ok (.getfield 63, 3) := by decide +kernel
theorem dX6_dueBehind_27 : decode cX6_dueBehind 27 = .ok (.iload_n 1, 1) := by decide +kernel
theorem dX6_dueBehind_28 : decode cX6_dueBehind 28 = .ok (.iaload, 1) := by decide +kernel
theorem dX6_dueBehind_29 : decode cX6_dueBehind 29 = .ok (.iload_n 3, 1) := by decide +kernel
theorem dX6_dueBehind_30 : decode cX6_dueBehind 30 = .ok (.iadd, 1) := by decide +kernel
theorem dX6_dueBehind_31 : decode cX6_dueBehind 31 = .ok (.invokevirtual 66, 3) := by decide +kernel
theorem dX6_dueBehind_34 : decode cX6_dueBehind 34 = .ok (.ireturn, 1) := by decide +kernel
set_option maxRecDepth 100000 in
set_option maxHeartbeats 4000000 in
theorem c_X6_dueBehind {l : Launch} {G : Gx} (hap : k_ap G shC.length) (v1 : Int32) (v2 : Int32) (M0 : Mem) (r : Int32) (hf : f_X6_dueBehind v1 v2 M0 = some r) : k_Met l yX6_dueBehind cX6_dueBehind 4 (some .int) 1 23 G shC [.ref (G.2.1 34), .int v1, .int v2] M0 (k_Qi G shC r M0) := by
  refine k_Met_of (by decide) hap (Nat.le_of_ble_eq_true rfl) ?_
  intro p e s m args below meth c C hr hlk
  have C : Cx p s m args c cX6_dueBehind RX6 4 G shC := C
  unfold f_X6_dueBehind at hf
  refine k_lv (lv' := [(0, .ref (G.2.1 34)), (1, .int v1), (2, .int v2)]) [0, 1, 2] rfl ?_
  refine k_aload_n C dX6_dueBehind_0 0 rfl ?_
  refine k_getr C shC_34 (j := 1) rfl FL_X6_19 dX6_dueBehind_1 ?_
  refine k_getr C shC_25 (j := 1) rfl FL_X6_54 dX6_dueBehind_4 ?_
  refine k_iload_n C dX6_dueBehind_7 1 rfl ?_
  obtain ⟨t1, ht1, hf⟩ := bnd hf
  refine k_iald C shC_26 ht1 dX6_dueBehind_8 ?_
  refine k_iload_n C dX6_dueBehind_9 2 rfl ?_
  refine k_iand C dX6_dueBehind_10 ?_
  refine k_callSi C (As := [.int (t1 &&& v2)]) (c_J6_bitCount_0f7a4 hap (t1 &&& v2) M0 _ rfl) MS_J6_bitCount_0f7a4 wd_740 rfl rfl ⟨Nat.le_of_ble_eq_true rfl, Nat.le_of_ble_eq_true rfl⟩ (Nat.le_of_ble_eq_true rfl) dX6_dueBehind_11 ?_
  refine k_istore_n C dX6_dueBehind_14 (by decide) [1, 2, 0] (lv' := [(0, .ref (G.2.1 34)), (1, .int v1), (3, .int (f_J6_bitCount_0f7a4 (t1 &&& v2)))]) rfl ?_
  refine k_aload_n C dX6_dueBehind_15 0 rfl ?_
  refine k_getr C shC_34 (j := 0) rfl FL_X6_15 dX6_dueBehind_16 ?_
  refine k_iload_n C dX6_dueBehind_19 1 rfl ?_
  refine k_aload_n C dX6_dueBehind_20 0 rfl ?_
  refine k_getr C shC_34 (j := 1) rfl FL_X6_19 dX6_dueBehind_21 ?_
  refine k_getr C shC_25 (j := 2) rfl FL_X6_63 dX6_dueBehind_24 ?_
  refine k_iload_n C dX6_dueBehind_27 1 rfl ?_
  obtain ⟨t2, ht2, hf⟩ := bnd hf
  refine k_iald C shC_27 ht2 dX6_dueBehind_28 ?_
  refine k_iload_n C dX6_dueBehind_29 2 rfl ?_
  refine k_iadd C dX6_dueBehind_30 ?_
  obtain ⟨t3, ht3, hf⟩ := bnd hf
  refine k_callVi C (As := [.int v1, .int (t2 + (f_J6_bitCount_0f7a4 (t1 &&& v2)))]) (c_X0_dueFor hap 1 BD_1 v1 (t2 + (f_J6_bitCount_0f7a4 (t1 &&& v2))) M0 t3 ht3) ML_X0_dueFor wd_741 shC_1 rfl rfl rfl ⟨Nat.le_of_ble_eq_true rfl, Nat.le_of_ble_eq_true rfl⟩ (Nat.le_of_ble_eq_true rfl) dX6_dueBehind_31 ?_
  exact k_iret C hr hlk (Option.some.inj hf) rfl dX6_dueBehind_34
theorem dX6_leastRest_0 : decode cX6_leastRest 0 = .ok (.ldc 39, 2) := by decide +kernel
theorem dX6_leastRest_2 : decode cX6_leastRest 2 = .ok (.istore_n 3, 1) := by decide +kernel
theorem dX6_leastRest_3 : decode cX6_leastRest 3 = .ok (.iconst 0, 1) := by decide +kernel
theorem dX6_leastRest_4 : decode cX6_leastRest 4 = .ok (.istore 4, 2) := by decide +kernel
theorem dX6_leastRest_6 : decode cX6_leastRest 6 = .ok (.iload 4, 2) := by decide +kernel
theorem dX6_leastRest_8 : decode cX6_leastRest 8 = .ok (.aload_n 0, 1) := by decide +kernel
theorem dX6_leastRest_9 : decode cX6_leastRest 9 = .ok (.getfield 15, 3) := by decide +kernel
theorem dX6_leastRest_12 : decode cX6_leastRest 12 = .ok (.getfield 40, 3) := by decide +kernel
theorem dX6_leastRest_15 : decode cX6_leastRest 15 = .ok (.if_icmp .ge 46, 3) := by decide +kernel
theorem dX6_leastRest_18 : decode cX6_leastRest 18 = .ok (.iload_n 1, 1) := by decide +kernel
theorem dX6_leastRest_19 : decode cX6_leastRest 19 = .ok (.iload_n 2, 1) := by decide +kernel
theorem dX6_leastRest_20 : decode cX6_leastRest 20 = .ok (.iconst (-1), 1) := by decide +kernel
theorem dX6_leastRest_21 : decode cX6_leastRest 21 = .ok (.ixor, 1) := by decide +kernel
theorem dX6_leastRest_22 : decode cX6_leastRest 22 = .ok (.iand, 1) := by decide +kernel
theorem dX6_leastRest_23 : decode cX6_leastRest 23 = .ok (.iload 4, 2) := by decide +kernel
theorem dX6_leastRest_25 : decode cX6_leastRest 25 = .ok (.ishr, 1) := by decide +kernel
theorem dX6_leastRest_26 : decode cX6_leastRest 26 = .ok (.iconst 1, 1) := by decide +kernel
theorem dX6_leastRest_27 : decode cX6_leastRest 27 = .ok (.iand, 1) := by decide +kernel
theorem dX6_leastRest_28 : decode cX6_leastRest 28 = .ok (.ifCond .eq 27, 3) := by decide +kernel
theorem dX6_leastRest_31 : decode cX6_leastRest 31 = .ok (.iload_n 3, 1) := by decide +kernel
theorem dX6_leastRest_32 : decode cX6_leastRest 32 = .ok (.aload_n 0, 1) := by decide +kernel
theorem dX6_leastRest_33 : decode cX6_leastRest 33 = .ok (.iload 4, 2) := by decide +kernel
theorem dX6_leastRest_35 : decode cX6_leastRest 35 = .ok (.iload_n 2, 1) := by decide +kernel
theorem dX6_leastRest_36 : decode cX6_leastRest 36 = .ok (.invokevirtual 46, 3) := by decide +kernel
theorem dX6_leastRest_39 : decode cX6_leastRest 39 = .ok (.aload_n 0, 1) := by decide +kernel
theorem dX6_leastRest_40 : decode cX6_leastRest 40 = .ok (.getfield 9, 3) := by decide +kernel
theorem dX6_leastRest_43 : decode cX6_leastRest 43 = .ok (.iload_n 2, 1) := by decide +kernel
theorem dX6_leastRest_44 : decode cX6_leastRest 44 = .ok (.iconst 1, 1) := by decide +kernel
theorem dX6_leastRest_45 : decode cX6_leastRest 45 = .ok (.iload 4, 2) := by decide +kernel
theorem dX6_leastRest_47 : decode cX6_leastRest 47 = .ok (.ishl, 1) := by decide +kernel
theorem dX6_leastRest_48 : decode cX6_leastRest 48 = .ok (.ior, 1) := by decide +kernel
theorem dX6_leastRest_49 : decode cX6_leastRest 49 = .ok (.iaload, 1) := by decide +kernel
theorem dX6_leastRest_50 : decode cX6_leastRest 50 = .ok (.iadd, 1) := by decide +kernel
theorem dX6_leastRest_51 : decode cX6_leastRest 51 = .ok (.invokestatic 49, 3) := by decide +kernel
theorem dX6_leastRest_54 : decode cX6_leastRest 54 = .ok (.istore_n 3, 1) := by decide +kernel
theorem dX6_leastRest_55 : decode cX6_leastRest 55 = .ok (.iinc 4 1, 3) := by decide +kernel
theorem dX6_leastRest_58 : decode cX6_leastRest 58 = .ok (.goto (-52), 3) := by decide +kernel
theorem dX6_leastRest_61 : decode cX6_leastRest 61 = .ok (.iload_n 3, 1) := by decide +kernel
theorem dX6_leastRest_62 : decode cX6_leastRest 62 = .ok (.ireturn, 1) := by decide +kernel
set_option maxRecDepth 100000 in
set_option maxHeartbeats 4000000 in
theorem c_X6_leastRest {l : Launch} {G : Gx} (hap : k_ap G shC.length) (v1 : Int32) (v2 : Int32) (M0 : Mem) (r : Int32) (hf : f_X6_leastRest v1 v2 M0 = some r) : k_Met l yX6_leastRest cX6_leastRest 5 (some .int) 2 46 G shC [.ref (G.2.1 34), .int v1, .int v2] M0 (k_Qi G shC r M0) := by
  refine k_Met_of (by decide) hap (Nat.le_of_ble_eq_true rfl) ?_
  intro p e s m args below meth c C hr hlk
  have C : Cx p s m args c cX6_leastRest RX6 5 G shC := C
  have k_b6 : ∀ (n6 : Nat) (v1 : Int32) (v2 : Int32) (v3 : Int32) (v4 : Int32), f_X6_leastRest_b6 M0 n6 v1 v2 v3 v4 = some r → K p l e (k_rm 2 46) s m args below meth c 5 G shC (MQ below (k_Qi G shC r M0) args s 0 0 (k_A G shC.length)) 6 [(0, .ref (G.2.1 34)), (1, .int v1), (2, .int v2), (3, .int v3), (4, .int v4)] [] M0 := by
    intro n6
    induction n6 with
    | zero => intro v1 v2 v3 v4 hf; simp [f_X6_leastRest_b6] at hf
    | succ n6 ih6 =>
      intro v1 v2 v3 v4 hf
      unfold f_X6_leastRest_b6 at hf
      refine k_iload C dX6_leastRest_6 4 rfl ?_
      refine k_aload_n C dX6_leastRest_8 0 rfl ?_
      refine k_getr C shC_34 (j := 0) rfl FL_X6_15 dX6_leastRest_9 ?_
      refine k_geti C shC_1 (j := 4) rfl FL_X6_40 dX6_leastRest_12 ?_
      rcases ite_g hf with ⟨c1, hf⟩ | ⟨c1, hf⟩
      · refine k_icmp_ge_t C dX6_leastRest_15 (tgt := 61) (by decide) c1 ?_
        refine k_iload_n C dX6_leastRest_61 3 rfl ?_
        exact k_iret C hr hlk (Option.some.inj hf) rfl dX6_leastRest_62
      · refine k_icmp_ge_f C dX6_leastRest_15 (tgt := 61) (by decide) c1 ?_
        refine k_iload_n C dX6_leastRest_18 1 rfl ?_
        refine k_iload_n C dX6_leastRest_19 2 rfl ?_
        refine k_iconst C dX6_leastRest_20 (v := (-1 : Int32)) rfl ?_
        refine k_ixor C dX6_leastRest_21 ?_
        refine k_iand C dX6_leastRest_22 ?_
        refine k_iload C dX6_leastRest_23 4 rfl ?_
        refine k_ishrJ C dX6_leastRest_25 ?_
        refine k_iconst C dX6_leastRest_26 (v := (1 : Int32)) rfl ?_
        refine k_iand C dX6_leastRest_27 ?_
        rcases ite_g hf with ⟨c3, hf⟩ | ⟨c3, hf⟩
        · refine k_if_eq_t C dX6_leastRest_28 (tgt := 55) (by decide) c3 ?_
          refine k_iinc C dX6_leastRest_55 4 rfl (v := (v4 + (1 : Int32))) rfl (by decide) [1, 2, 3, 4, 0] (lv' := [(0, .ref (G.2.1 34)), (1, .int v1), (2, .int v2), (3, .int v3), (4, .int (v4 + (1 : Int32)))]) rfl ?_
          refine k_goto C dX6_leastRest_58 (tgt := 6) (by decide) ?_
          exact ih6 v1 v2 v3 (v4 + (1 : Int32)) hf
        · refine k_if_eq_f C dX6_leastRest_28 (tgt := 55) (by decide) c3 ?_
          refine k_iload_n C dX6_leastRest_31 3 rfl ?_
          refine k_aload_n C dX6_leastRest_32 0 rfl ?_
          refine k_iload C dX6_leastRest_33 4 rfl ?_
          refine k_iload_n C dX6_leastRest_35 2 rfl ?_
          obtain ⟨t4, ht4, hf⟩ := bnd hf
          refine k_callVi C (As := [.int v4, .int v2]) (c_X6_dueBehind hap v4 v2 M0 t4 ht4) ML_X6_dueBehind wd_736 shC_34 rfl rfl rfl ⟨Nat.le_of_ble_eq_true rfl, Nat.le_of_ble_eq_true rfl⟩ (Nat.le_of_ble_eq_true rfl) dX6_leastRest_36 ?_
          refine k_aload_n C dX6_leastRest_39 0 rfl ?_
          refine k_getr C shC_34 (j := 2) rfl FL_X6_9 dX6_leastRest_40 ?_
          refine k_iload_n C dX6_leastRest_43 2 rfl ?_
          refine k_iconst C dX6_leastRest_44 (v := (1 : Int32)) rfl ?_
          refine k_iload C dX6_leastRest_45 4 rfl ?_
          refine k_ishlJ C dX6_leastRest_47 ?_
          refine k_ior C dX6_leastRest_48 ?_
          obtain ⟨t5, ht5, hf⟩ := bnd hf
          refine k_iald C shC_35 ht5 dX6_leastRest_49 ?_
          refine k_iadd C dX6_leastRest_50 ?_
          refine k_min C W_min wd_742 ⟨Nat.le_of_ble_eq_true rfl, Nat.le_of_ble_eq_true rfl⟩ dX6_leastRest_51 ?_
          refine k_istore_n C dX6_leastRest_54 (by decide) [1, 2, 3, 0, 4] (lv' := [(0, .ref (G.2.1 34)), (1, .int v1), (2, .int v2), (3, .int (mnI v3 (t4 + t5))), (4, .int v4)]) rfl ?_
          refine k_iinc C dX6_leastRest_55 4 rfl (v := (v4 + (1 : Int32))) rfl (by decide) [1, 2, 3, 4, 0] (lv' := [(0, .ref (G.2.1 34)), (1, .int v1), (2, .int v2), (3, .int (mnI v3 (t4 + t5))), (4, .int (v4 + (1 : Int32)))]) rfl ?_
          refine k_goto C dX6_leastRest_58 (tgt := 6) (by decide) ?_
          exact ih6 v1 v2 (mnI v3 (t4 + t5)) (v4 + (1 : Int32)) hf
  unfold f_X6_leastRest at hf
  refine k_lv (lv' := [(0, .ref (G.2.1 34)), (1, .int v1), (2, .int v2)]) [0, 1, 2] rfl ?_
  refine k_ldc C dX6_leastRest_0 wd_735 ?_
  refine k_istore_n C dX6_leastRest_2 (by decide) [1, 2, 3, 0] (lv' := [(0, .ref (G.2.1 34)), (1, .int v1), (2, .int v2), (3, .int (2147483647 : Int32))]) rfl ?_
  refine k_iconst C dX6_leastRest_3 (v := (0 : Int32)) rfl ?_
  refine k_istore C dX6_leastRest_4 (by decide) [1, 2, 3, 4, 0] (lv' := [(0, .ref (G.2.1 34)), (1, .int v1), (2, .int v2), (3, .int (2147483647 : Int32)), (4, .int (0 : Int32))]) rfl ?_
  exact k_b6 FU v1 v2 (2147483647 : Int32) (0 : Int32) hf
theorem dX6_reckonRests_0 : decode cX6_reckonRests 0 = .ok (.aload_n 0, 1) := by decide +kernel
theorem dX6_reckonRests_1 : decode cX6_reckonRests 1 = .ok (.getfield 9, 3) := by decide +kernel
theorem dX6_reckonRests_4 : decode cX6_reckonRests 4 = .ok (.iload_n 1, 1) := by decide +kernel
theorem dX6_reckonRests_5 : decode cX6_reckonRests 5 = .ok (.iconst 0, 1) := by decide +kernel
theorem dX6_reckonRests_6 : decode cX6_reckonRests 6 = .ok (.iastore, 1) := by decide +kernel
theorem dX6_reckonRests_7 : decode cX6_reckonRests 7 = .ok (.iload_n 1, 1) := by decide +kernel
theorem dX6_reckonRests_8 : decode cX6_reckonRests 8 = .ok (.iconst 1, 1) := by decide +kernel
theorem dX6_reckonRests_9 : decode cX6_reckonRests 9 = .ok (.isub, 1) := by decide +kernel
theorem dX6_reckonRests_10 : decode cX6_reckonRests 10 = .ok (.istore_n 2, 1) := by decide +kernel
theorem dX6_reckonRests_11 : decode cX6_reckonRests 11 = .ok (.iload_n 2, 1) := by decide +kernel
theorem dX6_reckonRests_12 : decode cX6_reckonRests 12 = .ok (.ifCond .lt 29, 3) := by decide +kernel
theorem dX6_reckonRests_15 : decode cX6_reckonRests 15 = .ok (.iload_n 2, 1) := by decide +kernel
theorem dX6_reckonRests_16 : decode cX6_reckonRests 16 = .ok (.iload_n 1, 1) := by decide +kernel
theorem dX6_reckonRests_17 : decode cX6_reckonRests 17 = .ok (.iconst (-1), 1) := by decide +kernel
theorem dX6_reckonRests_18 : decode cX6_reckonRests 18 = .ok (.ixor, 1) := by decide +kernel
theorem dX6_reckonRests_19 : decode cX6_reckonRests 19 = .ok (.iand, 1) := by decide +kernel
theorem dX6_reckonRests_20 : decode cX6_reckonRests 20 = .ok (.ifCond .ne 15, 3) := by decide +kernel
theorem dX6_reckonRests_23 : decode cX6_reckonRests 23 = .ok (.aload_n 0, 1) := by decide +kernel
theorem dX6_reckonRests_24 : decode cX6_reckonRests 24 = .ok (.getfield 9, 3) := by decide +kernel
theorem dX6_reckonRests_27 : decode cX6_reckonRests 27 = .ok (.iload_n 2, 1) := by decide +kernel
theorem dX6_reckonRests_28 : decode cX6_reckonRests 28 = .ok (.aload_n 0, 1) := by decide +kernel
theorem dX6_reckonRests_29 : decode cX6_reckonRests 29 = .ok (.iload_n 1, 1) := by decide +kernel
theorem dX6_reckonRests_30 : decode cX6_reckonRests 30 = .ok (.iload_n 2, 1) := by decide +kernel
theorem dX6_reckonRests_31 : decode cX6_reckonRests 31 = .ok (.invokevirtual 36, 3) := by decide +kernel
theorem dX6_reckonRests_34 : decode cX6_reckonRests 34 = .ok (.iastore, 1) := by decide +kernel
theorem dX6_reckonRests_35 : decode cX6_reckonRests 35 = .ok (.iinc 2 (-1), 3) := by decide +kernel
theorem dX6_reckonRests_38 : decode cX6_reckonRests 38 = .ok (.goto (-27), 3) := by decide +kernel
theorem dX6_reckonRests_41 : decode cX6_reckonRests 41 = .ok (.return_, 1) := by decide +kernel
set_option maxRecDepth 100000 in
set_option maxHeartbeats 4000000 in
theorem c_X6_reckonRests {l : Launch} {G : Gx} (hap : k_ap G shC.length) (v1 : Int32) (M0 : Mem) (r : Mem) (hf : f_X6_reckonRests v1 M0 = some r) : k_Met l yX6_reckonRests cX6_reckonRests 3 none 3 70 G shC [.ref (G.2.1 34), .int v1] M0 (k_Qv G shC r) := by
  refine k_Met_of (by decide) hap (Nat.le_of_ble_eq_true rfl) ?_
  intro p e s m args below meth c C hr hlk
  have C : Cx p s m args c cX6_reckonRests RX6 3 G shC := C
  have k_b11 : ∀ (n11 : Nat) (v1 : Int32) (v2 : Int32) (M : Mem), f_X6_reckonRests_b11 n11 v1 v2 M = some r → K p l e (k_rm 3 70) s m args below meth c 3 G shC (MQ below (k_Qv G shC r) args s 0 0 (k_A G shC.length)) 11 [(0, .ref (G.2.1 34)), (1, .int v1), (2, .int v2)] [] M := by
    intro n11
    induction n11 with
    | zero => intro v1 v2 M hf; simp [f_X6_reckonRests_b11] at hf
    | succ n11 ih11 =>
      intro v1 v2 M hf
      unfold f_X6_reckonRests_b11 at hf
      refine k_iload_n C dX6_reckonRests_11 2 rfl ?_
      rcases ite_g hf with ⟨c2, hf⟩ | ⟨c2, hf⟩
      · refine k_if_lt_t C dX6_reckonRests_12 (tgt := 41) (by decide) c2 ?_
        exact k_vret C hr hlk (Option.some.inj hf) dX6_reckonRests_41
      · refine k_if_lt_f C dX6_reckonRests_12 (tgt := 41) (by decide) c2 ?_
        refine k_iload_n C dX6_reckonRests_15 2 rfl ?_
        refine k_iload_n C dX6_reckonRests_16 1 rfl ?_
        refine k_iconst C dX6_reckonRests_17 (v := (-1 : Int32)) rfl ?_
        refine k_ixor C dX6_reckonRests_18 ?_
        refine k_iand C dX6_reckonRests_19 ?_
        rcases ite_g hf with ⟨c4, hf⟩ | ⟨c4, hf⟩
        · refine k_if_ne_f C dX6_reckonRests_20 (tgt := 35) (by decide) c4 ?_
          refine k_aload_n C dX6_reckonRests_23 0 rfl ?_
          refine k_getr C shC_34 (j := 2) rfl FL_X6_9 dX6_reckonRests_24 ?_
          refine k_iload_n C dX6_reckonRests_27 2 rfl ?_
          refine k_aload_n C dX6_reckonRests_28 0 rfl ?_
          refine k_iload_n C dX6_reckonRests_29 1 rfl ?_
          refine k_iload_n C dX6_reckonRests_30 2 rfl ?_
          obtain ⟨t5, ht5, hf⟩ := bnd hf
          refine k_callVi C (As := [.int v1, .int v2]) (c_X6_leastRest hap v1 v2 M t5 ht5) ML_X6_leastRest wd_731 shC_34 rfl rfl rfl ⟨Nat.le_of_ble_eq_true rfl, Nat.le_of_ble_eq_true rfl⟩ (Nat.le_of_ble_eq_true rfl) dX6_reckonRests_31 ?_
          obtain ⟨M6, hM6, hf⟩ := bnd hf
          refine k_iast C shC_35 hM6 dX6_reckonRests_34 ?_
          refine k_iinc C dX6_reckonRests_35 2 rfl (v := (v2 + (-1 : Int32))) rfl (by decide) [1, 2, 0] (lv' := [(0, .ref (G.2.1 34)), (1, .int v1), (2, .int (v2 + (-1 : Int32)))]) rfl ?_
          refine k_goto C dX6_reckonRests_38 (tgt := 11) (by decide) ?_
          exact ih11 v1 (v2 + (-1 : Int32)) M6 hf
        · refine k_if_ne_t C dX6_reckonRests_20 (tgt := 35) (by decide) c4 ?_
          refine k_iinc C dX6_reckonRests_35 2 rfl (v := (v2 + (-1 : Int32))) rfl (by decide) [1, 2, 0] (lv' := [(0, .ref (G.2.1 34)), (1, .int v1), (2, .int (v2 + (-1 : Int32)))]) rfl ?_
          refine k_goto C dX6_reckonRests_38 (tgt := 11) (by decide) ?_
          exact ih11 v1 (v2 + (-1 : Int32)) M hf
  unfold f_X6_reckonRests at hf
  refine k_lv (lv' := [(0, .ref (G.2.1 34)), (1, .int v1)]) [0, 1] rfl ?_
  refine k_aload_n C dX6_reckonRests_0 0 rfl ?_
  refine k_getr C shC_34 (j := 2) rfl FL_X6_9 dX6_reckonRests_1 ?_
  refine k_iload_n C dX6_reckonRests_4 1 rfl ?_
  refine k_iconst C dX6_reckonRests_5 (v := (0 : Int32)) rfl ?_
  obtain ⟨M1, hM1, hf⟩ := bnd hf
  refine k_iast C shC_35 hM1 dX6_reckonRests_6 ?_
  refine k_iload_n C dX6_reckonRests_7 1 rfl ?_
  refine k_iconst C dX6_reckonRests_8 (v := (1 : Int32)) rfl ?_
  refine k_isub C dX6_reckonRests_9 ?_
  refine k_istore_n C dX6_reckonRests_10 (by decide) [1, 2, 0] (lv' := [(0, .ref (G.2.1 34)), (1, .int v1), (2, .int (v1 - (1 : Int32)))]) rfl ?_
  exact k_b11 FU v1 (v1 - (1 : Int32)) M1 hf
theorem dX6_firstOnBestWay_0 : decode cX6_firstOnBestWay 0 = .ok (.iconst 0, 1) := by decide +kernel
theorem dX6_firstOnBestWay_1 : decode cX6_firstOnBestWay 1 = .ok (.istore_n 3, 1) := by decide +kernel
theorem dX6_firstOnBestWay_2 : decode cX6_firstOnBestWay 2 = .ok (.iload_n 3, 1) := by decide +kernel
theorem dX6_firstOnBestWay_3 : decode cX6_firstOnBestWay 3 = .ok (.aload_n 0, 1) := by decide +kernel
theorem dX6_firstOnBestWay_4 : decode cX6_firstOnBestWay 4 = .ok (.getfield 15, 3) := by decide +kernel
theorem dX6_firstOnBestWay_7 : decode cX6_firstOnBestWay 7 = .ok (.getfield 40, 3) := by decide +kernel
theorem dX6_firstOnBestWay_10 : decode cX6_firstOnBestWay 10 = .ok (.if_icmp .ge 49, 3) := by decide +kernel
theorem dX6_firstOnBestWay_13 : decode cX6_firstOnBestWay 13 = .ok (.iload_n 1, 1) := by decide +kernel
theorem dX6_firstOnBestWay_14 : decode cX6_firstOnBestWay 14 = .ok (.iload_n 2, 1) := by decide +kernel
theorem dX6_firstOnBestWay_15 : decode cX6_firstOnBestWay 15 = .ok (.iconst (-1), 1) := by decide +kernel
theorem dX6_firstOnBestWay_16 : decode cX6_firstOnBestWay 16 = .ok (.ixor, 1) := by decide +kernel
theorem dX6_firstOnBestWay_17 : decode cX6_firstOnBestWay 17 = .ok (.iand, 1) := by decide +kernel
theorem dX6_firstOnBestWay_18 : decode cX6_firstOnBestWay 18 = .ok (.iload_n 3, 1) := by decide +kernel
theorem dX6_firstOnBestWay_19 : decode cX6_firstOnBestWay 19 = .ok (.ishr, 1) := by decide +kernel
theorem dX6_firstOnBestWay_20 : decode cX6_firstOnBestWay 20 = .ok (.iconst 1, 1) := by decide +kernel
theorem dX6_firstOnBestWay_21 : decode cX6_firstOnBestWay 21 = .ok (.iand, 1) := by decide +kernel
theorem dX6_firstOnBestWay_22 : decode cX6_firstOnBestWay 22 = .ok (.ifCond .eq 31, 3) := by decide +kernel
theorem dX6_firstOnBestWay_25 : decode cX6_firstOnBestWay 25 = .ok (.aload_n 0, 1) := by decide +kernel
theorem dX6_firstOnBestWay_26 : decode cX6_firstOnBestWay 26 = .ok (.iload_n 3, 1) := by decide +kernel
theorem dX6_firstOnBestWay_27 : decode cX6_firstOnBestWay 27 = .ok (.iload_n 2, 1) := by decide +kernel
theorem dX6_firstOnBestWay_28 : decode cX6_firstOnBestWay 28 = .ok (.invokevirtual 46, 3) := by decide +kernel
theorem dX6_firstOnBestWay_31 : decode cX6_firstOnBestWay 31 = .ok (.aload_n 0, 1) := by decide +kernel
theorem dX6_firstOnBestWay_32 : decode cX6_firstOnBestWay 32 = .ok (.getfield 9, 3) := by decide +kernel
theorem dX6_firstOnBestWay_35 : decode cX6_firstOnBestWay 35 = .ok (.iload_n 2, 1) := by decide +kernel
theorem dX6_firstOnBestWay_36 : decode cX6_firstOnBestWay 36 = .ok (.iconst 1, 1) := by decide +kernel
theorem dX6_firstOnBestWay_37 : decode cX6_firstOnBestWay 37 = .ok (.iload_n 3, 1) := by decide +kernel
theorem dX6_firstOnBestWay_38 : decode cX6_firstOnBestWay 38 = .ok (.ishl, 1) := by decide +kernel
theorem dX6_firstOnBestWay_39 : decode cX6_firstOnBestWay 39 = .ok (.ior, 1) := by decide +kernel
theorem dX6_firstOnBestWay_40 : decode cX6_firstOnBestWay 40 = .ok (.iaload, 1) := by decide +kernel
theorem dX6_firstOnBestWay_41 : decode cX6_firstOnBestWay 41 = .ok (.iadd, 1) := by decide +kernel
theorem dX6_firstOnBestWay_42 : decode cX6_firstOnBestWay 42 = .ok (.aload_n 0, 1) := by decide +kernel
theorem dX6_firstOnBestWay_43 : decode cX6_firstOnBestWay 43 = .ok (.getfield 9, 3) := by decide +kernel
theorem dX6_firstOnBestWay_46 : decode cX6_firstOnBestWay 46 = .ok (.iload_n 2, 1) := by decide +kernel
theorem dX6_firstOnBestWay_47 : decode cX6_firstOnBestWay 47 = .ok (.iaload, 1) := by decide +kernel
theorem dX6_firstOnBestWay_48 : decode cX6_firstOnBestWay 48 = .ok (.if_icmp .ne 5, 3) := by decide +kernel
theorem dX6_firstOnBestWay_51 : decode cX6_firstOnBestWay 51 = .ok (.iload_n 3, 1) := by decide +kernel
theorem dX6_firstOnBestWay_52 : decode cX6_firstOnBestWay 52 = .ok (.ireturn, 1) := by decide +kernel
theorem dX6_firstOnBestWay_53 : decode cX6_firstOnBestWay 53 = .ok (.iinc 3 1, 3) := by decide +kernel
theorem dX6_firstOnBestWay_56 : decode cX6_firstOnBestWay 56 = .ok (.goto (-54), 3) := by decide +kernel
theorem dX6_firstOnBestWay_59 : decode cX6_firstOnBestWay 59 = .ok (.bipush (-9), 2) := by decide +kernel
theorem dX6_firstOnBestWay_61 : decode cX6_firstOnBestWay 61 = .ok (.ireturn, 1) := by decide +kernel
set_option maxRecDepth 100000 in
set_option maxHeartbeats 4000000 in
theorem c_X6_firstOnBestWay {l : Launch} {G : Gx} (hap : k_ap G shC.length) (v1 : Int32) (v2 : Int32) (M0 : Mem) (r : Int32) (hf : f_X6_firstOnBestWay v1 v2 M0 = some r) : k_Met l yX6_firstOnBestWay cX6_firstOnBestWay 4 (some .int) 2 46 G shC [.ref (G.2.1 34), .int v1, .int v2] M0 (k_Qi G shC r M0) := by
  refine k_Met_of (by decide) hap (Nat.le_of_ble_eq_true rfl) ?_
  intro p e s m args below meth c C hr hlk
  have C : Cx p s m args c cX6_firstOnBestWay RX6 4 G shC := C
  have k_b2 : ∀ (n2 : Nat) (v1 : Int32) (v2 : Int32) (v3 : Int32), f_X6_firstOnBestWay_b2 M0 n2 v1 v2 v3 = some r → K p l e (k_rm 2 46) s m args below meth c 4 G shC (MQ below (k_Qi G shC r M0) args s 0 0 (k_A G shC.length)) 2 [(0, .ref (G.2.1 34)), (1, .int v1), (2, .int v2), (3, .int v3)] [] M0 := by
    intro n2
    induction n2 with
    | zero => intro v1 v2 v3 hf; simp [f_X6_firstOnBestWay_b2] at hf
    | succ n2 ih2 =>
      intro v1 v2 v3 hf
      unfold f_X6_firstOnBestWay_b2 at hf
      refine k_iload_n C dX6_firstOnBestWay_2 3 rfl ?_
      refine k_aload_n C dX6_firstOnBestWay_3 0 rfl ?_
      refine k_getr C shC_34 (j := 0) rfl FL_X6_15 dX6_firstOnBestWay_4 ?_
      refine k_geti C shC_1 (j := 4) rfl FL_X6_40 dX6_firstOnBestWay_7 ?_
      rcases ite_g hf with ⟨c1, hf⟩ | ⟨c1, hf⟩
      · refine k_icmp_ge_t C dX6_firstOnBestWay_10 (tgt := 59) (by decide) c1 ?_
        refine k_bipush C dX6_firstOnBestWay_59 (v := (-9 : Int32)) rfl ?_
        exact k_iret C hr hlk (Option.some.inj hf) rfl dX6_firstOnBestWay_61
      · refine k_icmp_ge_f C dX6_firstOnBestWay_10 (tgt := 59) (by decide) c1 ?_
        refine k_iload_n C dX6_firstOnBestWay_13 1 rfl ?_
        refine k_iload_n C dX6_firstOnBestWay_14 2 rfl ?_
        refine k_iconst C dX6_firstOnBestWay_15 (v := (-1 : Int32)) rfl ?_
        refine k_ixor C dX6_firstOnBestWay_16 ?_
        refine k_iand C dX6_firstOnBestWay_17 ?_
        refine k_iload_n C dX6_firstOnBestWay_18 3 rfl ?_
        refine k_ishrJ C dX6_firstOnBestWay_19 ?_
        refine k_iconst C dX6_firstOnBestWay_20 (v := (1 : Int32)) rfl ?_
        refine k_iand C dX6_firstOnBestWay_21 ?_
        rcases ite_g hf with ⟨c2, hf⟩ | ⟨c2, hf⟩
        · refine k_if_eq_t C dX6_firstOnBestWay_22 (tgt := 53) (by decide) c2 ?_
          refine k_iinc C dX6_firstOnBestWay_53 3 rfl (v := (v3 + (1 : Int32))) rfl (by decide) [1, 2, 3, 0] (lv' := [(0, .ref (G.2.1 34)), (1, .int v1), (2, .int v2), (3, .int (v3 + (1 : Int32)))]) rfl ?_
          refine k_goto C dX6_firstOnBestWay_56 (tgt := 2) (by decide) ?_
          exact ih2 v1 v2 (v3 + (1 : Int32)) hf
        · refine k_if_eq_f C dX6_firstOnBestWay_22 (tgt := 53) (by decide) c2 ?_
          refine k_aload_n C dX6_firstOnBestWay_25 0 rfl ?_
          refine k_iload_n C dX6_firstOnBestWay_26 3 rfl ?_
          refine k_iload_n C dX6_firstOnBestWay_27 2 rfl ?_
          obtain ⟨t3, ht3, hf⟩ := bnd hf
          refine k_callVi C (As := [.int v3, .int v2]) (c_X6_dueBehind hap v3 v2 M0 t3 ht3) ML_X6_dueBehind wd_736 shC_34 rfl rfl rfl ⟨Nat.le_of_ble_eq_true rfl, Nat.le_of_ble_eq_true rfl⟩ (Nat.le_of_ble_eq_true rfl) dX6_firstOnBestWay_28 ?_
          refine k_aload_n C dX6_firstOnBestWay_31 0 rfl ?_
          refine k_getr C shC_34 (j := 2) rfl FL_X6_9 dX6_firstOnBestWay_32 ?_
          refine k_iload_n C dX6_firstOnBestWay_35 2 rfl ?_
          refine k_iconst C dX6_firstOnBestWay_36 (v := (1 : Int32)) rfl ?_
          refine k_iload_n C dX6_firstOnBestWay_37 3 rfl ?_
          refine k_ishlJ C dX6_firstOnBestWay_38 ?_
          refine k_ior C dX6_firstOnBestWay_39 ?_
          obtain ⟨t4, ht4, hf⟩ := bnd hf
          refine k_iald C shC_35 ht4 dX6_firstOnBestWay_40 ?_
          refine k_iadd C dX6_firstOnBestWay_41 ?_
          refine k_aload_n C dX6_firstOnBestWay_42 0 rfl ?_
          refine k_getr C shC_34 (j := 2) rfl FL_X6_9 dX6_firstOnBestWay_43 ?_
          refine k_iload_n C dX6_firstOnBestWay_46 2 rfl ?_
          obtain ⟨t5, ht5, hf⟩ := bnd hf
          refine k_iald C shC_35 ht5 dX6_firstOnBestWay_47 ?_
          rcases ite_g hf with ⟨c6, hf⟩ | ⟨c6, hf⟩
          · refine k_icmp_ne_f C dX6_firstOnBestWay_48 (tgt := 53) (by decide) c6 ?_
            refine k_iload_n C dX6_firstOnBestWay_51 3 rfl ?_
            exact k_iret C hr hlk (Option.some.inj hf) rfl dX6_firstOnBestWay_52
          · refine k_icmp_ne_t C dX6_firstOnBestWay_48 (tgt := 53) (by decide) c6 ?_
            refine k_iinc C dX6_firstOnBestWay_53 3 rfl (v := (v3 + (1 : Int32))) rfl (by decide) [1, 2, 3, 0] (lv' := [(0, .ref (G.2.1 34)), (1, .int v1), (2, .int v2), (3, .int (v3 + (1 : Int32)))]) rfl ?_
            refine k_goto C dX6_firstOnBestWay_56 (tgt := 2) (by decide) ?_
            exact ih2 v1 v2 (v3 + (1 : Int32)) hf
  unfold f_X6_firstOnBestWay at hf
  refine k_lv (lv' := [(0, .ref (G.2.1 34)), (1, .int v1), (2, .int v2)]) [0, 1, 2] rfl ?_
  refine k_iconst C dX6_firstOnBestWay_0 (v := (0 : Int32)) rfl ?_
  refine k_istore_n C dX6_firstOnBestWay_1 (by decide) [1, 2, 3, 0] (lv' := [(0, .ref (G.2.1 34)), (1, .int v1), (2, .int v2), (3, .int (0 : Int32))]) rfl ?_
  exact k_b2 FU v1 v2 (0 : Int32) hf
theorem dX6_ithDone_0 : decode cX6_ithDone 0 = .ok (.iconst 0, 1) := by decide +kernel
theorem dX6_ithDone_1 : decode cX6_ithDone 1 = .ok (.istore_n 3, 1) := by decide +kernel
theorem dX6_ithDone_2 : decode cX6_ithDone 2 = .ok (.iconst 0, 1) := by decide +kernel
theorem dX6_ithDone_3 : decode cX6_ithDone 3 = .ok (.istore 4, 2) := by decide +kernel
theorem dX6_ithDone_5 : decode cX6_ithDone 5 = .ok (.iload 4, 2) := by decide +kernel
theorem dX6_ithDone_7 : decode cX6_ithDone 7 = .ok (.aload_n 0, 1) := by decide +kernel
theorem dX6_ithDone_8 : decode cX6_ithDone 8 = .ok (.getfield 15, 3) := by decide +kernel
theorem dX6_ithDone_11 : decode cX6_ithDone 11 = .ok (.getfield 40, 3) := by decide +kernel
theorem dX6_ithDone_14 : decode cX6_ithDone 14 = .ok (.if_icmp .ge 38, 3) := by decide +kernel
theorem dX6_ithDone_17 : decode cX6_ithDone 17 = .ok (.aload_n 0, 1) := by decide +kernel
theorem dX6_ithDone_18 : decode cX6_ithDone 18 = .ok (.iload_n 1, 1) := by decide +kernel
theorem dX6_ithDone_19 : decode cX6_ithDone 19 = .ok (.iload_n 3, 1) := by decide +kernel
theorem dX6_ithDone_20 : decode cX6_ithDone 20 = .ok (.invokevirtual 69, 3) := by decide +kernel
theorem dX6_ithDone_23 : decode cX6_ithDone 23 = .ok (.istore 5, 2) := by decide +kernel
theorem dX6_ithDone_25 : decode cX6_ithDone 25 = .ok (.iload 5, 2) := by decide +kernel
theorem dX6_ithDone_27 : decode cX6_ithDone 27 = .ok (.ifCond .lt 9, 3) := by decide +kernel
theorem dX6_ithDone_30 : decode cX6_ithDone 30 = .ok (.iload 4, 2) := by decide +kernel
theorem dX6_ithDone_32 : decode cX6_ithDone 32 = .ok (.iload_n 2, 1) := by decide +kernel
theorem dX6_ithDone_33 : decode cX6_ithDone 33 = .ok (.if_icmp .ne 6, 3) := by decide +kernel
theorem dX6_ithDone_36 : decode cX6_ithDone 36 = .ok (.iload 5, 2) := by decide +kernel
theorem dX6_ithDone_38 : decode cX6_ithDone 38 = .ok (.ireturn, 1) := by decide +kernel
theorem dX6_ithDone_39 : decode cX6_ithDone 39 = .ok (.iload_n 3, 1) := by decide +kernel
theorem dX6_ithDone_40 : decode cX6_ithDone 40 = .ok (.iconst 1, 1) := by decide +kernel
theorem dX6_ithDone_41 : decode cX6_ithDone 41 = .ok (.iload 5, 2) := by decide +kernel
theorem dX6_ithDone_43 : decode cX6_ithDone 43 = .ok (.ishl, 1) := by decide +kernel
theorem dX6_ithDone_44 : decode cX6_ithDone 44 = .ok (.ior, 1) := by decide +kernel
theorem dX6_ithDone_45 : decode cX6_ithDone 45 = .ok (.istore_n 3, 1) := by decide +kernel
theorem dX6_ithDone_46 : decode cX6_ithDone 46 = .ok (.iinc 4 1, 3) := by decide +kernel
theorem dX6_ithDone_49 : decode cX6_ithDone 49 = .ok (.goto (-44), 3) := by decide +kernel
theorem dX6_ithDone_52 : decode cX6_ithDone 52 = .ok (.bipush (-9), 2) := by decide +kernel
theorem dX6_ithDone_54 : decode cX6_ithDone 54 = .ok (.ireturn, 1) := by decide +kernel
set_option maxRecDepth 100000 in
set_option maxHeartbeats 4000000 in
theorem c_X6_ithDone {l : Launch} {G : Gx} (hap : k_ap G shC.length) (v1 : Int32) (v2 : Int32) (M0 : Mem) (r : Int32) (hf : f_X6_ithDone v1 v2 M0 = some r) : k_Met l yX6_ithDone cX6_ithDone 6 (some .int) 3 69 G shC [.ref (G.2.1 34), .int v1, .int v2] M0 (k_Qi G shC r M0) := by
  refine k_Met_of (by decide) hap (Nat.le_of_ble_eq_true rfl) ?_
  intro p e s m args below meth c C hr hlk
  have C : Cx p s m args c cX6_ithDone RX6 6 G shC := C
  have k_b5 : ∀ (n5 : Nat) (v1 : Int32) (v2 : Int32) (v3 : Int32) (v4 : Int32), f_X6_ithDone_b5 M0 n5 v1 v2 v3 v4 = some r → K p l e (k_rm 3 69) s m args below meth c 6 G shC (MQ below (k_Qi G shC r M0) args s 0 0 (k_A G shC.length)) 5 [(0, .ref (G.2.1 34)), (1, .int v1), (2, .int v2), (3, .int v3), (4, .int v4)] [] M0 := by
    intro n5
    induction n5 with
    | zero => intro v1 v2 v3 v4 hf; simp [f_X6_ithDone_b5] at hf
    | succ n5 ih5 =>
      intro v1 v2 v3 v4 hf
      unfold f_X6_ithDone_b5 at hf
      refine k_iload C dX6_ithDone_5 4 rfl ?_
      refine k_aload_n C dX6_ithDone_7 0 rfl ?_
      refine k_getr C shC_34 (j := 0) rfl FL_X6_15 dX6_ithDone_8 ?_
      refine k_geti C shC_1 (j := 4) rfl FL_X6_40 dX6_ithDone_11 ?_
      rcases ite_g hf with ⟨c1, hf⟩ | ⟨c1, hf⟩
      · refine k_icmp_ge_t C dX6_ithDone_14 (tgt := 52) (by decide) c1 ?_
        refine k_bipush C dX6_ithDone_52 (v := (-9 : Int32)) rfl ?_
        exact k_iret C hr hlk (Option.some.inj hf) rfl dX6_ithDone_54
      · refine k_icmp_ge_f C dX6_ithDone_14 (tgt := 52) (by decide) c1 ?_
        refine k_aload_n C dX6_ithDone_17 0 rfl ?_
        refine k_iload_n C dX6_ithDone_18 1 rfl ?_
        refine k_iload_n C dX6_ithDone_19 3 rfl ?_
        obtain ⟨t2, ht2, hf⟩ := bnd hf
        refine k_callVi C (As := [.int v1, .int v3]) (c_X6_firstOnBestWay hap v1 v3 M0 t2 ht2) ML_X6_firstOnBestWay wd_749 shC_34 rfl rfl rfl ⟨Nat.le_of_ble_eq_true rfl, Nat.le_of_ble_eq_true rfl⟩ (Nat.le_of_ble_eq_true rfl) dX6_ithDone_20 ?_
        refine k_istore C dX6_ithDone_23 (by decide) [1, 2, 3, 4, 5, 0] (lv' := [(0, .ref (G.2.1 34)), (1, .int v1), (2, .int v2), (3, .int v3), (4, .int v4), (5, .int t2)]) rfl ?_
        refine k_iload C dX6_ithDone_25 5 rfl ?_
        rcases ite_g hf with ⟨c3, hf⟩ | ⟨c3, hf⟩
        · refine k_if_lt_t C dX6_ithDone_27 (tgt := 36) (by decide) c3 ?_
          refine k_iload C dX6_ithDone_36 5 rfl ?_
          exact k_iret C hr hlk (Option.some.inj hf) rfl dX6_ithDone_38
        · refine k_if_lt_f C dX6_ithDone_27 (tgt := 36) (by decide) c3 ?_
          refine k_iload C dX6_ithDone_30 4 rfl ?_
          refine k_iload_n C dX6_ithDone_32 2 rfl ?_
          rcases ite_g hf with ⟨c4, hf⟩ | ⟨c4, hf⟩
          · refine k_icmp_ne_f C dX6_ithDone_33 (tgt := 39) (by decide) c4 ?_
            refine k_iload C dX6_ithDone_36 5 rfl ?_
            exact k_iret C hr hlk (Option.some.inj hf) rfl dX6_ithDone_38
          · refine k_icmp_ne_t C dX6_ithDone_33 (tgt := 39) (by decide) c4 ?_
            refine k_iload_n C dX6_ithDone_39 3 rfl ?_
            refine k_iconst C dX6_ithDone_40 (v := (1 : Int32)) rfl ?_
            refine k_iload C dX6_ithDone_41 5 rfl ?_
            refine k_ishlJ C dX6_ithDone_43 ?_
            refine k_ior C dX6_ithDone_44 ?_
            refine k_istore_n C dX6_ithDone_45 (by decide) [1, 2, 3, 0, 4] (lv' := [(0, .ref (G.2.1 34)), (1, .int v1), (2, .int v2), (3, .int (v3 ||| (jshl (1 : Int32) t2))), (4, .int v4)]) rfl ?_
            refine k_iinc C dX6_ithDone_46 4 rfl (v := (v4 + (1 : Int32))) rfl (by decide) [1, 2, 3, 4, 0] (lv' := [(0, .ref (G.2.1 34)), (1, .int v1), (2, .int v2), (3, .int (v3 ||| (jshl (1 : Int32) t2))), (4, .int (v4 + (1 : Int32)))]) rfl ?_
            refine k_goto C dX6_ithDone_49 (tgt := 5) (by decide) ?_
            exact ih5 v1 v2 (v3 ||| (jshl (1 : Int32) t2)) (v4 + (1 : Int32)) hf
  unfold f_X6_ithDone at hf
  refine k_lv (lv' := [(0, .ref (G.2.1 34)), (1, .int v1), (2, .int v2)]) [0, 1, 2] rfl ?_
  refine k_iconst C dX6_ithDone_0 (v := (0 : Int32)) rfl ?_
  refine k_istore_n C dX6_ithDone_1 (by decide) [1, 2, 3, 0] (lv' := [(0, .ref (G.2.1 34)), (1, .int v1), (2, .int v2), (3, .int (0 : Int32))]) rfl ?_
  refine k_iconst C dX6_ithDone_2 (v := (0 : Int32)) rfl ?_
  refine k_istore C dX6_ithDone_3 (by decide) [1, 2, 3, 4, 0] (lv' := [(0, .ref (G.2.1 34)), (1, .int v1), (2, .int v2), (3, .int (0 : Int32)), (4, .int (0 : Int32))]) rfl ?_
  exact k_b5 FU v1 v2 (0 : Int32) (0 : Int32) hf
