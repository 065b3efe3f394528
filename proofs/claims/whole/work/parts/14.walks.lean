/-! walks, printed by a program of mine: each method meets its function -/
theorem dX6_inOrder_0 : decode cX6_inOrder 0 = .ok (.aload_n 0, 1) := by decide +kernel
theorem dX6_inOrder_1 : decode cX6_inOrder 1 = .ok (.getfield 19, 3) := by decide +kernel
theorem dX6_inOrder_4 : decode cX6_inOrder 4 = .ok (.invokevirtual 23, 3) := by decide +kernel
theorem dX6_inOrder_7 : decode cX6_inOrder 7 = .ok (.aload_n 0, 1) := by decide +kernel
theorem dX6_inOrder_8 : decode cX6_inOrder 8 = .ok (.iload_n 1, 1) := by decide +kernel
theorem dX6_inOrder_9 : decode cX6_inOrder 9 = .ok (.invokevirtual 28, 3) := by decide +kernel
theorem dX6_inOrder_12 : decode cX6_inOrder 12 = .ok (.iload_n 2, 1) := by decide +kernel
theorem dX6_inOrder_13 : decode cX6_inOrder 13 = .ok (.ifCond .ge 12, 3) := by decide +kernel
theorem dX6_inOrder_16 : decode cX6_inOrder 16 = .ok (.aload_n 0, 1) := by decide +kernel
theorem dX6_inOrder_17 : decode cX6_inOrder 17 = .ok (.getfield 9, 3) := by decide +kernel
theorem dX6_inOrder_20 : decode cX6_inOrder 20 = .ok (.iconst 0, 1) := by decide +kernel
theorem dX6_inOrder_21 : decode cX6_inOrder 21 = .ok (.iaload, 1) := by decide +kernel
theorem dX6_inOrder_22 : decode cX6_inOrder 22 = .ok (.goto 9, 3) := by decide +kernel
theorem dX6_inOrder_25 : decode cX6_inOrder 25 = .ok (.aload_n 0, 1) := by decide +kernel
theorem dX6_inOrder_26 : decode cX6_inOrder 26 = .ok (.iload_n 1, 1) := by decide +kernel
theorem dX6_inOrder_27 : decode cX6_inOrder 27 = .ok (.iload_n 2, 1) := by decide +kernel
theorem dX6_inOrder_28 : decode cX6_inOrder 28 = .ok (.invokevirtual 32, 3) := by decide +kernel
theorem dX6_inOrder_31 : decode cX6_inOrder 31 = .ok (.ireturn, 1) := by decide +kernel
set_option maxRecDepth 100000 in
set_option maxHeartbeats 4000000 in
theorem c_X6_inOrder {l : Launch} {G : Gx} (hap : k_ap G shC.length) (v1 : Int32) (v2 : Int32) (M0 : Mem) (r : Int32 × Mem) (hf : f_X6_inOrder v1 v2 M0 = some r) : k_Met l yX6_inOrder cX6_inOrder 3 (some .int) 5 108 G shC [.ref (G.2.1 34), .int v1, .int v2] M0 (k_Qi G shC r.1 r.2) := by
  refine k_Met_of (by decide) hap (Nat.le_of_ble_eq_true rfl) ?_
  intro p e s m args below meth c C hr hlk
  have C : Cx p s m args c cX6_inOrder RX6 3 G shC := C
  unfold f_X6_inOrder at hf
  refine k_lv (lv' := [(0, .ref (G.2.1 34)), (1, .int v1), (2, .int v2)]) [0, 1, 2] rfl ?_
  refine k_aload_n C dX6_inOrder_0 0 rfl ?_
  refine k_getr C shC_34 (j := 1) rfl FL_X6_19 dX6_inOrder_1 ?_
  obtain ⟨M1, hM1, hf⟩ := bnd hf
  refine k_callVv C (As := []) (c_X8_openBehindLog hap M0 M1 hM1) ML_X8_openBehindLog wd_726 shC_25 rfl rfl rfl ⟨Nat.le_of_ble_eq_true rfl, Nat.le_of_ble_eq_true rfl⟩ (Nat.le_of_ble_eq_true rfl) dX6_inOrder_4 ?_
  refine k_aload_n C dX6_inOrder_7 0 rfl ?_
  refine k_iload_n C dX6_inOrder_8 1 rfl ?_
  obtain ⟨M2, hM2, hf⟩ := bnd hf
  refine k_callVv C (As := [.int v1]) (c_X6_reckonRests hap v1 M1 M2 hM2) ML_X6_reckonRests wd_727 shC_34 rfl rfl rfl ⟨Nat.le_of_ble_eq_true rfl, Nat.le_of_ble_eq_true rfl⟩ (Nat.le_of_ble_eq_true rfl) dX6_inOrder_9 ?_
  refine k_iload_n C dX6_inOrder_12 2 rfl ?_
  rcases ite_g hf with ⟨c3, hf⟩ | ⟨c3, hf⟩
  · refine k_if_ge_t C dX6_inOrder_13 (tgt := 25) (by decide) c3 ?_
    refine k_aload_n C dX6_inOrder_25 0 rfl ?_
    refine k_iload_n C dX6_inOrder_26 1 rfl ?_
    refine k_iload_n C dX6_inOrder_27 2 rfl ?_
    obtain ⟨t4, ht4, hf⟩ := bnd hf
    refine k_callVi C (As := [.int v1, .int v2]) (c_X6_ithDone hap v1 v2 M2 t4 ht4) ML_X6_ithDone wd_745 shC_34 rfl rfl rfl ⟨Nat.le_of_ble_eq_true rfl, Nat.le_of_ble_eq_true rfl⟩ (Nat.le_of_ble_eq_true rfl) dX6_inOrder_28 ?_
    exact k_iret C hr hlk (prf hf) (prs hf) dX6_inOrder_31
  · refine k_if_ge_f C dX6_inOrder_13 (tgt := 25) (by decide) c3 ?_
    refine k_aload_n C dX6_inOrder_16 0 rfl ?_
    refine k_getr C shC_34 (j := 2) rfl FL_X6_9 dX6_inOrder_17 ?_
    refine k_iconst C dX6_inOrder_20 (v := (0 : Int32)) rfl ?_
    obtain ⟨t5, ht5, hf⟩ := bnd hf
    refine k_iald C shC_35 ht5 dX6_inOrder_21 ?_
    refine k_goto C dX6_inOrder_22 (tgt := 31) (by decide) ?_
    exact k_iret C hr hlk (prf hf) (prs hf) dX6_inOrder_31
theorem dX6_timesMore_0 : decode cX6_timesMore 0 = .ok (.aload_n 0, 1) := by decide +kernel
theorem dX6_timesMore_1 : decode cX6_timesMore 1 = .ok (.getfield 19, 3) := by decide +kernel
theorem dX6_timesMore_4 : decode cX6_timesMore 4 = .ok (.invokevirtual 23, 3) := by decide +kernel
theorem dX6_timesMore_7 : decode cX6_timesMore 7 = .ok (.iconst 0, 1) := by decide +kernel
theorem dX6_timesMore_8 : decode cX6_timesMore 8 = .ok (.istore_n 3, 1) := by decide +kernel
theorem dX6_timesMore_9 : decode cX6_timesMore 9 = .ok (.iconst 0, 1) := by decide +kernel
theorem dX6_timesMore_10 : decode cX6_timesMore 10 = .ok (.istore 4, 2) := by decide +kernel
theorem dX6_timesMore_12 : decode cX6_timesMore 12 = .ok (.iload 4, 2) := by decide +kernel
theorem dX6_timesMore_14 : decode cX6_timesMore 14 = .ok (.bipush 60, 2) := by decide +kernel
theorem dX6_timesMore_16 : decode cX6_timesMore 16 = .ok (.if_icmp .ge 28, 3) := by decide +kernel
theorem dX6_timesMore_19 : decode cX6_timesMore 19 = .ok (.iload_n 3, 1) := by decide +kernel
theorem dX6_timesMore_20 : decode cX6_timesMore 20 = .ok (.aload_n 0, 1) := by decide +kernel
theorem dX6_timesMore_21 : decode cX6_timesMore 21 = .ok (.getfield 19, 3) := by decide +kernel
theorem dX6_timesMore_24 : decode cX6_timesMore 24 = .ok (.iload_n 1, 1) := by decide +kernel
theorem dX6_timesMore_25 : decode cX6_timesMore 25 = .ok (.invokevirtual 72, 3) := by decide +kernel
theorem dX6_timesMore_28 : decode cX6_timesMore 28 = .ok (.iadd, 1) := by decide +kernel
theorem dX6_timesMore_29 : decode cX6_timesMore 29 = .ok (.istore_n 3, 1) := by decide +kernel
theorem dX6_timesMore_30 : decode cX6_timesMore 30 = .ok (.iload_n 3, 1) := by decide +kernel
theorem dX6_timesMore_31 : decode cX6_timesMore 31 = .ok (.iload_n 2, 1) := by decide +kernel
theorem dX6_timesMore_32 : decode cX6_timesMore 32 = .ok (.if_icmp .le 6, 3) := by decide +kernel
theorem dX6_timesMore_35 : decode cX6_timesMore 35 = .ok (.iload 4, 2) := by decide +kernel
theorem dX6_timesMore_37 : decode cX6_timesMore 37 = .ok (.ireturn, 1) := by decide +kernel
theorem dX6_timesMore_38 : decode cX6_timesMore 38 = .ok (.iinc 4 1, 3) := by decide +kernel
theorem dX6_timesMore_41 : decode cX6_timesMore 41 = .ok (.goto (-29), 3) := by decide +kernel
theorem dX6_timesMore_44 : decode cX6_timesMore 44 = .ok (.bipush 60, 2) := by decide +kernel
theorem dX6_timesMore_46 : decode cX6_timesMore 46 = .ok (.ireturn, 1) := by decide +kernel
set_option maxRecDepth 100000 in
set_option maxHeartbeats 4000000 in
theorem c_X6_timesMore {l : Launch} {G : Gx} (hap : k_ap G shC.length) (v1 : Int32) (v2 : Int32) (M0 : Mem) (r : Int32 × Mem) (hf : f_X6_timesMore v1 v2 M0 = some r) : k_Met l yX6_timesMore cX6_timesMore 5 (some .int) 5 108 G shC [.ref (G.2.1 34), .int v1, .int v2] M0 (k_Qi G shC r.1 r.2) := by
  refine k_Met_of (by decide) hap (Nat.le_of_ble_eq_true rfl) ?_
  intro p e s m args below meth c C hr hlk
  have C : Cx p s m args c cX6_timesMore RX6 5 G shC := C
  have k_b12 : ∀ (n12 : Nat) (v1 : Int32) (v2 : Int32) (v3 : Int32) (v4 : Int32) (M : Mem), f_X6_timesMore_b12 n12 v1 v2 v3 v4 M = some r → K p l e (k_rm 5 108) s m args below meth c 5 G shC (MQ below (k_Qi G shC r.1 r.2) args s 0 0 (k_A G shC.length)) 12 [(0, .ref (G.2.1 34)), (1, .int v1), (2, .int v2), (3, .int v3), (4, .int v4)] [] M := by
    intro n12
    induction n12 with
    | zero => intro v1 v2 v3 v4 M hf; simp [f_X6_timesMore_b12] at hf
    | succ n12 ih12 =>
      intro v1 v2 v3 v4 M hf
      unfold f_X6_timesMore_b12 at hf
      refine k_iload C dX6_timesMore_12 4 rfl ?_
      refine k_bipush C dX6_timesMore_14 (v := (60 : Int32)) rfl ?_
      rcases ite_g hf with ⟨c2, hf⟩ | ⟨c2, hf⟩
      · refine k_icmp_ge_t C dX6_timesMore_16 (tgt := 44) (by decide) c2 ?_
        refine k_bipush C dX6_timesMore_44 (v := (60 : Int32)) rfl ?_
        exact k_iret C hr hlk (prf hf) (prs hf) dX6_timesMore_46
      · refine k_icmp_ge_f C dX6_timesMore_16 (tgt := 44) (by decide) c2 ?_
        refine k_iload_n C dX6_timesMore_19 3 rfl ?_
        refine k_aload_n C dX6_timesMore_20 0 rfl ?_
        refine k_getr C shC_34 (j := 1) rfl FL_X6_19 dX6_timesMore_21 ?_
        refine k_iload_n C dX6_timesMore_24 1 rfl ?_
        obtain ⟨⟨t3, M3⟩, ht3, hf⟩ := bnd hf
        replace hf := bp_s hf
        refine k_callVi C (As := [.int v1]) (c_X8_step hap v1 M (t3, M3) ht3) ML_X8_step wd_1076 shC_25 rfl rfl rfl ⟨Nat.le_of_ble_eq_true rfl, Nat.le_of_ble_eq_true rfl⟩ (Nat.le_of_ble_eq_true rfl) dX6_timesMore_25 ?_
        refine k_iadd C dX6_timesMore_28 ?_
        refine k_istore_n C dX6_timesMore_29 (by decide) [1, 2, 3, 0, 4] (lv' := [(0, .ref (G.2.1 34)), (1, .int v1), (2, .int v2), (3, .int (v3 + t3)), (4, .int v4)]) rfl ?_
        refine k_iload_n C dX6_timesMore_30 3 rfl ?_
        refine k_iload_n C dX6_timesMore_31 2 rfl ?_
        rcases ite_g hf with ⟨c4, hf⟩ | ⟨c4, hf⟩
        · refine k_icmp_le_t C dX6_timesMore_32 (tgt := 38) (by decide) c4 ?_
          refine k_iinc C dX6_timesMore_38 4 rfl (v := (v4 + (1 : Int32))) rfl (by decide) [1, 2, 3, 4, 0] (lv' := [(0, .ref (G.2.1 34)), (1, .int v1), (2, .int v2), (3, .int (v3 + t3)), (4, .int (v4 + (1 : Int32)))]) rfl ?_
          refine k_goto C dX6_timesMore_41 (tgt := 12) (by decide) ?_
          exact ih12 v1 v2 (v3 + t3) (v4 + (1 : Int32)) M3 hf
        · refine k_icmp_le_f C dX6_timesMore_32 (tgt := 38) (by decide) c4 ?_
          refine k_iload C dX6_timesMore_35 4 rfl ?_
          exact k_iret C hr hlk (prf hf) (prs hf) dX6_timesMore_37
  unfold f_X6_timesMore at hf
  refine k_lv (lv' := [(0, .ref (G.2.1 34)), (1, .int v1), (2, .int v2)]) [0, 1, 2] rfl ?_
  refine k_aload_n C dX6_timesMore_0 0 rfl ?_
  refine k_getr C shC_34 (j := 1) rfl FL_X6_19 dX6_timesMore_1 ?_
  obtain ⟨M1, hM1, hf⟩ := bnd hf
  refine k_callVv C (As := []) (c_X8_openBehindLog hap M0 M1 hM1) ML_X8_openBehindLog wd_726 shC_25 rfl rfl rfl ⟨Nat.le_of_ble_eq_true rfl, Nat.le_of_ble_eq_true rfl⟩ (Nat.le_of_ble_eq_true rfl) dX6_timesMore_4 ?_
  refine k_iconst C dX6_timesMore_7 (v := (0 : Int32)) rfl ?_
  refine k_istore_n C dX6_timesMore_8 (by decide) [1, 2, 3, 0] (lv' := [(0, .ref (G.2.1 34)), (1, .int v1), (2, .int v2), (3, .int (0 : Int32))]) rfl ?_
  refine k_iconst C dX6_timesMore_9 (v := (0 : Int32)) rfl ?_
  refine k_istore C dX6_timesMore_10 (by decide) [1, 2, 3, 4, 0] (lv' := [(0, .ref (G.2.1 34)), (1, .int v1), (2, .int v2), (3, .int (0 : Int32)), (4, .int (0 : Int32))]) rfl ?_
  exact k_b12 FU v1 v2 (0 : Int32) (0 : Int32) M1 hf
theorem dX8_cheapestNext_0 : decode cX8_cheapestNext 0 = .ok (.bipush (-9), 2) := by decide +kernel
theorem dX8_cheapestNext_2 : decode cX8_cheapestNext 2 = .ok (.istore_n 1, 1) := by decide +kernel
theorem dX8_cheapestNext_3 : decode cX8_cheapestNext 3 = .ok (.ldc 81, 2) := by decide +kernel
theorem dX8_cheapestNext_5 : decode cX8_cheapestNext 5 = .ok (.istore_n 2, 1) := by decide +kernel
theorem dX8_cheapestNext_6 : decode cX8_cheapestNext 6 = .ok (.iconst 0, 1) := by decide +kernel
theorem dX8_cheapestNext_7 : decode cX8_cheapestNext 7 = .ok (.istore_n 3, 1) := by decide +kernel
theorem dX8_cheapestNext_8 : decode cX8_cheapestNext 8 = .ok (.iload_n 3, 1) := by decide +kernel
theorem dX8_cheapestNext_9 : decode cX8_cheapestNext 9 = .ok (.aload_n 0, 1) := by decide +kernel
theorem dX8_cheapestNext_10 : decode cX8_cheapestNext 10 = .ok (.getfield 18, 3) := by decide +kernel
theorem dX8_cheapestNext_13 : decode cX8_cheapestNext 13 = .ok (.getfield 35, 3) := by decide +kernel
theorem dX8_cheapestNext_16 : decode cX8_cheapestNext 16 = .ok (.if_icmp .ge 27, 3) := by decide +kernel
theorem dX8_cheapestNext_19 : decode cX8_cheapestNext 19 = .ok (.aload_n 0, 1) := by decide +kernel
theorem dX8_cheapestNext_20 : decode cX8_cheapestNext 20 = .ok (.iload_n 3, 1) := by decide +kernel
theorem dX8_cheapestNext_21 : decode cX8_cheapestNext 21 = .ok (.invokevirtual 78, 3) := by decide +kernel
theorem dX8_cheapestNext_24 : decode cX8_cheapestNext 24 = .ok (.istore 4, 2) := by decide +kernel
theorem dX8_cheapestNext_26 : decode cX8_cheapestNext 26 = .ok (.iload 4, 2) := by decide +kernel
theorem dX8_cheapestNext_28 : decode cX8_cheapestNext 28 = .ok (.iload_n 2, 1) := by decide +kernel
theorem dX8_cheapestNext_29 : decode cX8_cheapestNext 29 = .ok (.if_icmp .ge 8, 3) := by decide +kernel
theorem dX8_cheapestNext_32 : decode cX8_cheapestNext 32 = .ok (.iload 4, 2) := by decide +kernel
theorem dX8_cheapestNext_34 : decode cX8_cheapestNext 34 = .ok (.istore_n 2, 1) := by decide +kernel
theorem dX8_cheapestNext_35 : decode cX8_cheapestNext 35 = .ok (.iload_n 3, 1) := by decide +kernel
theorem dX8_cheapestNext_36 : decode cX8_cheapestNext 36 = .ok (.istore_n 1, 1) := by decide +kernel
theorem dX8_cheapestNext_37 : decode cX8_cheapestNext 37 = .ok (.iinc 3 1, 3) := by decide +kernel
theorem dX8_cheapestNext_40 : decode cX8_cheapestNext 40 = .ok (.goto (-32), 3) := by decide +kernel
theorem dX8_cheapestNext_43 : decode cX8_cheapestNext 43 = .ok (.iload_n 1, 1) := by decide +kernel
theorem dX8_cheapestNext_44 : decode cX8_cheapestNext 44 = .ok (.ireturn, 1) := by decide +kernel
set_option maxRecDepth 100000 in
set_option maxHeartbeats 4000000 in
theorem c_X8_cheapestNext {l : Launch} {G : Gx} (hap : k_ap G shC.length) (M0 : Mem) (r : Int32) (hf : f_X8_cheapestNext M0 = some r) : k_Met l yX8_cheapestNext cX8_cheapestNext 5 (some .int) 2 44 G shC [.ref (G.2.1 25)] M0 (k_Qi G shC r M0) := by
  refine k_Met_of (by decide) hap (Nat.le_of_ble_eq_true rfl) ?_
  intro p e s m args below meth c C hr hlk
  have C : Cx p s m args c cX8_cheapestNext RX8 5 G shC := C
  have k_b8 : ∀ (n8 : Nat) (v1 : Int32) (v2 : Int32) (v3 : Int32), f_X8_cheapestNext_b8 M0 n8 v1 v2 v3 = some r → K p l e (k_rm 2 44) s m args below meth c 5 G shC (MQ below (k_Qi G shC r M0) args s 0 0 (k_A G shC.length)) 8 [(0, .ref (G.2.1 25)), (1, .int v1), (2, .int v2), (3, .int v3)] [] M0 := by
    intro n8
    induction n8 with
    | zero => intro v1 v2 v3 hf; simp [f_X8_cheapestNext_b8] at hf
    | succ n8 ih8 =>
      intro v1 v2 v3 hf
      unfold f_X8_cheapestNext_b8 at hf
      refine k_iload_n C dX8_cheapestNext_8 3 rfl ?_
      refine k_aload_n C dX8_cheapestNext_9 0 rfl ?_
      refine k_getr C shC_25 (j := 0) rfl FL_X8_18 dX8_cheapestNext_10 ?_
      refine k_geti C shC_1 (j := 4) rfl FL_X8_35 dX8_cheapestNext_13 ?_
      rcases ite_g hf with ⟨c2, hf⟩ | ⟨c2, hf⟩
      · refine k_icmp_ge_t C dX8_cheapestNext_16 (tgt := 43) (by decide) c2 ?_
        refine k_iload_n C dX8_cheapestNext_43 1 rfl ?_
        exact k_iret C hr hlk (Option.some.inj hf) rfl dX8_cheapestNext_44
      · refine k_icmp_ge_f C dX8_cheapestNext_16 (tgt := 43) (by decide) c2 ?_
        refine k_aload_n C dX8_cheapestNext_19 0 rfl ?_
        refine k_iload_n C dX8_cheapestNext_20 3 rfl ?_
        obtain ⟨t3, ht3, hf⟩ := bnd hf
        refine k_callVi C (As := [.int v3]) (c_X8_dueNow hap v3 M0 t3 ht3) ML_X8_dueNow wd_604 shC_25 rfl rfl rfl ⟨Nat.le_of_ble_eq_true rfl, Nat.le_of_ble_eq_true rfl⟩ (Nat.le_of_ble_eq_true rfl) dX8_cheapestNext_21 ?_
        refine k_istore C dX8_cheapestNext_24 (by decide) [1, 2, 3, 4, 0] (lv' := [(0, .ref (G.2.1 25)), (1, .int v1), (2, .int v2), (3, .int v3), (4, .int t3)]) rfl ?_
        refine k_iload C dX8_cheapestNext_26 4 rfl ?_
        refine k_iload_n C dX8_cheapestNext_28 2 rfl ?_
        rcases ite_g hf with ⟨c4, hf⟩ | ⟨c4, hf⟩
        · refine k_icmp_ge_t C dX8_cheapestNext_29 (tgt := 37) (by decide) c4 ?_
          refine k_iinc C dX8_cheapestNext_37 3 rfl (v := (v3 + (1 : Int32))) rfl (by decide) [1, 2, 3, 0] (lv' := [(0, .ref (G.2.1 25)), (1, .int v1), (2, .int v2), (3, .int (v3 + (1 : Int32)))]) rfl ?_
          refine k_goto C dX8_cheapestNext_40 (tgt := 8) (by decide) ?_
          exact ih8 v1 v2 (v3 + (1 : Int32)) hf
        · refine k_icmp_ge_f C dX8_cheapestNext_29 (tgt := 37) (by decide) c4 ?_
          refine k_iload C dX8_cheapestNext_32 4 rfl ?_
          refine k_istore_n C dX8_cheapestNext_34 (by decide) [1, 0, 3] (lv' := [(0, .ref (G.2.1 25)), (2, .int t3), (3, .int v3)]) rfl ?_
          refine k_iload_n C dX8_cheapestNext_35 2 rfl ?_
          refine k_istore_n C dX8_cheapestNext_36 (by decide) [1, 0, 2, 3] (lv' := [(0, .ref (G.2.1 25)), (1, .int v3), (2, .int t3), (3, .int v3)]) rfl ?_
          refine k_iinc C dX8_cheapestNext_37 3 rfl (v := (v3 + (1 : Int32))) rfl (by decide) [1, 2, 3, 0] (lv' := [(0, .ref (G.2.1 25)), (1, .int v3), (2, .int t3), (3, .int (v3 + (1 : Int32)))]) rfl ?_
          refine k_goto C dX8_cheapestNext_40 (tgt := 8) (by decide) ?_
          exact ih8 v3 t3 (v3 + (1 : Int32)) hf
  unfold f_X8_cheapestNext at hf
  refine k_lv (lv' := [(0, .ref (G.2.1 25))]) [0] rfl ?_
  refine k_bipush C dX8_cheapestNext_0 (v := (-9 : Int32)) rfl ?_
  refine k_istore_n C dX8_cheapestNext_2 (by decide) [1, 0] (lv' := [(0, .ref (G.2.1 25)), (1, .int (-9 : Int32))]) rfl ?_
  refine k_ldc C dX8_cheapestNext_3 wd_704 ?_
  refine k_istore_n C dX8_cheapestNext_5 (by decide) [1, 2, 0] (lv' := [(0, .ref (G.2.1 25)), (1, .int (-9 : Int32)), (2, .int (2147483647 : Int32))]) rfl ?_
  refine k_iconst C dX8_cheapestNext_6 (v := (0 : Int32)) rfl ?_
  refine k_istore_n C dX8_cheapestNext_7 (by decide) [1, 2, 3, 0] (lv' := [(0, .ref (G.2.1 25)), (1, .int (-9 : Int32)), (2, .int (2147483647 : Int32)), (3, .int (0 : Int32))]) rfl ?_
  exact k_b8 FU (-9 : Int32) (2147483647 : Int32) (0 : Int32) hf
theorem dX6_cheapestSteps_0 : decode cX6_cheapestSteps 0 = .ok (.aload_n 0, 1) := by decide +kernel
theorem dX6_cheapestSteps_1 : decode cX6_cheapestSteps 1 = .ok (.getfield 19, 3) := by decide +kernel
theorem dX6_cheapestSteps_4 : decode cX6_cheapestSteps 4 = .ok (.invokevirtual 23, 3) := by decide +kernel
theorem dX6_cheapestSteps_7 : decode cX6_cheapestSteps 7 = .ok (.iconst 0, 1) := by decide +kernel
theorem dX6_cheapestSteps_8 : decode cX6_cheapestSteps 8 = .ok (.istore_n 3, 1) := by decide +kernel
theorem dX6_cheapestSteps_9 : decode cX6_cheapestSteps 9 = .ok (.bipush (-9), 2) := by decide +kernel
theorem dX6_cheapestSteps_11 : decode cX6_cheapestSteps 11 = .ok (.istore 4, 2) := by decide +kernel
theorem dX6_cheapestSteps_13 : decode cX6_cheapestSteps 13 = .ok (.iconst 0, 1) := by decide +kernel
theorem dX6_cheapestSteps_14 : decode cX6_cheapestSteps 14 = .ok (.istore 5, 2) := by decide +kernel
theorem dX6_cheapestSteps_16 : decode cX6_cheapestSteps 16 = .ok (.iload 5, 2) := by decide +kernel
theorem dX6_cheapestSteps_18 : decode cX6_cheapestSteps 18 = .ok (.iload_n 1, 1) := by decide +kernel
theorem dX6_cheapestSteps_19 : decode cX6_cheapestSteps 19 = .ok (.if_icmp .ge 40, 3) := by decide +kernel
theorem dX6_cheapestSteps_22 : decode cX6_cheapestSteps 22 = .ok (.aload_n 0, 1) := by decide +kernel
theorem dX6_cheapestSteps_23 : decode cX6_cheapestSteps 23 = .ok (.getfield 15, 3) := by decide +kernel
theorem dX6_cheapestSteps_26 : decode cX6_cheapestSteps 26 = .ok (.getfield 40, 3) := by decide +kernel
theorem dX6_cheapestSteps_29 : decode cX6_cheapestSteps 29 = .ok (.ifCond .le 30, 3) := by decide +kernel
theorem dX6_cheapestSteps_32 : decode cX6_cheapestSteps 32 = .ok (.aload_n 0, 1) := by decide +kernel
theorem dX6_cheapestSteps_33 : decode cX6_cheapestSteps 33 = .ok (.getfield 19, 3) := by decide +kernel
theorem dX6_cheapestSteps_36 : decode cX6_cheapestSteps 36 = .ok (.invokevirtual 75, 3) := by decide +kernel
theorem dX6_cheapestSteps_39 : decode cX6_cheapestSteps 39 = .ok (.istore 4, 2) := by decide +kernel
theorem dX6_cheapestSteps_41 : decode cX6_cheapestSteps 41 = .ok (.iload_n 3, 1) := by decide +kernel
theorem dX6_cheapestSteps_42 : decode cX6_cheapestSteps 42 = .ok (.aload_n 0, 1) := by decide +kernel
theorem dX6_cheapestSteps_43 : decode cX6_cheapestSteps 43 = .ok (.getfield 19, 3) := by decide +kernel
theorem dX6_cheapestSteps_46 : decode cX6_cheapestSteps 46 = .ok (.iload 4, 2) := by decide +kernel
theorem dX6_cheapestSteps_48 : decode cX6_cheapestSteps 48 = .ok (.invokevirtual 72, 3) := by decide +kernel
theorem dX6_cheapestSteps_51 : decode cX6_cheapestSteps 51 = .ok (.iadd, 1) := by decide +kernel
theorem dX6_cheapestSteps_52 : decode cX6_cheapestSteps 52 = .ok (.istore_n 3, 1) := by decide +kernel
theorem dX6_cheapestSteps_53 : decode cX6_cheapestSteps 53 = .ok (.iinc 5 1, 3) := by decide +kernel
theorem dX6_cheapestSteps_56 : decode cX6_cheapestSteps 56 = .ok (.goto (-40), 3) := by decide +kernel
theorem dX6_cheapestSteps_59 : decode cX6_cheapestSteps 59 = .ok (.iload_n 2, 1) := by decide +kernel
theorem dX6_cheapestSteps_60 : decode cX6_cheapestSteps 60 = .ok (.ifCond .ne 7, 3) := by decide +kernel
theorem dX6_cheapestSteps_63 : decode cX6_cheapestSteps 63 = .ok (.iload_n 3, 1) := by decide +kernel
theorem dX6_cheapestSteps_64 : decode cX6_cheapestSteps 64 = .ok (.goto 5, 3) := by decide +kernel
theorem dX6_cheapestSteps_67 : decode cX6_cheapestSteps 67 = .ok (.iload 4, 2) := by decide +kernel
theorem dX6_cheapestSteps_69 : decode cX6_cheapestSteps 69 = .ok (.ireturn, 1) := by decide +kernel
set_option maxRecDepth 100000 in
set_option maxHeartbeats 4000000 in
theorem c_X6_cheapestSteps {l : Launch} {G : Gx} (hap : k_ap G shC.length) (v1 : Int32) (v2 : Int32) (M0 : Mem) (r : Int32 × Mem) (hf : f_X6_cheapestSteps v1 v2 M0 = some r) : k_Met l yX6_cheapestSteps cX6_cheapestSteps 6 (some .int) 5 108 G shC [.ref (G.2.1 34), .int v1, .int v2] M0 (k_Qi G shC r.1 r.2) := by
  refine k_Met_of (by decide) hap (Nat.le_of_ble_eq_true rfl) ?_
  intro p e s m args below meth c C hr hlk
  have C : Cx p s m args c cX6_cheapestSteps RX6 6 G shC := C
  have k_b59 : ∀ (v2 : Int32) (v3 : Int32) (v4 : Int32) (M : Mem), f_X6_cheapestSteps_b59 v2 v3 v4 M = some r → K p l e (k_rm 5 108) s m args below meth c 6 G shC (MQ below (k_Qi G shC r.1 r.2) args s 0 0 (k_A G shC.length)) 59 [(2, .int v2), (3, .int v3), (4, .int v4)] [] M := by
    intro v2 v3 v4 M hf
    unfold f_X6_cheapestSteps_b59 at hf
    refine k_iload_n C dX6_cheapestSteps_59 0 rfl ?_
    rcases ite_g hf with ⟨c4, hf⟩ | ⟨c4, hf⟩
    · refine k_if_ne_f C dX6_cheapestSteps_60 (tgt := 67) (by decide) c4 ?_
      refine k_iload_n C dX6_cheapestSteps_63 1 rfl ?_
      refine k_goto C dX6_cheapestSteps_64 (tgt := 69) (by decide) ?_
      exact k_iret C hr hlk (prf hf) (prs hf) dX6_cheapestSteps_69
    · refine k_if_ne_t C dX6_cheapestSteps_60 (tgt := 67) (by decide) c4 ?_
      refine k_iload C dX6_cheapestSteps_67 2 rfl ?_
      exact k_iret C hr hlk (prf hf) (prs hf) dX6_cheapestSteps_69
  have k_b16 : ∀ (n16 : Nat) (v1 : Int32) (v2 : Int32) (v3 : Int32) (v4 : Int32) (v5 : Int32) (M : Mem), f_X6_cheapestSteps_b16 n16 v1 v2 v3 v4 v5 M = some r → K p l e (k_rm 5 108) s m args below meth c 6 G shC (MQ below (k_Qi G shC r.1 r.2) args s 0 0 (k_A G shC.length)) 16 [(0, .ref (G.2.1 34)), (1, .int v1), (2, .int v2), (3, .int v3), (4, .int v4), (5, .int v5)] [] M := by
    intro n16
    induction n16 with
    | zero => intro v1 v2 v3 v4 v5 M hf; simp [f_X6_cheapestSteps_b16] at hf
    | succ n16 ih16 =>
      intro v1 v2 v3 v4 v5 M hf
      unfold f_X6_cheapestSteps_b16 at hf
      refine k_iload C dX6_cheapestSteps_16 5 rfl ?_
      refine k_iload_n C dX6_cheapestSteps_18 1 rfl ?_
      rcases ite_g hf with ⟨c3, hf⟩ | ⟨c3, hf⟩
      · refine k_icmp_ge_t C dX6_cheapestSteps_19 (tgt := 59) (by decide) c3 ?_
        refine k_lv [2, 3, 4] rfl ?_
        exact k_b59 v2 v3 v4 M hf
      · refine k_icmp_ge_f C dX6_cheapestSteps_19 (tgt := 59) (by decide) c3 ?_
        refine k_aload_n C dX6_cheapestSteps_22 0 rfl ?_
        refine k_getr C shC_34 (j := 0) rfl FL_X6_15 dX6_cheapestSteps_23 ?_
        refine k_geti C shC_1 (j := 4) rfl FL_X6_40 dX6_cheapestSteps_26 ?_
        rcases ite_g hf with ⟨c6, hf⟩ | ⟨c6, hf⟩
        · refine k_if_le_t C dX6_cheapestSteps_29 (tgt := 59) (by decide) c6 ?_
          refine k_lv [2, 3, 4] rfl ?_
          exact k_b59 v2 v3 v4 M hf
        · refine k_if_le_f C dX6_cheapestSteps_29 (tgt := 59) (by decide) c6 ?_
          refine k_aload_n C dX6_cheapestSteps_32 0 rfl ?_
          refine k_getr C shC_34 (j := 1) rfl FL_X6_19 dX6_cheapestSteps_33 ?_
          obtain ⟨t7, ht7, hf⟩ := bnd hf
          refine k_callVi C (As := []) (c_X8_cheapestNext hap M t7 ht7) ML_X8_cheapestNext wd_1093 shC_25 rfl rfl rfl ⟨Nat.le_of_ble_eq_true rfl, Nat.le_of_ble_eq_true rfl⟩ (Nat.le_of_ble_eq_true rfl) dX6_cheapestSteps_36 ?_
          refine k_istore C dX6_cheapestSteps_39 (by decide) [1, 2, 3, 4, 0, 5] (lv' := [(0, .ref (G.2.1 34)), (1, .int v1), (2, .int v2), (3, .int v3), (4, .int t7), (5, .int v5)]) rfl ?_
          refine k_iload_n C dX6_cheapestSteps_41 3 rfl ?_
          refine k_aload_n C dX6_cheapestSteps_42 0 rfl ?_
          refine k_getr C shC_34 (j := 1) rfl FL_X6_19 dX6_cheapestSteps_43 ?_
          refine k_iload C dX6_cheapestSteps_46 4 rfl ?_
          obtain ⟨⟨t8, M8⟩, ht8, hf⟩ := bnd hf
          replace hf := bp_s hf
          refine k_callVi C (As := [.int t7]) (c_X8_step hap t7 M (t8, M8) ht8) ML_X8_step wd_1076 shC_25 rfl rfl rfl ⟨Nat.le_of_ble_eq_true rfl, Nat.le_of_ble_eq_true rfl⟩ (Nat.le_of_ble_eq_true rfl) dX6_cheapestSteps_48 ?_
          refine k_iadd C dX6_cheapestSteps_51 ?_
          refine k_istore_n C dX6_cheapestSteps_52 (by decide) [1, 2, 3, 0, 4, 5] (lv' := [(0, .ref (G.2.1 34)), (1, .int v1), (2, .int v2), (3, .int (v3 + t8)), (4, .int t7), (5, .int v5)]) rfl ?_
          refine k_iinc C dX6_cheapestSteps_53 5 rfl (v := (v5 + (1 : Int32))) rfl (by decide) [1, 2, 3, 4, 5, 0] (lv' := [(0, .ref (G.2.1 34)), (1, .int v1), (2, .int v2), (3, .int (v3 + t8)), (4, .int t7), (5, .int (v5 + (1 : Int32)))]) rfl ?_
          refine k_goto C dX6_cheapestSteps_56 (tgt := 16) (by decide) ?_
          exact ih16 v1 v2 (v3 + t8) t7 (v5 + (1 : Int32)) M8 hf
  unfold f_X6_cheapestSteps at hf
  refine k_lv (lv' := [(0, .ref (G.2.1 34)), (1, .int v1), (2, .int v2)]) [0, 1, 2] rfl ?_
  refine k_aload_n C dX6_cheapestSteps_0 0 rfl ?_
  refine k_getr C shC_34 (j := 1) rfl FL_X6_19 dX6_cheapestSteps_1 ?_
  obtain ⟨M1, hM1, hf⟩ := bnd hf
  refine k_callVv C (As := []) (c_X8_openBehindLog hap M0 M1 hM1) ML_X8_openBehindLog wd_726 shC_25 rfl rfl rfl ⟨Nat.le_of_ble_eq_true rfl, Nat.le_of_ble_eq_true rfl⟩ (Nat.le_of_ble_eq_true rfl) dX6_cheapestSteps_4 ?_
  refine k_iconst C dX6_cheapestSteps_7 (v := (0 : Int32)) rfl ?_
  refine k_istore_n C dX6_cheapestSteps_8 (by decide) [1, 2, 3, 0] (lv' := [(0, .ref (G.2.1 34)), (1, .int v1), (2, .int v2), (3, .int (0 : Int32))]) rfl ?_
  refine k_bipush C dX6_cheapestSteps_9 (v := (-9 : Int32)) rfl ?_
  refine k_istore C dX6_cheapestSteps_11 (by decide) [1, 2, 3, 4, 0] (lv' := [(0, .ref (G.2.1 34)), (1, .int v1), (2, .int v2), (3, .int (0 : Int32)), (4, .int (-9 : Int32))]) rfl ?_
  refine k_iconst C dX6_cheapestSteps_13 (v := (0 : Int32)) rfl ?_
  refine k_istore C dX6_cheapestSteps_14 (by decide) [1, 2, 3, 4, 5, 0] (lv' := [(0, .ref (G.2.1 34)), (1, .int v1), (2, .int v2), (3, .int (0 : Int32)), (4, .int (-9 : Int32)), (5, .int (0 : Int32))]) rfl ?_
  exact k_b16 FU v1 v2 (0 : Int32) (-9 : Int32) (0 : Int32) M1 hf
theorem dX6_stepsWithin_0 : decode cX6_stepsWithin 0 = .ok (.aload_n 0, 1) := by decide +kernel
theorem dX6_stepsWithin_1 : decode cX6_stepsWithin 1 = .ok (.getfield 19, 3) := by decide +kernel
theorem dX6_stepsWithin_4 : decode cX6_stepsWithin 4 = .ok (.invokevirtual 23, 3) := by decide +kernel
theorem dX6_stepsWithin_7 : decode cX6_stepsWithin 7 = .ok (.iconst 0, 1) := by decide +kernel
theorem dX6_stepsWithin_8 : decode cX6_stepsWithin 8 = .ok (.istore_n 2, 1) := by decide +kernel
theorem dX6_stepsWithin_9 : decode cX6_stepsWithin 9 = .ok (.iconst 0, 1) := by decide +kernel
theorem dX6_stepsWithin_10 : decode cX6_stepsWithin 10 = .ok (.istore_n 3, 1) := by decide +kernel
theorem dX6_stepsWithin_11 : decode cX6_stepsWithin 11 = .ok (.iload_n 3, 1) := by decide +kernel
theorem dX6_stepsWithin_12 : decode cX6_stepsWithin 12 = .ok (.bipush 60, 2) := by decide +kernel
theorem dX6_stepsWithin_14 : decode cX6_stepsWithin 14 = .ok (.if_icmp .ge 43, 3) := by decide +kernel
theorem dX6_stepsWithin_17 : decode cX6_stepsWithin 17 = .ok (.aload_n 0, 1) := by decide +kernel
theorem dX6_stepsWithin_18 : decode cX6_stepsWithin 18 = .ok (.getfield 15, 3) := by decide +kernel
theorem dX6_stepsWithin_21 : decode cX6_stepsWithin 21 = .ok (.getfield 40, 3) := by decide +kernel
theorem dX6_stepsWithin_24 : decode cX6_stepsWithin 24 = .ok (.ifCond .le 33, 3) := by decide +kernel
theorem dX6_stepsWithin_27 : decode cX6_stepsWithin 27 = .ok (.iload_n 2, 1) := by decide +kernel
theorem dX6_stepsWithin_28 : decode cX6_stepsWithin 28 = .ok (.aload_n 0, 1) := by decide +kernel
theorem dX6_stepsWithin_29 : decode cX6_stepsWithin 29 = .ok (.getfield 19, 3) := by decide +kernel
theorem dX6_stepsWithin_32 : decode cX6_stepsWithin 32 = .ok (.aload_n 0, 1) := by decide +kernel
theorem dX6_stepsWithin_33 : decode cX6_stepsWithin 33 = .ok (.getfield 19, 3) := by decide +kernel
theorem dX6_stepsWithin_36 : decode cX6_stepsWithin 36 = .ok (.invokevirtual 75, 3) := by decide +kernel
theorem dX6_stepsWithin_39 : decode cX6_stepsWithin 39 = .ok (.invokevirtual 72, 3) := by decide +kernel
theorem dX6_stepsWithin_42 : decode cX6_stepsWithin 42 = .ok (.iadd, 1) := by decide +kernel
theorem dX6_stepsWithin_43 : decode cX6_stepsWithin 43 = .ok (.istore_n 2, 1) := by decide +kernel
theorem dX6_stepsWithin_44 : decode cX6_stepsWithin 44 = .ok (.iload_n 2, 1) := by decide +kernel
theorem dX6_stepsWithin_45 : decode cX6_stepsWithin 45 = .ok (.iload_n 1, 1) := by decide +kernel
theorem dX6_stepsWithin_46 : decode cX6_stepsWithin 46 = .ok (.if_icmp .le 5, 3) := by decide +kernel
theorem dX6_stepsWithin_49 : decode cX6_stepsWithin 49 = .ok (.iload_n 3, 1) := by decide +kernel
theorem dX6_stepsWithin_50 : decode cX6_stepsWithin 50 = .ok (.ireturn, 1) := by decide +kernel
theorem dX6_stepsWithin_51 : decode cX6_stepsWithin 51 = .ok (.iinc 3 1, 3) := by decide +kernel
theorem dX6_stepsWithin_54 : decode cX6_stepsWithin 54 = .ok (.goto (-43), 3) := by decide +kernel
theorem dX6_stepsWithin_57 : decode cX6_stepsWithin 57 = .ok (.bipush 60, 2) := by decide +kernel
theorem dX6_stepsWithin_59 : decode cX6_stepsWithin 59 = .ok (.ireturn, 1) := by decide +kernel
set_option maxRecDepth 100000 in
set_option maxHeartbeats 4000000 in
theorem c_X6_stepsWithin {l : Launch} {G : Gx} (hap : k_ap G shC.length) (v1 : Int32) (M0 : Mem) (r : Int32 × Mem) (hf : f_X6_stepsWithin v1 M0 = some r) : k_Met l yX6_stepsWithin cX6_stepsWithin 4 (some .int) 5 108 G shC [.ref (G.2.1 34), .int v1] M0 (k_Qi G shC r.1 r.2) := by
  refine k_Met_of (by decide) hap (Nat.le_of_ble_eq_true rfl) ?_
  intro p e s m args below meth c C hr hlk
  have C : Cx p s m args c cX6_stepsWithin RX6 4 G shC := C
  have k_b11 : ∀ (n11 : Nat) (v1 : Int32) (v2 : Int32) (v3 : Int32) (M : Mem), f_X6_stepsWithin_b11 n11 v1 v2 v3 M = some r → K p l e (k_rm 5 108) s m args below meth c 4 G shC (MQ below (k_Qi G shC r.1 r.2) args s 0 0 (k_A G shC.length)) 11 [(0, .ref (G.2.1 34)), (1, .int v1), (2, .int v2), (3, .int v3)] [] M := by
    intro n11
    induction n11 with
    | zero => intro v1 v2 v3 M hf; simp [f_X6_stepsWithin_b11] at hf
    | succ n11 ih11 =>
      intro v1 v2 v3 M hf
      unfold f_X6_stepsWithin_b11 at hf
      refine k_iload_n C dX6_stepsWithin_11 3 rfl ?_
      refine k_bipush C dX6_stepsWithin_12 (v := (60 : Int32)) rfl ?_
      rcases ite_g hf with ⟨c2, hf⟩ | ⟨c2, hf⟩
      · refine k_icmp_ge_t C dX6_stepsWithin_14 (tgt := 57) (by decide) c2 ?_
        refine k_bipush C dX6_stepsWithin_57 (v := (60 : Int32)) rfl ?_
        exact k_iret C hr hlk (prf hf) (prs hf) dX6_stepsWithin_59
      · refine k_icmp_ge_f C dX6_stepsWithin_14 (tgt := 57) (by decide) c2 ?_
        refine k_aload_n C dX6_stepsWithin_17 0 rfl ?_
        refine k_getr C shC_34 (j := 0) rfl FL_X6_15 dX6_stepsWithin_18 ?_
        refine k_geti C shC_1 (j := 4) rfl FL_X6_40 dX6_stepsWithin_21 ?_
        rcases ite_g hf with ⟨c3, hf⟩ | ⟨c3, hf⟩
        · refine k_if_le_t C dX6_stepsWithin_24 (tgt := 57) (by decide) c3 ?_
          refine k_bipush C dX6_stepsWithin_57 (v := (60 : Int32)) rfl ?_
          exact k_iret C hr hlk (prf hf) (prs hf) dX6_stepsWithin_59
        · refine k_if_le_f C dX6_stepsWithin_24 (tgt := 57) (by decide) c3 ?_
          refine k_iload_n C dX6_stepsWithin_27 2 rfl ?_
          refine k_aload_n C dX6_stepsWithin_28 0 rfl ?_
          refine k_getr C shC_34 (j := 1) rfl FL_X6_19 dX6_stepsWithin_29 ?_
          refine k_aload_n C dX6_stepsWithin_32 0 rfl ?_
          refine k_getr C shC_34 (j := 1) rfl FL_X6_19 dX6_stepsWithin_33 ?_
          obtain ⟨t4, ht4, hf⟩ := bnd hf
          refine k_callVi C (As := []) (c_X8_cheapestNext hap M t4 ht4) ML_X8_cheapestNext wd_1093 shC_25 rfl rfl rfl ⟨Nat.le_of_ble_eq_true rfl, Nat.le_of_ble_eq_true rfl⟩ (Nat.le_of_ble_eq_true rfl) dX6_stepsWithin_36 ?_
          obtain ⟨⟨t5, M5⟩, ht5, hf⟩ := bnd hf
          replace hf := bp_s hf
          refine k_callVi C (As := [.int t4]) (c_X8_step hap t4 M (t5, M5) ht5) ML_X8_step wd_1076 shC_25 rfl rfl rfl ⟨Nat.le_of_ble_eq_true rfl, Nat.le_of_ble_eq_true rfl⟩ (Nat.le_of_ble_eq_true rfl) dX6_stepsWithin_39 ?_
          refine k_iadd C dX6_stepsWithin_42 ?_
          refine k_istore_n C dX6_stepsWithin_43 (by decide) [1, 2, 0, 3] (lv' := [(0, .ref (G.2.1 34)), (1, .int v1), (2, .int (v2 + t5)), (3, .int v3)]) rfl ?_
          refine k_iload_n C dX6_stepsWithin_44 2 rfl ?_
          refine k_iload_n C dX6_stepsWithin_45 1 rfl ?_
          rcases ite_g hf with ⟨c6, hf⟩ | ⟨c6, hf⟩
          · refine k_icmp_le_t C dX6_stepsWithin_46 (tgt := 51) (by decide) c6 ?_
            refine k_iinc C dX6_stepsWithin_51 3 rfl (v := (v3 + (1 : Int32))) rfl (by decide) [1, 2, 3, 0] (lv' := [(0, .ref (G.2.1 34)), (1, .int v1), (2, .int (v2 + t5)), (3, .int (v3 + (1 : Int32)))]) rfl ?_
            refine k_goto C dX6_stepsWithin_54 (tgt := 11) (by decide) ?_
            exact ih11 v1 (v2 + t5) (v3 + (1 : Int32)) M5 hf
          · refine k_icmp_le_f C dX6_stepsWithin_46 (tgt := 51) (by decide) c6 ?_
            refine k_iload_n C dX6_stepsWithin_49 3 rfl ?_
            exact k_iret C hr hlk (prf hf) (prs hf) dX6_stepsWithin_50
  unfold f_X6_stepsWithin at hf
  refine k_lv (lv' := [(0, .ref (G.2.1 34)), (1, .int v1)]) [0, 1] rfl ?_
  refine k_aload_n C dX6_stepsWithin_0 0 rfl ?_
  refine k_getr C shC_34 (j := 1) rfl FL_X6_19 dX6_stepsWithin_1 ?_
  obtain ⟨M1, hM1, hf⟩ := bnd hf
  refine k_callVv C (As := []) (c_X8_openBehindLog hap M0 M1 hM1) ML_X8_openBehindLog wd_726 shC_25 rfl rfl rfl ⟨Nat.le_of_ble_eq_true rfl, Nat.le_of_ble_eq_true rfl⟩ (Nat.le_of_ble_eq_true rfl) dX6_stepsWithin_4 ?_
  refine k_iconst C dX6_stepsWithin_7 (v := (0 : Int32)) rfl ?_
  refine k_istore_n C dX6_stepsWithin_8 (by decide) [1, 2, 0] (lv' := [(0, .ref (G.2.1 34)), (1, .int v1), (2, .int (0 : Int32))]) rfl ?_
  refine k_iconst C dX6_stepsWithin_9 (v := (0 : Int32)) rfl ?_
  refine k_istore_n C dX6_stepsWithin_10 (by decide) [1, 2, 3, 0] (lv' := [(0, .ref (G.2.1 34)), (1, .int v1), (2, .int (0 : Int32)), (3, .int (0 : Int32))]) rfl ?_
  exact k_b11 FU v1 (0 : Int32) (0 : Int32) M1 hf
theorem dX6_totalByTurns_0 : decode cX6_totalByTurns 0 = .ok (.aload_n 0, 1) := by decide +kernel
theorem dX6_totalByTurns_1 : decode cX6_totalByTurns 1 = .ok (.getfield 19, 3) := by decide +kernel
theorem dX6_totalByTurns_4 : decode cX6_totalByTurns 4 = .ok (.invokevirtual 86, 3) := by decide +kernel
theorem dX6_totalByTurns_7 : decode cX6_totalByTurns 7 = .ok (.iconst 0, 1) := by decide +kernel
theorem dX6_totalByTurns_8 : decode cX6_totalByTurns 8 = .ok (.istore 4, 2) := by decide +kernel
theorem dX6_totalByTurns_10 : decode cX6_totalByTurns 10 = .ok (.iconst 0, 1) := by decide +kernel
theorem dX6_totalByTurns_11 : decode cX6_totalByTurns 11 = .ok (.istore 5, 2) := by decide +kernel
theorem dX6_totalByTurns_13 : decode cX6_totalByTurns 13 = .ok (.iload 5, 2) := by decide +kernel
theorem dX6_totalByTurns_15 : decode cX6_totalByTurns 15 = .ok (.iload_n 3, 1) := by decide +kernel
theorem dX6_totalByTurns_16 : decode cX6_totalByTurns 16 = .ok (.if_icmp .ge 35, 3) := by decide +kernel
theorem dX6_totalByTurns_19 : decode cX6_totalByTurns 19 = .ok (.iload 4, 2) := by decide +kernel
theorem dX6_totalByTurns_21 : decode cX6_totalByTurns 21 = .ok (.aload_n 0, 1) := by decide +kernel
theorem dX6_totalByTurns_22 : decode cX6_totalByTurns 22 = .ok (.getfield 19, 3) := by decide +kernel
theorem dX6_totalByTurns_25 : decode cX6_totalByTurns 25 = .ok (.iload_n 1, 1) := by decide +kernel
theorem dX6_totalByTurns_26 : decode cX6_totalByTurns 26 = .ok (.invokevirtual 72, 3) := by decide +kernel
theorem dX6_totalByTurns_29 : decode cX6_totalByTurns 29 = .ok (.iadd, 1) := by decide +kernel
theorem dX6_totalByTurns_30 : decode cX6_totalByTurns 30 = .ok (.istore 4, 2) := by decide +kernel
theorem dX6_totalByTurns_32 : decode cX6_totalByTurns 32 = .ok (.iload 4, 2) := by decide +kernel
theorem dX6_totalByTurns_34 : decode cX6_totalByTurns 34 = .ok (.aload_n 0, 1) := by decide +kernel
theorem dX6_totalByTurns_35 : decode cX6_totalByTurns 35 = .ok (.getfield 19, 3) := by decide +kernel
theorem dX6_totalByTurns_38 : decode cX6_totalByTurns 38 = .ok (.iload_n 2, 1) := by decide +kernel
theorem dX6_totalByTurns_39 : decode cX6_totalByTurns 39 = .ok (.invokevirtual 72, 3) := by decide +kernel
theorem dX6_totalByTurns_42 : decode cX6_totalByTurns 42 = .ok (.iadd, 1) := by decide +kernel
theorem dX6_totalByTurns_43 : decode cX6_totalByTurns 43 = .ok (.istore 4, 2) := by decide +kernel
theorem dX6_totalByTurns_45 : decode cX6_totalByTurns 45 = .ok (.iinc 5 1, 3) := by decide +kernel
theorem dX6_totalByTurns_48 : decode cX6_totalByTurns 48 = .ok (.goto (-35), 3) := by decide +kernel
theorem dX6_totalByTurns_51 : decode cX6_totalByTurns 51 = .ok (.iload 4, 2) := by decide +kernel
theorem dX6_totalByTurns_53 : decode cX6_totalByTurns 53 = .ok (.ireturn, 1) := by decide +kernel
set_option maxRecDepth 100000 in
set_option maxHeartbeats 4000000 in
theorem c_X6_totalByTurns {l : Launch} {G : Gx} (hap : k_ap G shC.length) (v1 : Int32) (v2 : Int32) (v3 : Int32) (M0 : Mem) (r : Int32 × Mem) (hf : f_X6_totalByTurns v1 v2 v3 M0 = some r) : k_Met l yX6_totalByTurns cX6_totalByTurns 6 (some .int) 2 46 G shC [.ref (G.2.1 34), .int v1, .int v2, .int v3] M0 (k_Qi G shC r.1 r.2) := by
  refine k_Met_of (by decide) hap (Nat.le_of_ble_eq_true rfl) ?_
  intro p e s m args below meth c C hr hlk
  have C : Cx p s m args c cX6_totalByTurns RX6 6 G shC := C
  have k_b13 : ∀ (n13 : Nat) (v1 : Int32) (v2 : Int32) (v3 : Int32) (v4 : Int32) (v5 : Int32) (M : Mem), f_X6_totalByTurns_b13 n13 v1 v2 v3 v4 v5 M = some r → K p l e (k_rm 2 46) s m args below meth c 6 G shC (MQ below (k_Qi G shC r.1 r.2) args s 0 0 (k_A G shC.length)) 13 [(0, .ref (G.2.1 34)), (1, .int v1), (2, .int v2), (3, .int v3), (4, .int v4), (5, .int v5)] [] M := by
    intro n13
    induction n13 with
    | zero => intro v1 v2 v3 v4 v5 M hf; simp [f_X6_totalByTurns_b13] at hf
    | succ n13 ih13 =>
      intro v1 v2 v3 v4 v5 M hf
      unfold f_X6_totalByTurns_b13 at hf
      refine k_iload C dX6_totalByTurns_13 5 rfl ?_
      refine k_iload_n C dX6_totalByTurns_15 3 rfl ?_
      rcases ite_g hf with ⟨c3, hf⟩ | ⟨c3, hf⟩
      · refine k_icmp_ge_t C dX6_totalByTurns_16 (tgt := 51) (by decide) c3 ?_
        refine k_iload C dX6_totalByTurns_51 4 rfl ?_
        exact k_iret C hr hlk (prf hf) (prs hf) dX6_totalByTurns_53
      · refine k_icmp_ge_f C dX6_totalByTurns_16 (tgt := 51) (by decide) c3 ?_
        refine k_iload C dX6_totalByTurns_19 4 rfl ?_
        refine k_aload_n C dX6_totalByTurns_21 0 rfl ?_
        refine k_getr C shC_34 (j := 1) rfl FL_X6_19 dX6_totalByTurns_22 ?_
        refine k_iload_n C dX6_totalByTurns_25 1 rfl ?_
        obtain ⟨⟨t4, M4⟩, ht4, hf⟩ := bnd hf
        replace hf := bp_s hf
        refine k_callVi C (As := [.int v1]) (c_X8_step hap v1 M (t4, M4) ht4) ML_X8_step wd_1076 shC_25 rfl rfl rfl ⟨Nat.le_of_ble_eq_true rfl, Nat.le_of_ble_eq_true rfl⟩ (Nat.le_of_ble_eq_true rfl) dX6_totalByTurns_26 ?_
        refine k_iadd C dX6_totalByTurns_29 ?_
        refine k_istore C dX6_totalByTurns_30 (by decide) [1, 2, 3, 4, 0, 5] (lv' := [(0, .ref (G.2.1 34)), (1, .int v1), (2, .int v2), (3, .int v3), (4, .int (v4 + t4)), (5, .int v5)]) rfl ?_
        refine k_iload C dX6_totalByTurns_32 4 rfl ?_
        refine k_aload_n C dX6_totalByTurns_34 0 rfl ?_
        refine k_getr C shC_34 (j := 1) rfl FL_X6_19 dX6_totalByTurns_35 ?_
        refine k_iload_n C dX6_totalByTurns_38 2 rfl ?_
        obtain ⟨⟨t5, M5⟩, ht5, hf⟩ := bnd hf
        replace hf := bp_s hf
        refine k_callVi C (As := [.int v2]) (c_X8_step hap v2 M4 (t5, M5) ht5) ML_X8_step wd_1076 shC_25 rfl rfl rfl ⟨Nat.le_of_ble_eq_true rfl, Nat.le_of_ble_eq_true rfl⟩ (Nat.le_of_ble_eq_true rfl) dX6_totalByTurns_39 ?_
        refine k_iadd C dX6_totalByTurns_42 ?_
        refine k_istore C dX6_totalByTurns_43 (by decide) [1, 2, 3, 4, 0, 5] (lv' := [(0, .ref (G.2.1 34)), (1, .int v1), (2, .int v2), (3, .int v3), (4, .int ((v4 + t4) + t5)), (5, .int v5)]) rfl ?_
        refine k_iinc C dX6_totalByTurns_45 5 rfl (v := (v5 + (1 : Int32))) rfl (by decide) [1, 2, 3, 4, 5, 0] (lv' := [(0, .ref (G.2.1 34)), (1, .int v1), (2, .int v2), (3, .int v3), (4, .int ((v4 + t4) + t5)), (5, .int (v5 + (1 : Int32)))]) rfl ?_
        refine k_goto C dX6_totalByTurns_48 (tgt := 13) (by decide) ?_
        exact ih13 v1 v2 v3 ((v4 + t4) + t5) (v5 + (1 : Int32)) M5 hf
  unfold f_X6_totalByTurns at hf
  refine k_lv (lv' := [(0, .ref (G.2.1 34)), (1, .int v1), (2, .int v2), (3, .int v3)]) [0, 1, 2, 3] rfl ?_
  refine k_aload_n C dX6_totalByTurns_0 0 rfl ?_
  refine k_getr C shC_34 (j := 1) rfl FL_X6_19 dX6_totalByTurns_1 ?_
  obtain ⟨M1, hM1, hf⟩ := bnd hf
  refine k_callVv C (As := []) (c_X8_forgetSteps hap M0 M1 hM1) ML_X8_forgetSteps wd_1107 shC_25 rfl rfl rfl ⟨Nat.le_of_ble_eq_true rfl, Nat.le_of_ble_eq_true rfl⟩ (Nat.le_of_ble_eq_true rfl) dX6_totalByTurns_4 ?_
  refine k_iconst C dX6_totalByTurns_7 (v := (0 : Int32)) rfl ?_
  refine k_istore C dX6_totalByTurns_8 (by decide) [1, 2, 3, 4, 0] (lv' := [(0, .ref (G.2.1 34)), (1, .int v1), (2, .int v2), (3, .int v3), (4, .int (0 : Int32))]) rfl ?_
  refine k_iconst C dX6_totalByTurns_10 (v := (0 : Int32)) rfl ?_
  refine k_istore C dX6_totalByTurns_11 (by decide) [1, 2, 3, 4, 5, 0] (lv' := [(0, .ref (G.2.1 34)), (1, .int v1), (2, .int v2), (3, .int v3), (4, .int (0 : Int32)), (5, .int (0 : Int32))]) rfl ?_
  exact k_b13 FU v1 v2 v3 (0 : Int32) (0 : Int32) M1 hf
theorem dX6_cheapestTwo_0 : decode cX6_cheapestTwo 0 = .ok (.aload_n 0, 1) := by decide +kernel
theorem dX6_cheapestTwo_1 : decode cX6_cheapestTwo 1 = .ok (.getfield 19, 3) := by decide +kernel
theorem dX6_cheapestTwo_4 : decode cX6_cheapestTwo 4 = .ok (.invokevirtual 79, 3) := by decide +kernel
theorem dX6_cheapestTwo_7 : decode cX6_cheapestTwo 7 = .ok (.bipush (-9), 2) := by decide +kernel
theorem dX6_cheapestTwo_9 : decode cX6_cheapestTwo 9 = .ok (.istore_n 3, 1) := by decide +kernel
theorem dX6_cheapestTwo_10 : decode cX6_cheapestTwo 10 = .ok (.ldc 39, 2) := by decide +kernel
theorem dX6_cheapestTwo_12 : decode cX6_cheapestTwo 12 = .ok (.istore 4, 2) := by decide +kernel
theorem dX6_cheapestTwo_14 : decode cX6_cheapestTwo 14 = .ok (.iconst 0, 1) := by decide +kernel
theorem dX6_cheapestTwo_15 : decode cX6_cheapestTwo 15 = .ok (.istore 5, 2) := by decide +kernel
theorem dX6_cheapestTwo_17 : decode cX6_cheapestTwo 17 = .ok (.iload 5, 2) := by decide +kernel
theorem dX6_cheapestTwo_19 : decode cX6_cheapestTwo 19 = .ok (.aload_n 0, 1) := by decide +kernel
theorem dX6_cheapestTwo_20 : decode cX6_cheapestTwo 20 = .ok (.getfield 15, 3) := by decide +kernel
theorem dX6_cheapestTwo_23 : decode cX6_cheapestTwo 23 = .ok (.getfield 40, 3) := by decide +kernel
theorem dX6_cheapestTwo_26 : decode cX6_cheapestTwo 26 = .ok (.if_icmp .ge 64, 3) := by decide +kernel
theorem dX6_cheapestTwo_29 : decode cX6_cheapestTwo 29 = .ok (.iload 5, 2) := by decide +kernel
theorem dX6_cheapestTwo_31 : decode cX6_cheapestTwo 31 = .ok (.iconst 1, 1) := by decide +kernel
theorem dX6_cheapestTwo_32 : decode cX6_cheapestTwo 32 = .ok (.iadd, 1) := by decide +kernel
theorem dX6_cheapestTwo_33 : decode cX6_cheapestTwo 33 = .ok (.istore 6, 2) := by decide +kernel
theorem dX6_cheapestTwo_35 : decode cX6_cheapestTwo 35 = .ok (.iload 6, 2) := by decide +kernel
theorem dX6_cheapestTwo_37 : decode cX6_cheapestTwo 37 = .ok (.aload_n 0, 1) := by decide +kernel
theorem dX6_cheapestTwo_38 : decode cX6_cheapestTwo 38 = .ok (.getfield 15, 3) := by decide +kernel
theorem dX6_cheapestTwo_41 : decode cX6_cheapestTwo 41 = .ok (.getfield 40, 3) := by decide +kernel
theorem dX6_cheapestTwo_44 : decode cX6_cheapestTwo 44 = .ok (.if_icmp .ge 40, 3) := by decide +kernel
theorem dX6_cheapestTwo_47 : decode cX6_cheapestTwo 47 = .ok (.aload_n 0, 1) := by decide +kernel
theorem dX6_cheapestTwo_48 : decode cX6_cheapestTwo 48 = .ok (.iload 5, 2) := by decide +kernel
theorem dX6_cheapestTwo_50 : decode cX6_cheapestTwo 50 = .ok (.iload 6, 2) := by decide +kernel
theorem dX6_cheapestTwo_52 : decode cX6_cheapestTwo 52 = .ok (.iload_n 1, 1) := by decide +kernel
theorem dX6_cheapestTwo_53 : decode cX6_cheapestTwo 53 = .ok (.invokevirtual 82, 3) := by decide +kernel
theorem dX6_cheapestTwo_56 : decode cX6_cheapestTwo 56 = .ok (.istore 7, 2) := by decide +kernel
theorem dX6_cheapestTwo_58 : decode cX6_cheapestTwo 58 = .ok (.iload 7, 2) := by decide +kernel
theorem dX6_cheapestTwo_60 : decode cX6_cheapestTwo 60 = .ok (.iload 4, 2) := by decide +kernel
theorem dX6_cheapestTwo_62 : decode cX6_cheapestTwo 62 = .ok (.if_icmp .ge 16, 3) := by decide +kernel
theorem dX6_cheapestTwo_65 : decode cX6_cheapestTwo 65 = .ok (.iload 7, 2) := by decide +kernel
theorem dX6_cheapestTwo_67 : decode cX6_cheapestTwo 67 = .ok (.istore 4, 2) := by decide +kernel
theorem dX6_cheapestTwo_69 : decode cX6_cheapestTwo 69 = .ok (.bipush 10, 2) := by decide +kernel
theorem dX6_cheapestTwo_71 : decode cX6_cheapestTwo 71 = .ok (.iload 5, 2) := by decide +kernel
theorem dX6_cheapestTwo_73 : decode cX6_cheapestTwo 73 = .ok (.imul, 1) := by decide +kernel
theorem dX6_cheapestTwo_74 : decode cX6_cheapestTwo 74 = .ok (.iload 6, 2) := by decide +kernel
theorem dX6_cheapestTwo_76 : decode cX6_cheapestTwo 76 = .ok (.iadd, 1) := by decide +kernel
theorem dX6_cheapestTwo_77 : decode cX6_cheapestTwo 77 = .ok (.istore_n 3, 1) := by decide +kernel
theorem dX6_cheapestTwo_78 : decode cX6_cheapestTwo 78 = .ok (.iinc 6 1, 3) := by decide +kernel
theorem dX6_cheapestTwo_81 : decode cX6_cheapestTwo 81 = .ok (.goto (-46), 3) := by decide +kernel
theorem dX6_cheapestTwo_84 : decode cX6_cheapestTwo 84 = .ok (.iinc 5 1, 3) := by decide +kernel
theorem dX6_cheapestTwo_87 : decode cX6_cheapestTwo 87 = .ok (.goto (-70), 3) := by decide +kernel
theorem dX6_cheapestTwo_90 : decode cX6_cheapestTwo 90 = .ok (.iload_n 2, 1) := by decide +kernel
theorem dX6_cheapestTwo_91 : decode cX6_cheapestTwo 91 = .ok (.ifCond .eq 9, 3) := by decide +kernel
theorem dX6_cheapestTwo_94 : decode cX6_cheapestTwo 94 = .ok (.iload_n 3, 1) := by decide +kernel
theorem dX6_cheapestTwo_95 : decode cX6_cheapestTwo 95 = .ok (.bipush (-9), 2) := by decide +kernel
theorem dX6_cheapestTwo_97 : decode cX6_cheapestTwo 97 = .ok (.if_icmp .ne 7, 3) := by decide +kernel
theorem dX6_cheapestTwo_100 : decode cX6_cheapestTwo 100 = .ok (.iload_n 3, 1) := by decide +kernel
theorem dX6_cheapestTwo_101 : decode cX6_cheapestTwo 101 = .ok (.goto 5, 3) := by decide +kernel
theorem dX6_cheapestTwo_104 : decode cX6_cheapestTwo 104 = .ok (.iload 4, 2) := by decide +kernel
theorem dX6_cheapestTwo_106 : decode cX6_cheapestTwo 106 = .ok (.ireturn, 1) := by decide +kernel
set_option maxRecDepth 100000 in
set_option maxHeartbeats 4000000 in
theorem c_X6_cheapestTwo {l : Launch} {G : Gx} (hap : k_ap G shC.length) (v1 : Int32) (v2 : Int32) (M0 : Mem) (r : Int32 × Mem) (hf : f_X6_cheapestTwo v1 v2 M0 = some r) : k_Met l yX6_cheapestTwo cX6_cheapestTwo 8 (some .int) 4 88 G shC [.ref (G.2.1 34), .int v1, .int v2] M0 (k_Qi G shC r.1 r.2) := by
  refine k_Met_of (by decide) hap (Nat.le_of_ble_eq_true rfl) ?_
  intro p e s m args below meth c C hr hlk
  have C : Cx p s m args c cX6_cheapestTwo RX6 8 G shC := C
  have k_b17 : ∀ (n17 : Nat) (v1 : Int32) (v2 : Int32) (v3 : Int32) (v4 : Int32) (v5 : Int32) (M : Mem), f_X6_cheapestTwo_b17 n17 v1 v2 v3 v4 v5 M = some r → K p l e (k_rm 4 88) s m args below meth c 8 G shC (MQ below (k_Qi G shC r.1 r.2) args s 0 0 (k_A G shC.length)) 17 [(0, .ref (G.2.1 34)), (1, .int v1), (2, .int v2), (3, .int v3), (4, .int v4), (5, .int v5)] [] M := by
    intro n17
    induction n17 with
    | zero => intro v1 v2 v3 v4 v5 M hf; simp [f_X6_cheapestTwo_b17] at hf
    | succ n17 ih17 =>
      have k_b35 : ∀ (n35 : Nat) (v1 : Int32) (v2 : Int32) (v3 : Int32) (v4 : Int32) (v5 : Int32) (v6 : Int32) (M : Mem), f_X6_cheapestTwo_b35 (f_X6_cheapestTwo_b17 n17) n35 v1 v2 v3 v4 v5 v6 M = some r → K p l e (k_rm 4 88) s m args below meth c 8 G shC (MQ below (k_Qi G shC r.1 r.2) args s 0 0 (k_A G shC.length)) 35 [(0, .ref (G.2.1 34)), (1, .int v1), (2, .int v2), (3, .int v3), (4, .int v4), (5, .int v5), (6, .int v6)] [] M := by
        intro n35
        induction n35 with
        | zero => intro v1 v2 v3 v4 v5 v6 M hf; simp [f_X6_cheapestTwo_b35] at hf
        | succ n35 ih35 =>
          intro v1 v2 v3 v4 v5 v6 M hf
          unfold f_X6_cheapestTwo_b35 at hf
          refine k_iload C dX6_cheapestTwo_35 6 rfl ?_
          refine k_aload_n C dX6_cheapestTwo_37 0 rfl ?_
          refine k_getr C shC_34 (j := 0) rfl FL_X6_15 dX6_cheapestTwo_38 ?_
          refine k_geti C shC_1 (j := 4) rfl FL_X6_40 dX6_cheapestTwo_41 ?_
          rcases ite_g hf with ⟨c6, hf⟩ | ⟨c6, hf⟩
          · refine k_icmp_ge_t C dX6_cheapestTwo_44 (tgt := 84) (by decide) c6 ?_
            refine k_iinc C dX6_cheapestTwo_84 5 rfl (v := (v5 + (1 : Int32))) rfl (by decide) [1, 2, 3, 4, 5, 0] (lv' := [(0, .ref (G.2.1 34)), (1, .int v1), (2, .int v2), (3, .int v3), (4, .int v4), (5, .int (v5 + (1 : Int32)))]) rfl ?_
            refine k_goto C dX6_cheapestTwo_87 (tgt := 17) (by decide) ?_
            exact ih17 v1 v2 v3 v4 (v5 + (1 : Int32)) M hf
          · refine k_icmp_ge_f C dX6_cheapestTwo_44 (tgt := 84) (by decide) c6 ?_
            refine k_aload_n C dX6_cheapestTwo_47 0 rfl ?_
            refine k_iload C dX6_cheapestTwo_48 5 rfl ?_
            refine k_iload C dX6_cheapestTwo_50 6 rfl ?_
            refine k_iload_n C dX6_cheapestTwo_52 1 rfl ?_
            obtain ⟨⟨t7, M7⟩, ht7, hf⟩ := bnd hf
            replace hf := bp_s hf
            refine k_callVi C (As := [.int v5, .int v6, .int v1]) (c_X6_totalByTurns hap v5 v6 v1 M (t7, M7) ht7) ML_X6_totalByTurns wd_1103 shC_34 rfl rfl rfl ⟨Nat.le_of_ble_eq_true rfl, Nat.le_of_ble_eq_true rfl⟩ (Nat.le_of_ble_eq_true rfl) dX6_cheapestTwo_53 ?_
            refine k_istore C dX6_cheapestTwo_56 (by decide) [1, 2, 3, 4, 5, 6, 7, 0] (lv' := [(0, .ref (G.2.1 34)), (1, .int v1), (2, .int v2), (3, .int v3), (4, .int v4), (5, .int v5), (6, .int v6), (7, .int t7)]) rfl ?_
            refine k_iload C dX6_cheapestTwo_58 7 rfl ?_
            refine k_iload C dX6_cheapestTwo_60 4 rfl ?_
            rcases ite_g hf with ⟨c8, hf⟩ | ⟨c8, hf⟩
            · refine k_icmp_ge_t C dX6_cheapestTwo_62 (tgt := 78) (by decide) c8 ?_
              refine k_iinc C dX6_cheapestTwo_78 6 rfl (v := (v6 + (1 : Int32))) rfl (by decide) [1, 2, 3, 4, 5, 6, 0] (lv' := [(0, .ref (G.2.1 34)), (1, .int v1), (2, .int v2), (3, .int v3), (4, .int v4), (5, .int v5), (6, .int (v6 + (1 : Int32)))]) rfl ?_
              refine k_goto C dX6_cheapestTwo_81 (tgt := 35) (by decide) ?_
              exact ih35 v1 v2 v3 v4 v5 (v6 + (1 : Int32)) M7 hf
            · refine k_icmp_ge_f C dX6_cheapestTwo_62 (tgt := 78) (by decide) c8 ?_
              refine k_iload C dX6_cheapestTwo_65 7 rfl ?_
              refine k_istore C dX6_cheapestTwo_67 (by decide) [1, 2, 3, 0, 5, 6] (lv' := [(0, .ref (G.2.1 34)), (1, .int v1), (2, .int v2), (4, .int t7), (5, .int v5), (6, .int v6)]) rfl ?_
              refine k_bipush C dX6_cheapestTwo_69 (v := (10 : Int32)) rfl ?_
              refine k_iload C dX6_cheapestTwo_71 4 rfl ?_
              refine k_imul C dX6_cheapestTwo_73 ?_
              refine k_iload C dX6_cheapestTwo_74 5 rfl ?_
              refine k_iadd C dX6_cheapestTwo_76 ?_
              refine k_istore_n C dX6_cheapestTwo_77 (by decide) [1, 2, 3, 0, 4, 5, 6] (lv' := [(0, .ref (G.2.1 34)), (1, .int v1), (2, .int v2), (3, .int (((10 : Int32) * v5) + v6)), (4, .int t7), (5, .int v5), (6, .int v6)]) rfl ?_
              refine k_iinc C dX6_cheapestTwo_78 6 rfl (v := (v6 + (1 : Int32))) rfl (by decide) [1, 2, 3, 4, 5, 6, 0] (lv' := [(0, .ref (G.2.1 34)), (1, .int v1), (2, .int v2), (3, .int (((10 : Int32) * v5) + v6)), (4, .int t7), (5, .int v5), (6, .int (v6 + (1 : Int32)))]) rfl ?_
              refine k_goto C dX6_cheapestTwo_81 (tgt := 35) (by decide) ?_
              exact ih35 v1 v2 (((10 : Int32) * v5) + v6) t7 v5 (v6 + (1 : Int32)) M7 hf
      intro v1 v2 v3 v4 v5 M hf
      unfold f_X6_cheapestTwo_b17 at hf
      refine k_iload C dX6_cheapestTwo_17 5 rfl ?_
      refine k_aload_n C dX6_cheapestTwo_19 0 rfl ?_
      refine k_getr C shC_34 (j := 0) rfl FL_X6_15 dX6_cheapestTwo_20 ?_
      refine k_geti C shC_1 (j := 4) rfl FL_X6_40 dX6_cheapestTwo_23 ?_
      rcases ite_g hf with ⟨c2, hf⟩ | ⟨c2, hf⟩
      · refine k_icmp_ge_t C dX6_cheapestTwo_26 (tgt := 90) (by decide) c2 ?_
        refine k_iload_n C dX6_cheapestTwo_90 2 rfl ?_
        rcases ite_g hf with ⟨c3, hf⟩ | ⟨c3, hf⟩
        · refine k_if_eq_t C dX6_cheapestTwo_91 (tgt := 100) (by decide) c3 ?_
          refine k_iload_n C dX6_cheapestTwo_100 3 rfl ?_
          refine k_goto C dX6_cheapestTwo_101 (tgt := 106) (by decide) ?_
          exact k_iret C hr hlk (prf hf) (prs hf) dX6_cheapestTwo_106
        · refine k_if_eq_f C dX6_cheapestTwo_91 (tgt := 100) (by decide) c3 ?_
          refine k_iload_n C dX6_cheapestTwo_94 3 rfl ?_
          refine k_bipush C dX6_cheapestTwo_95 (v := (-9 : Int32)) rfl ?_
          rcases ite_g hf with ⟨c4, hf⟩ | ⟨c4, hf⟩
          · refine k_icmp_ne_f C dX6_cheapestTwo_97 (tgt := 104) (by decide) c4 ?_
            refine k_iload_n C dX6_cheapestTwo_100 3 rfl ?_
            refine k_goto C dX6_cheapestTwo_101 (tgt := 106) (by decide) ?_
            exact k_iret C hr hlk (prf hf) (prs hf) dX6_cheapestTwo_106
          · refine k_icmp_ne_t C dX6_cheapestTwo_97 (tgt := 104) (by decide) c4 ?_
            refine k_iload C dX6_cheapestTwo_104 4 rfl ?_
            exact k_iret C hr hlk (prf hf) (prs hf) dX6_cheapestTwo_106
      · refine k_icmp_ge_f C dX6_cheapestTwo_26 (tgt := 90) (by decide) c2 ?_
        refine k_iload C dX6_cheapestTwo_29 5 rfl ?_
        refine k_iconst C dX6_cheapestTwo_31 (v := (1 : Int32)) rfl ?_
        refine k_iadd C dX6_cheapestTwo_32 ?_
        refine k_istore C dX6_cheapestTwo_33 (by decide) [1, 2, 3, 4, 5, 6, 0] (lv' := [(0, .ref (G.2.1 34)), (1, .int v1), (2, .int v2), (3, .int v3), (4, .int v4), (5, .int v5), (6, .int (v5 + (1 : Int32)))]) rfl ?_
        exact k_b35 FU v1 v2 v3 v4 v5 (v5 + (1 : Int32)) M hf
  unfold f_X6_cheapestTwo at hf
  refine k_lv (lv' := [(0, .ref (G.2.1 34)), (1, .int v1), (2, .int v2)]) [0, 1, 2] rfl ?_
  refine k_aload_n C dX6_cheapestTwo_0 0 rfl ?_
  refine k_getr C shC_34 (j := 1) rfl FL_X6_19 dX6_cheapestTwo_1 ?_
  obtain ⟨M1, hM1, hf⟩ := bnd hf
  refine k_callVv C (As := []) (c_X8_open hap M0 M1 hM1) ML_X8_open wd_1102 shC_25 rfl rfl rfl ⟨Nat.le_of_ble_eq_true rfl, Nat.le_of_ble_eq_true rfl⟩ (Nat.le_of_ble_eq_true rfl) dX6_cheapestTwo_4 ?_
  refine k_bipush C dX6_cheapestTwo_7 (v := (-9 : Int32)) rfl ?_
  refine k_istore_n C dX6_cheapestTwo_9 (by decide) [1, 2, 3, 0] (lv' := [(0, .ref (G.2.1 34)), (1, .int v1), (2, .int v2), (3, .int (-9 : Int32))]) rfl ?_
  refine k_ldc C dX6_cheapestTwo_10 wd_735 ?_
  refine k_istore C dX6_cheapestTwo_12 (by decide) [1, 2, 3, 4, 0] (lv' := [(0, .ref (G.2.1 34)), (1, .int v1), (2, .int v2), (3, .int (-9 : Int32)), (4, .int (2147483647 : Int32))]) rfl ?_
  refine k_iconst C dX6_cheapestTwo_14 (v := (0 : Int32)) rfl ?_
  refine k_istore C dX6_cheapestTwo_15 (by decide) [1, 2, 3, 4, 5, 0] (lv' := [(0, .ref (G.2.1 34)), (1, .int v1), (2, .int v2), (3, .int (-9 : Int32)), (4, .int (2147483647 : Int32)), (5, .int (0 : Int32))]) rfl ?_
  exact k_b17 FU v1 v2 (-9 : Int32) (2147483647 : Int32) (0 : Int32) M1 hf
theorem dX8_totalBy_0 : decode cX8_totalBy 0 = .ok (.aload_n 0, 1) := by decide +kernel
theorem dX8_totalBy_1 : decode cX8_totalBy 1 = .ok (.iload_n 1, 1) := by decide +kernel
theorem dX8_totalBy_2 : decode cX8_totalBy 2 = .ok (.iload_n 2, 1) := by decide +kernel
theorem dX8_totalBy_3 : decode cX8_totalBy 3 = .ok (.invokevirtual 31, 3) := by decide +kernel
theorem dX8_totalBy_6 : decode cX8_totalBy 6 = .ok (.aload_n 0, 1) := by decide +kernel
theorem dX8_totalBy_7 : decode cX8_totalBy 7 = .ok (.invokevirtual 48, 3) := by decide +kernel
theorem dX8_totalBy_10 : decode cX8_totalBy 10 = .ok (.ireturn, 1) := by decide +kernel
set_option maxRecDepth 100000 in
set_option maxHeartbeats 4000000 in
theorem c_X8_totalBy {l : Launch} {G : Gx} (hap : k_ap G shC.length) (v1 : Int32) (v2 : Int32) (M0 : Mem) (r : Int32 × Mem) (hf : f_X8_totalBy v1 v2 M0 = some r) : k_Met l yX8_totalBy cX8_totalBy 3 (some .int) 3 68 G shC [.ref (G.2.1 25), .int v1, .int v2] M0 (k_Qi G shC r.1 r.2) := by
  refine k_Met_of (by decide) hap (Nat.le_of_ble_eq_true rfl) ?_
  intro p e s m args below meth c C hr hlk
  have C : Cx p s m args c cX8_totalBy RX8 3 G shC := C
  unfold f_X8_totalBy at hf
  refine k_lv (lv' := [(0, .ref (G.2.1 25)), (1, .int v1), (2, .int v2)]) [0, 1, 2] rfl ?_
  refine k_aload_n C dX8_totalBy_0 0 rfl ?_
  refine k_iload_n C dX8_totalBy_1 1 rfl ?_
  refine k_iload_n C dX8_totalBy_2 2 rfl ?_
  obtain ⟨M1, hM1, hf⟩ := bnd hf
  refine k_callVv C (As := [.int v1, .int v2]) (c_X8_openBy hap v1 v2 M0 M1 hM1) ML_X8_openBy wd_567 shC_25 rfl rfl rfl ⟨Nat.le_of_ble_eq_true rfl, Nat.le_of_ble_eq_true rfl⟩ (Nat.le_of_ble_eq_true rfl) dX8_totalBy_3 ?_
  refine k_aload_n C dX8_totalBy_6 0 rfl ?_
  obtain ⟨⟨t2, M2⟩, ht2, hf⟩ := bnd hf
  replace hf := bp_s hf
  refine k_callVi C (As := []) (c_X8_walkLog hap M1 (t2, M2) ht2) ML_X8_walkLog wd_588 shC_25 rfl rfl rfl ⟨Nat.le_of_ble_eq_true rfl, Nat.le_of_ble_eq_true rfl⟩ (Nat.le_of_ble_eq_true rfl) dX8_totalBy_7 ?_
  exact k_iret C hr hlk (prf hf) (prs hf) dX8_totalBy_10
theorem dX7_mildest_0 : decode cX7_mildest 0 = .ok (.iconst 0, 1) := by decide +kernel
theorem dX7_mildest_1 : decode cX7_mildest 1 = .ok (.istore_n 2, 1) := by decide +kernel
theorem dX7_mildest_2 : decode cX7_mildest 2 = .ok (.ldc 27, 2) := by decide +kernel
theorem dX7_mildest_4 : decode cX7_mildest 4 = .ok (.istore_n 3, 1) := by decide +kernel
theorem dX7_mildest_5 : decode cX7_mildest 5 = .ok (.iconst 0, 1) := by decide +kernel
theorem dX7_mildest_6 : decode cX7_mildest 6 = .ok (.istore 4, 2) := by decide +kernel
theorem dX7_mildest_8 : decode cX7_mildest 8 = .ok (.iload 4, 2) := by decide +kernel
theorem dX7_mildest_10 : decode cX7_mildest 10 = .ok (.iconst 4, 1) := by decide +kernel
theorem dX7_mildest_11 : decode cX7_mildest 11 = .ok (.if_icmp .ge 56, 3) := by decide +kernel
theorem dX7_mildest_14 : decode cX7_mildest 14 = .ok (.iconst 0, 1) := by decide +kernel
theorem dX7_mildest_15 : decode cX7_mildest 15 = .ok (.istore 5, 2) := by decide +kernel
theorem dX7_mildest_17 : decode cX7_mildest 17 = .ok (.iload 5, 2) := by decide +kernel
theorem dX7_mildest_19 : decode cX7_mildest 19 = .ok (.bipush 8, 2) := by decide +kernel
theorem dX7_mildest_21 : decode cX7_mildest 21 = .ok (.if_icmp .gt 40, 3) := by decide +kernel
theorem dX7_mildest_24 : decode cX7_mildest 24 = .ok (.aload_n 0, 1) := by decide +kernel
theorem dX7_mildest_25 : decode cX7_mildest 25 = .ok (.getfield 19, 3) := by decide +kernel
theorem dX7_mildest_28 : decode cX7_mildest 28 = .ok (.iload 4, 2) := by decide +kernel
theorem dX7_mildest_30 : decode cX7_mildest 30 = .ok (.iload 5, 2) := by decide +kernel
theorem dX7_mildest_32 : decode cX7_mildest 32 = .ok (.invokevirtual 28, 3) := by decide +kernel
theorem dX7_mildest_35 : decode cX7_mildest 35 = .ok (.istore 6, 2) := by decide +kernel
theorem dX7_mildest_37 : decode cX7_mildest 37 = .ok (.iload 6, 2) := by decide +kernel
theorem dX7_mildest_39 : decode cX7_mildest 39 = .ok (.iload_n 3, 1) := by decide +kernel
theorem dX7_mildest_40 : decode cX7_mildest 40 = .ok (.if_icmp .ge 15, 3) := by decide +kernel
theorem dX7_mildest_43 : decode cX7_mildest 43 = .ok (.iload 6, 2) := by decide +kernel
theorem dX7_mildest_45 : decode cX7_mildest 45 = .ok (.istore_n 3, 1) := by decide +kernel
theorem dX7_mildest_46 : decode cX7_mildest 46 = .ok (.bipush 10, 2) := by decide +kernel
theorem dX7_mildest_48 : decode cX7_mildest 48 = .ok (.iload 4, 2) := by decide +kernel
theorem dX7_mildest_50 : decode cX7_mildest 50 = .ok (.imul, 1) := by decide +kernel
theorem dX7_mildest_51 : decode cX7_mildest 51 = .ok (.iload 5, 2) := by decide +kernel
theorem dX7_mildest_53 : decode cX7_mildest 53 = .ok (.iadd, 1) := by decide +kernel
theorem dX7_mildest_54 : decode cX7_mildest 54 = .ok (.istore_n 2, 1) := by decide +kernel
theorem dX7_mildest_55 : decode cX7_mildest 55 = .ok (.iinc 5 1, 3) := by decide +kernel
theorem dX7_mildest_58 : decode cX7_mildest 58 = .ok (.goto (-41), 3) := by decide +kernel
theorem dX7_mildest_61 : decode cX7_mildest 61 = .ok (.iinc 4 1, 3) := by decide +kernel
theorem dX7_mildest_64 : decode cX7_mildest 64 = .ok (.goto (-56), 3) := by decide +kernel
theorem dX7_mildest_67 : decode cX7_mildest 67 = .ok (.iload_n 1, 1) := by decide +kernel
theorem dX7_mildest_68 : decode cX7_mildest 68 = .ok (.ifCond .ne 7, 3) := by decide +kernel
theorem dX7_mildest_71 : decode cX7_mildest 71 = .ok (.iload_n 2, 1) := by decide +kernel
theorem dX7_mildest_72 : decode cX7_mildest 72 = .ok (.goto 4, 3) := by decide +kernel
theorem dX7_mildest_75 : decode cX7_mildest 75 = .ok (.iload_n 3, 1) := by decide +kernel
theorem dX7_mildest_76 : decode cX7_mildest 76 = .ok (.ireturn, 1) := by decide +kernel
set_option maxRecDepth 100000 in
set_option maxHeartbeats 4000000 in
theorem c_X7_mildest {l : Launch} {G : Gx} (hap : k_ap G shC.length) (v1 : Int32) (M0 : Mem) (r : Int32 × Mem) (hf : f_X7_mildest v1 M0 = some r) : k_Met l yX7_mildest cX7_mildest 7 (some .int) 4 90 G shC [.ref (G.2.1 32), .int v1] M0 (k_Qi G shC r.1 r.2) := by
  refine k_Met_of (by decide) hap (Nat.le_of_ble_eq_true rfl) ?_
  intro p e s m args below meth c C hr hlk
  have C : Cx p s m args c cX7_mildest RX7 7 G shC := C
  have k_b8 : ∀ (n8 : Nat) (v1 : Int32) (v2 : Int32) (v3 : Int32) (v4 : Int32) (M : Mem), f_X7_mildest_b8 n8 v1 v2 v3 v4 M = some r → K p l e (k_rm 4 90) s m args below meth c 7 G shC (MQ below (k_Qi G shC r.1 r.2) args s 0 0 (k_A G shC.length)) 8 [(0, .ref (G.2.1 32)), (1, .int v1), (2, .int v2), (3, .int v3), (4, .int v4)] [] M := by
    intro n8
    induction n8 with
    | zero => intro v1 v2 v3 v4 M hf; simp [f_X7_mildest_b8] at hf
    | succ n8 ih8 =>
      have k_b17 : ∀ (n17 : Nat) (v1 : Int32) (v2 : Int32) (v3 : Int32) (v4 : Int32) (v5 : Int32) (M : Mem), f_X7_mildest_b17 (f_X7_mildest_b8 n8) n17 v1 v2 v3 v4 v5 M = some r → K p l e (k_rm 4 90) s m args below meth c 7 G shC (MQ below (k_Qi G shC r.1 r.2) args s 0 0 (k_A G shC.length)) 17 [(0, .ref (G.2.1 32)), (1, .int v1), (2, .int v2), (3, .int v3), (4, .int v4), (5, .int v5)] [] M := by
        intro n17
        induction n17 with
        | zero => intro v1 v2 v3 v4 v5 M hf; simp [f_X7_mildest_b17] at hf
        | succ n17 ih17 =>
          intro v1 v2 v3 v4 v5 M hf
          unfold f_X7_mildest_b17 at hf
          refine k_iload C dX7_mildest_17 5 rfl ?_
          refine k_bipush C dX7_mildest_19 (v := (8 : Int32)) rfl ?_
          rcases ite_g hf with ⟨c4, hf⟩ | ⟨c4, hf⟩
          · refine k_icmp_gt_t C dX7_mildest_21 (tgt := 61) (by decide) c4 ?_
            refine k_iinc C dX7_mildest_61 4 rfl (v := (v4 + (1 : Int32))) rfl (by decide) [1, 2, 3, 4, 0] (lv' := [(0, .ref (G.2.1 32)), (1, .int v1), (2, .int v2), (3, .int v3), (4, .int (v4 + (1 : Int32)))]) rfl ?_
            refine k_goto C dX7_mildest_64 (tgt := 8) (by decide) ?_
            exact ih8 v1 v2 v3 (v4 + (1 : Int32)) M hf
          · refine k_icmp_gt_f C dX7_mildest_21 (tgt := 61) (by decide) c4 ?_
            refine k_aload_n C dX7_mildest_24 0 rfl ?_
            refine k_getr C shC_32 (j := 1) rfl FL_X7_19 dX7_mildest_25 ?_
            refine k_iload C dX7_mildest_28 4 rfl ?_
            refine k_iload C dX7_mildest_30 5 rfl ?_
            obtain ⟨⟨t5, M5⟩, ht5, hf⟩ := bnd hf
            replace hf := bp_s hf
            refine k_callVi C (As := [.int v4, .int v5]) (c_X8_totalBy hap v4 v5 M (t5, M5) ht5) ML_X8_totalBy wd_809 shC_25 rfl rfl rfl ⟨Nat.le_of_ble_eq_true rfl, Nat.le_of_ble_eq_true rfl⟩ (Nat.le_of_ble_eq_true rfl) dX7_mildest_32 ?_
            refine k_istore C dX7_mildest_35 (by decide) [1, 2, 3, 4, 5, 6, 0] (lv' := [(0, .ref (G.2.1 32)), (1, .int v1), (2, .int v2), (3, .int v3), (4, .int v4), (5, .int v5), (6, .int t5)]) rfl ?_
            refine k_iload C dX7_mildest_37 6 rfl ?_
            refine k_iload_n C dX7_mildest_39 3 rfl ?_
            rcases ite_g hf with ⟨c6, hf⟩ | ⟨c6, hf⟩
            · refine k_icmp_ge_t C dX7_mildest_40 (tgt := 55) (by decide) c6 ?_
              refine k_iinc C dX7_mildest_55 5 rfl (v := (v5 + (1 : Int32))) rfl (by decide) [1, 2, 3, 4, 5, 0] (lv' := [(0, .ref (G.2.1 32)), (1, .int v1), (2, .int v2), (3, .int v3), (4, .int v4), (5, .int (v5 + (1 : Int32)))]) rfl ?_
              refine k_goto C dX7_mildest_58 (tgt := 17) (by decide) ?_
              exact ih17 v1 v2 v3 v4 (v5 + (1 : Int32)) M5 hf
            · refine k_icmp_ge_f C dX7_mildest_40 (tgt := 55) (by decide) c6 ?_
              refine k_iload C dX7_mildest_43 6 rfl ?_
              refine k_istore_n C dX7_mildest_45 (by decide) [1, 2, 0, 4, 5] (lv' := [(0, .ref (G.2.1 32)), (1, .int v1), (3, .int t5), (4, .int v4), (5, .int v5)]) rfl ?_
              refine k_bipush C dX7_mildest_46 (v := (10 : Int32)) rfl ?_
              refine k_iload C dX7_mildest_48 3 rfl ?_
              refine k_imul C dX7_mildest_50 ?_
              refine k_iload C dX7_mildest_51 4 rfl ?_
              refine k_iadd C dX7_mildest_53 ?_
              refine k_istore_n C dX7_mildest_54 (by decide) [1, 2, 0, 3, 4, 5] (lv' := [(0, .ref (G.2.1 32)), (1, .int v1), (2, .int (((10 : Int32) * v4) + v5)), (3, .int t5), (4, .int v4), (5, .int v5)]) rfl ?_
              refine k_iinc C dX7_mildest_55 5 rfl (v := (v5 + (1 : Int32))) rfl (by decide) [1, 2, 3, 4, 5, 0] (lv' := [(0, .ref (G.2.1 32)), (1, .int v1), (2, .int (((10 : Int32) * v4) + v5)), (3, .int t5), (4, .int v4), (5, .int (v5 + (1 : Int32)))]) rfl ?_
              refine k_goto C dX7_mildest_58 (tgt := 17) (by decide) ?_
              exact ih17 v1 (((10 : Int32) * v4) + v5) t5 v4 (v5 + (1 : Int32)) M5 hf
      intro v1 v2 v3 v4 M hf
      unfold f_X7_mildest_b8 at hf
      refine k_iload C dX7_mildest_8 4 rfl ?_
      refine k_iconst C dX7_mildest_10 (v := (4 : Int32)) rfl ?_
      rcases ite_g hf with ⟨c1, hf⟩ | ⟨c1, hf⟩
      · refine k_icmp_ge_t C dX7_mildest_11 (tgt := 67) (by decide) c1 ?_
        refine k_iload_n C dX7_mildest_67 1 rfl ?_
        rcases ite_g hf with ⟨c2, hf⟩ | ⟨c2, hf⟩
        · refine k_if_ne_f C dX7_mildest_68 (tgt := 75) (by decide) c2 ?_
          refine k_iload_n C dX7_mildest_71 2 rfl ?_
          refine k_goto C dX7_mildest_72 (tgt := 76) (by decide) ?_
          exact k_iret C hr hlk (prf hf) (prs hf) dX7_mildest_76
        · refine k_if_ne_t C dX7_mildest_68 (tgt := 75) (by decide) c2 ?_
          refine k_iload_n C dX7_mildest_75 3 rfl ?_
          exact k_iret C hr hlk (prf hf) (prs hf) dX7_mildest_76
      · refine k_icmp_ge_f C dX7_mildest_11 (tgt := 67) (by decide) c1 ?_
        refine k_iconst C dX7_mildest_14 (v := (0 : Int32)) rfl ?_
        refine k_istore C dX7_mildest_15 (by decide) [1, 2, 3, 4, 5, 0] (lv' := [(0, .ref (G.2.1 32)), (1, .int v1), (2, .int v2), (3, .int v3), (4, .int v4), (5, .int (0 : Int32))]) rfl ?_
        exact k_b17 FU v1 v2 v3 v4 (0 : Int32) M hf
  unfold f_X7_mildest at hf
  refine k_lv (lv' := [(0, .ref (G.2.1 32)), (1, .int v1)]) [0, 1] rfl ?_
  refine k_iconst C dX7_mildest_0 (v := (0 : Int32)) rfl ?_
  refine k_istore_n C dX7_mildest_1 (by decide) [1, 2, 0] (lv' := [(0, .ref (G.2.1 32)), (1, .int v1), (2, .int (0 : Int32))]) rfl ?_
  refine k_ldc C dX7_mildest_2 wd_808 ?_
  refine k_istore_n C dX7_mildest_4 (by decide) [1, 2, 3, 0] (lv' := [(0, .ref (G.2.1 32)), (1, .int v1), (2, .int (0 : Int32)), (3, .int (2147483647 : Int32))]) rfl ?_
  refine k_iconst C dX7_mildest_5 (v := (0 : Int32)) rfl ?_
  refine k_istore C dX7_mildest_6 (by decide) [1, 2, 3, 4, 0] (lv' := [(0, .ref (G.2.1 32)), (1, .int v1), (2, .int (0 : Int32)), (3, .int (2147483647 : Int32)), (4, .int (0 : Int32))]) rfl ?_
  exact k_b8 FU v1 (0 : Int32) (2147483647 : Int32) (0 : Int32) M0 hf
theorem dX7_mildestT_0 : decode cX7_mildestT 0 = .ok (.iconst 0, 1) := by decide +kernel
theorem dX7_mildestT_1 : decode cX7_mildestT 1 = .ok (.istore_n 1, 1) := by decide +kernel
theorem dX7_mildestT_2 : decode cX7_mildestT 2 = .ok (.ldc 27, 2) := by decide +kernel
theorem dX7_mildestT_4 : decode cX7_mildestT 4 = .ok (.istore_n 2, 1) := by decide +kernel
theorem dX7_mildestT_5 : decode cX7_mildestT 5 = .ok (.iconst 0, 1) := by decide +kernel
theorem dX7_mildestT_6 : decode cX7_mildestT 6 = .ok (.istore_n 3, 1) := by decide +kernel
theorem dX7_mildestT_7 : decode cX7_mildestT 7 = .ok (.iload_n 3, 1) := by decide +kernel
theorem dX7_mildestT_8 : decode cX7_mildestT 8 = .ok (.bipush 8, 2) := by decide +kernel
theorem dX7_mildestT_10 : decode cX7_mildestT 10 = .ok (.if_icmp .gt 37, 3) := by decide +kernel
theorem dX7_mildestT_13 : decode cX7_mildestT 13 = .ok (.aload_n 0, 1) := by decide +kernel
theorem dX7_mildestT_14 : decode cX7_mildestT 14 = .ok (.getfield 19, 3) := by decide +kernel
theorem dX7_mildestT_17 : decode cX7_mildestT 17 = .ok (.aload_n 0, 1) := by decide +kernel
theorem dX7_mildestT_18 : decode cX7_mildestT 18 = .ok (.getfield 15, 3) := by decide +kernel
theorem dX7_mildestT_21 : decode cX7_mildestT 21 = .ok (.getfield 34, 3) := by decide +kernel
theorem dX7_mildestT_24 : decode cX7_mildestT 24 = .ok (.iload_n 3, 1) := by decide +kernel
theorem dX7_mildestT_25 : decode cX7_mildestT 25 = .ok (.invokevirtual 28, 3) := by decide +kernel
theorem dX7_mildestT_28 : decode cX7_mildestT 28 = .ok (.istore 4, 2) := by decide +kernel
theorem dX7_mildestT_30 : decode cX7_mildestT 30 = .ok (.iload 4, 2) := by decide +kernel
theorem dX7_mildestT_32 : decode cX7_mildestT 32 = .ok (.iload_n 2, 1) := by decide +kernel
theorem dX7_mildestT_33 : decode cX7_mildestT 33 = .ok (.if_icmp .ge 8, 3) := by decide +kernel
theorem dX7_mildestT_36 : decode cX7_mildestT 36 = .ok (.iload 4, 2) := by decide +kernel
theorem dX7_mildestT_38 : decode cX7_mildestT 38 = .ok (.istore_n 2, 1) := by decide +kernel
theorem dX7_mildestT_39 : decode cX7_mildestT 39 = .ok (.iload_n 3, 1) := by decide +kernel
theorem dX7_mildestT_40 : decode cX7_mildestT 40 = .ok (.istore_n 1, 1) := by decide +kernel
theorem dX7_mildestT_41 : decode cX7_mildestT 41 = .ok (.iinc 3 1, 3) := by decide +kernel
theorem dX7_mildestT_44 : decode cX7_mildestT 44 = .ok (.goto (-37), 3) := by decide +kernel
theorem dX7_mildestT_47 : decode cX7_mildestT 47 = .ok (.iload_n 1, 1) := by decide +kernel
theorem dX7_mildestT_48 : decode cX7_mildestT 48 = .ok (.ireturn, 1) := by decide +kernel
set_option maxRecDepth 100000 in
set_option maxHeartbeats 4000000 in
theorem c_X7_mildestT {l : Launch} {G : Gx} (hap : k_ap G shC.length) (M0 : Mem) (r : Int32 × Mem) (hf : f_X7_mildestT M0 = some r) : k_Met l yX7_mildestT cX7_mildestT 5 (some .int) 4 90 G shC [.ref (G.2.1 32)] M0 (k_Qi G shC r.1 r.2) := by
  refine k_Met_of (by decide) hap (Nat.le_of_ble_eq_true rfl) ?_
  intro p e s m args below meth c C hr hlk
  have C : Cx p s m args c cX7_mildestT RX7 5 G shC := C
  have k_b7 : ∀ (n7 : Nat) (v1 : Int32) (v2 : Int32) (v3 : Int32) (M : Mem), f_X7_mildestT_b7 n7 v1 v2 v3 M = some r → K p l e (k_rm 4 90) s m args below meth c 5 G shC (MQ below (k_Qi G shC r.1 r.2) args s 0 0 (k_A G shC.length)) 7 [(0, .ref (G.2.1 32)), (1, .int v1), (2, .int v2), (3, .int v3)] [] M := by
    intro n7
    induction n7 with
    | zero => intro v1 v2 v3 M hf; simp [f_X7_mildestT_b7] at hf
    | succ n7 ih7 =>
      intro v1 v2 v3 M hf
      unfold f_X7_mildestT_b7 at hf
      refine k_iload_n C dX7_mildestT_7 3 rfl ?_
      refine k_bipush C dX7_mildestT_8 (v := (8 : Int32)) rfl ?_
      rcases ite_g hf with ⟨c2, hf⟩ | ⟨c2, hf⟩
      · refine k_icmp_gt_t C dX7_mildestT_10 (tgt := 47) (by decide) c2 ?_
        refine k_iload_n C dX7_mildestT_47 1 rfl ?_
        exact k_iret C hr hlk (prf hf) (prs hf) dX7_mildestT_48
      · refine k_icmp_gt_f C dX7_mildestT_10 (tgt := 47) (by decide) c2 ?_
        refine k_aload_n C dX7_mildestT_13 0 rfl ?_
        refine k_getr C shC_32 (j := 1) rfl FL_X7_19 dX7_mildestT_14 ?_
        refine k_aload_n C dX7_mildestT_17 0 rfl ?_
        refine k_getr C shC_32 (j := 0) rfl FL_X7_15 dX7_mildestT_18 ?_
        refine k_geti C shC_1 (j := 6) rfl FL_X7_34 dX7_mildestT_21 ?_
        refine k_iload_n C dX7_mildestT_24 3 rfl ?_
        obtain ⟨⟨t3, M3⟩, ht3, hf⟩ := bnd hf
        replace hf := bp_s hf
        refine k_callVi C (As := [.int (M.1 1 6), .int v3]) (c_X8_totalBy hap (M.1 1 6) v3 M (t3, M3) ht3) ML_X8_totalBy wd_809 shC_25 rfl rfl rfl ⟨Nat.le_of_ble_eq_true rfl, Nat.le_of_ble_eq_true rfl⟩ (Nat.le_of_ble_eq_true rfl) dX7_mildestT_25 ?_
        refine k_istore C dX7_mildestT_28 (by decide) [1, 2, 3, 4, 0] (lv' := [(0, .ref (G.2.1 32)), (1, .int v1), (2, .int v2), (3, .int v3), (4, .int t3)]) rfl ?_
        refine k_iload C dX7_mildestT_30 4 rfl ?_
        refine k_iload_n C dX7_mildestT_32 2 rfl ?_
        rcases ite_g hf with ⟨c4, hf⟩ | ⟨c4, hf⟩
        · refine k_icmp_ge_t C dX7_mildestT_33 (tgt := 41) (by decide) c4 ?_
          refine k_iinc C dX7_mildestT_41 3 rfl (v := (v3 + (1 : Int32))) rfl (by decide) [1, 2, 3, 0] (lv' := [(0, .ref (G.2.1 32)), (1, .int v1), (2, .int v2), (3, .int (v3 + (1 : Int32)))]) rfl ?_
          refine k_goto C dX7_mildestT_44 (tgt := 7) (by decide) ?_
          exact ih7 v1 v2 (v3 + (1 : Int32)) M3 hf
        · refine k_icmp_ge_f C dX7_mildestT_33 (tgt := 41) (by decide) c4 ?_
          refine k_iload C dX7_mildestT_36 4 rfl ?_
          refine k_istore_n C dX7_mildestT_38 (by decide) [1, 0, 3] (lv' := [(0, .ref (G.2.1 32)), (2, .int t3), (3, .int v3)]) rfl ?_
          refine k_iload_n C dX7_mildestT_39 2 rfl ?_
          refine k_istore_n C dX7_mildestT_40 (by decide) [1, 0, 2, 3] (lv' := [(0, .ref (G.2.1 32)), (1, .int v3), (2, .int t3), (3, .int v3)]) rfl ?_
          refine k_iinc C dX7_mildestT_41 3 rfl (v := (v3 + (1 : Int32))) rfl (by decide) [1, 2, 3, 0] (lv' := [(0, .ref (G.2.1 32)), (1, .int v3), (2, .int t3), (3, .int (v3 + (1 : Int32)))]) rfl ?_
          refine k_goto C dX7_mildestT_44 (tgt := 7) (by decide) ?_
          exact ih7 v3 t3 (v3 + (1 : Int32)) M3 hf
  unfold f_X7_mildestT at hf
  refine k_lv (lv' := [(0, .ref (G.2.1 32))]) [0] rfl ?_
  refine k_iconst C dX7_mildestT_0 (v := (0 : Int32)) rfl ?_
  refine k_istore_n C dX7_mildestT_1 (by decide) [1, 0] (lv' := [(0, .ref (G.2.1 32)), (1, .int (0 : Int32))]) rfl ?_
  refine k_ldc C dX7_mildestT_2 wd_808 ?_
  refine k_istore_n C dX7_mildestT_4 (by decide) [1, 2, 0] (lv' := [(0, .ref (G.2.1 32)), (1, .int (0 : Int32)), (2, .int (2147483647 : Int32))]) rfl ?_
  refine k_iconst C dX7_mildestT_5 (v := (0 : Int32)) rfl ?_
  refine k_istore_n C dX7_mildestT_6 (by decide) [1, 2, 3, 0] (lv' := [(0, .ref (G.2.1 32)), (1, .int (0 : Int32)), (2, .int (2147483647 : Int32)), (3, .int (0 : Int32))]) rfl ?_
  exact k_b7 FU (0 : Int32) (2147483647 : Int32) (0 : Int32) M0 hf
theorem dX7_isAsTold_0 : decode cX7_isAsTold 0 = .ok (.aload_n 0, 1) := by decide +kernel
theorem dX7_isAsTold_1 : decode cX7_isAsTold 1 = .ok (.getfield 19, 3) := by decide +kernel
theorem dX7_isAsTold_4 : decode cX7_isAsTold 4 = .ok (.iload_n 1, 1) := by decide +kernel
theorem dX7_isAsTold_5 : decode cX7_isAsTold 5 = .ok (.iload_n 2, 1) := by decide +kernel
theorem dX7_isAsTold_6 : decode cX7_isAsTold 6 = .ok (.invokevirtual 40, 3) := by decide +kernel
theorem dX7_isAsTold_9 : decode cX7_isAsTold 9 = .ok (.iconst 0, 1) := by decide +kernel
theorem dX7_isAsTold_10 : decode cX7_isAsTold 10 = .ok (.istore_n 3, 1) := by decide +kernel
theorem dX7_isAsTold_11 : decode cX7_isAsTold 11 = .ok (.iload_n 3, 1) := by decide +kernel
theorem dX7_isAsTold_12 : decode cX7_isAsTold 12 = .ok (.aload_n 0, 1) := by decide +kernel
theorem dX7_isAsTold_13 : decode cX7_isAsTold 13 = .ok (.getfield 23, 3) := by decide +kernel
theorem dX7_isAsTold_16 : decode cX7_isAsTold 16 = .ok (.getfield 44, 3) := by decide +kernel
theorem dX7_isAsTold_19 : decode cX7_isAsTold 19 = .ok (.if_icmp .ge 55, 3) := by decide +kernel
theorem dX7_isAsTold_22 : decode cX7_isAsTold 22 = .ok (.iload_n 3, 1) := by decide +kernel
theorem dX7_isAsTold_23 : decode cX7_isAsTold 23 = .ok (.aload_n 0, 1) := by decide +kernel
theorem dX7_isAsTold_24 : decode cX7_isAsTold 24 = .ok (.getfield 15, 3) := by decide +kernel
theorem dX7_isAsTold_27 : decode cX7_isAsTold 27 = .ok (.getfield 49, 3) := by decide +kernel
theorem dX7_isAsTold_30 : decode cX7_isAsTold 30 = .ok (.if_icmp .ge 44, 3) := by decide +kernel
theorem dX7_isAsTold_33 : decode cX7_isAsTold 33 = .ok (.aload_n 0, 1) := by decide +kernel
theorem dX7_isAsTold_34 : decode cX7_isAsTold 34 = .ok (.getfield 19, 3) := by decide +kernel
theorem dX7_isAsTold_37 : decode cX7_isAsTold 37 = .ok (.aload_n 0, 1) := by decide +kernel
theorem dX7_isAsTold_38 : decode cX7_isAsTold 38 = .ok (.getfield 15, 3) := by decide +kernel
theorem dX7_isAsTold_41 : decode cX7_isAsTold 41 = .ok (.getfield 52, 3) := by decide +kernel
theorem dX7_isAsTold_44 : decode cX7_isAsTold 44 = .ok (.iload_n 3, 1) := by decide +kernel
theorem dX7_isAsTold_45 : decode cX7_isAsTold 45 = .ok (.iaload, 1) := by decide +kernel
theorem dX7_isAsTold_46 : decode cX7_isAsTold 46 = .ok (.invokevirtual 55, 3) := by decide +kernel
theorem dX7_isAsTold_49 : decode cX7_isAsTold 49 = .ok (.bipush 99, 2) := by decide +kernel
theorem dX7_isAsTold_51 : decode cX7_isAsTold 51 = .ok (.invokestatic 59, 3) := by decide +kernel
theorem dX7_isAsTold_54 : decode cX7_isAsTold 54 = .ok (.aload_n 0, 1) := by decide +kernel
theorem dX7_isAsTold_55 : decode cX7_isAsTold 55 = .ok (.getfield 23, 3) := by decide +kernel
theorem dX7_isAsTold_58 : decode cX7_isAsTold 58 = .ok (.getfield 64, 3) := by decide +kernel
theorem dX7_isAsTold_61 : decode cX7_isAsTold 61 = .ok (.iload_n 3, 1) := by decide +kernel
theorem dX7_isAsTold_62 : decode cX7_isAsTold 62 = .ok (.iaload, 1) := by decide +kernel
theorem dX7_isAsTold_63 : decode cX7_isAsTold 63 = .ok (.if_icmp .eq 5, 3) := by decide +kernel
theorem dX7_isAsTold_66 : decode cX7_isAsTold 66 = .ok (.iconst 0, 1) := by decide +kernel
theorem dX7_isAsTold_67 : decode cX7_isAsTold 67 = .ok (.ireturn, 1) := by decide +kernel
theorem dX7_isAsTold_68 : decode cX7_isAsTold 68 = .ok (.iinc 3 1, 3) := by decide +kernel
theorem dX7_isAsTold_71 : decode cX7_isAsTold 71 = .ok (.goto (-60), 3) := by decide +kernel
theorem dX7_isAsTold_74 : decode cX7_isAsTold 74 = .ok (.iconst 1, 1) := by decide +kernel
theorem dX7_isAsTold_75 : decode cX7_isAsTold 75 = .ok (.ireturn, 1) := by decide +kernel
set_option maxRecDepth 100000 in
set_option maxHeartbeats 4000000 in
theorem c_X7_isAsTold {l : Launch} {G : Gx} (hap : k_ap G shC.length) (v1 : Int32) (v2 : Int32) (M0 : Mem) (r : Int32 × Mem) (hf : f_X7_isAsTold v1 v2 M0 = some r) : k_Met l yX7_isAsTold cX7_isAsTold 4 (some .boolean) 3 68 G shC [.ref (G.2.1 32), .int v1, .int v2] M0 (k_Qi G shC r.1 r.2) := by
  refine k_Met_of (by decide) hap (Nat.le_of_ble_eq_true rfl) ?_
  intro p e s m args below meth c C hr hlk
  have C : Cx p s m args c cX7_isAsTold RX7 4 G shC := C
  have k_b11 : ∀ (n11 : Nat) (v3 : Int32) (M : Mem), f_X7_isAsTold_b11 n11 v3 M = some r → K p l e (k_rm 3 68) s m args below meth c 4 G shC (MQ below (k_Qi G shC r.1 r.2) args s 0 0 (k_A G shC.length)) 11 [(0, .ref (G.2.1 32)), (3, .int v3)] [] M := by
    intro n11
    induction n11 with
    | zero => intro v3 M hf; simp [f_X7_isAsTold_b11] at hf
    | succ n11 ih11 =>
      intro v3 M hf
      unfold f_X7_isAsTold_b11 at hf
      refine k_iload_n C dX7_isAsTold_11 1 rfl ?_
      refine k_aload_n C dX7_isAsTold_12 0 rfl ?_
      refine k_getr C shC_32 (j := 2) rfl FL_X7_23 dX7_isAsTold_13 ?_
      refine k_geti C shC_23 (j := 1) rfl FL_X7_44 dX7_isAsTold_16 ?_
      rcases ite_g hf with ⟨c2, hf⟩ | ⟨c2, hf⟩
      · refine k_icmp_ge_t C dX7_isAsTold_19 (tgt := 74) (by decide) c2 ?_
        refine k_iconst C dX7_isAsTold_74 (v := (1 : Int32)) rfl ?_
        exact k_zret C hr hlk (gZ1.trans (congrArg some (prf hf))) (prs hf) dX7_isAsTold_75
      · refine k_icmp_ge_f C dX7_isAsTold_19 (tgt := 74) (by decide) c2 ?_
        refine k_iload_n C dX7_isAsTold_22 1 rfl ?_
        refine k_aload_n C dX7_isAsTold_23 0 rfl ?_
        refine k_getr C shC_32 (j := 0) rfl FL_X7_15 dX7_isAsTold_24 ?_
        refine k_geti C shC_1 (j := 5) rfl FL_X7_49 dX7_isAsTold_27 ?_
        rcases ite_g hf with ⟨c3, hf⟩ | ⟨c3, hf⟩
        · refine k_icmp_ge_t C dX7_isAsTold_30 (tgt := 74) (by decide) c3 ?_
          refine k_iconst C dX7_isAsTold_74 (v := (1 : Int32)) rfl ?_
          exact k_zret C hr hlk (gZ1.trans (congrArg some (prf hf))) (prs hf) dX7_isAsTold_75
        · refine k_icmp_ge_f C dX7_isAsTold_30 (tgt := 74) (by decide) c3 ?_
          refine k_aload_n C dX7_isAsTold_33 0 rfl ?_
          refine k_getr C shC_32 (j := 1) rfl FL_X7_19 dX7_isAsTold_34 ?_
          refine k_aload_n C dX7_isAsTold_37 0 rfl ?_
          refine k_getr C shC_32 (j := 0) rfl FL_X7_15 dX7_isAsTold_38 ?_
          refine k_getr C shC_1 (j := 3) rfl FL_X7_52 dX7_isAsTold_41 ?_
          refine k_iload_n C dX7_isAsTold_44 1 rfl ?_
          obtain ⟨t4, ht4, hf⟩ := bnd hf
          refine k_iald C shC_5 ht4 dX7_isAsTold_45 ?_
          obtain ⟨⟨t5, M5⟩, ht5, hf⟩ := bnd hf
          replace hf := bp_s hf
          refine k_callVi C (As := [.int t4]) (c_X8_step hap t4 M (t5, M5) ht5) ML_X8_step wd_826 shC_25 rfl rfl rfl ⟨Nat.le_of_ble_eq_true rfl, Nat.le_of_ble_eq_true rfl⟩ (Nat.le_of_ble_eq_true rfl) dX7_isAsTold_46 ?_
          refine k_bipush C dX7_isAsTold_49 (v := (99 : Int32)) rfl ?_
          refine k_min C W_min wd_827 ⟨Nat.le_of_ble_eq_true rfl, Nat.le_of_ble_eq_true rfl⟩ dX7_isAsTold_51 ?_
          refine k_aload_n C dX7_isAsTold_54 0 rfl ?_
          refine k_getr C shC_32 (j := 2) rfl FL_X7_23 dX7_isAsTold_55 ?_
          refine k_getr C shC_23 (j := 0) rfl FL_X7_64 dX7_isAsTold_58 ?_
          refine k_iload_n C dX7_isAsTold_61 1 rfl ?_
          obtain ⟨t6, ht6, hf⟩ := bnd hf
          refine k_iald C shC_24 ht6 dX7_isAsTold_62 ?_
          rcases ite_g hf with ⟨c7, hf⟩ | ⟨c7, hf⟩
          · refine k_icmp_eq_t C dX7_isAsTold_63 (tgt := 68) (by decide) c7 ?_
            refine k_iinc C dX7_isAsTold_68 1 rfl (v := (v3 + (1 : Int32))) rfl (by decide) [1, 0] (lv' := [(0, .ref (G.2.1 32)), (3, .int (v3 + (1 : Int32)))]) rfl ?_
            refine k_goto C dX7_isAsTold_71 (tgt := 11) (by decide) ?_
            exact ih11 (v3 + (1 : Int32)) M5 hf
          · refine k_icmp_eq_f C dX7_isAsTold_63 (tgt := 68) (by decide) c7 ?_
            refine k_iconst C dX7_isAsTold_66 (v := (0 : Int32)) rfl ?_
            exact k_zret C hr hlk (gZ0.trans (congrArg some (prf hf))) (prs hf) dX7_isAsTold_67
  unfold f_X7_isAsTold at hf
  refine k_lv (lv' := [(0, .ref (G.2.1 32)), (1, .int v1), (2, .int v2)]) [0, 1, 2] rfl ?_
  refine k_aload_n C dX7_isAsTold_0 0 rfl ?_
  refine k_getr C shC_32 (j := 1) rfl FL_X7_19 dX7_isAsTold_1 ?_
  refine k_iload_n C dX7_isAsTold_4 1 rfl ?_
  refine k_iload_n C dX7_isAsTold_5 2 rfl ?_
  obtain ⟨M1, hM1, hf⟩ := bnd hf
  refine k_callVv C (As := [.int v1, .int v2]) (c_X8_openBy hap v1 v2 M0 M1 hM1) ML_X8_openBy wd_825 shC_25 rfl rfl rfl ⟨Nat.le_of_ble_eq_true rfl, Nat.le_of_ble_eq_true rfl⟩ (Nat.le_of_ble_eq_true rfl) dX7_isAsTold_6 ?_
  refine k_iconst C dX7_isAsTold_9 (v := (0 : Int32)) rfl ?_
  refine k_istore_n C dX7_isAsTold_10 (by decide) [1, 0] (lv' := [(0, .ref (G.2.1 32)), (3, .int (0 : Int32))]) rfl ?_
  exact k_b11 FU (0 : Int32) M1 hf
theorem dX7_howManyFit_0 : decode cX7_howManyFit 0 = .ok (.iconst 0, 1) := by decide +kernel
theorem dX7_howManyFit_1 : decode cX7_howManyFit 1 = .ok (.istore_n 1, 1) := by decide +kernel
theorem dX7_howManyFit_2 : decode cX7_howManyFit 2 = .ok (.iconst 0, 1) := by decide +kernel
theorem dX7_howManyFit_3 : decode cX7_howManyFit 3 = .ok (.istore_n 2, 1) := by decide +kernel
theorem dX7_howManyFit_4 : decode cX7_howManyFit 4 = .ok (.iload_n 2, 1) := by decide +kernel
theorem dX7_howManyFit_5 : decode cX7_howManyFit 5 = .ok (.iconst 4, 1) := by decide +kernel
theorem dX7_howManyFit_6 : decode cX7_howManyFit 6 = .ok (.if_icmp .ge 35, 3) := by decide +kernel
theorem dX7_howManyFit_9 : decode cX7_howManyFit 9 = .ok (.iconst 0, 1) := by decide +kernel
theorem dX7_howManyFit_10 : decode cX7_howManyFit 10 = .ok (.istore_n 3, 1) := by decide +kernel
theorem dX7_howManyFit_11 : decode cX7_howManyFit 11 = .ok (.iload_n 3, 1) := by decide +kernel
theorem dX7_howManyFit_12 : decode cX7_howManyFit 12 = .ok (.bipush 8, 2) := by decide +kernel
theorem dX7_howManyFit_14 : decode cX7_howManyFit 14 = .ok (.if_icmp .gt 21, 3) := by decide +kernel
theorem dX7_howManyFit_17 : decode cX7_howManyFit 17 = .ok (.aload_n 0, 1) := by decide +kernel
theorem dX7_howManyFit_18 : decode cX7_howManyFit 18 = .ok (.iload_n 2, 1) := by decide +kernel
theorem dX7_howManyFit_19 : decode cX7_howManyFit 19 = .ok (.iload_n 3, 1) := by decide +kernel
theorem dX7_howManyFit_20 : decode cX7_howManyFit 20 = .ok (.invokevirtual 67, 3) := by decide +kernel
theorem dX7_howManyFit_23 : decode cX7_howManyFit 23 = .ok (.ifCond .eq 6, 3) := by decide +kernel
theorem dX7_howManyFit_26 : decode cX7_howManyFit 26 = .ok (.iinc 1 1, 3) := by decide +kernel
theorem dX7_howManyFit_29 : decode cX7_howManyFit 29 = .ok (.iinc 3 1, 3) := by decide +kernel
theorem dX7_howManyFit_32 : decode cX7_howManyFit 32 = .ok (.goto (-21), 3) := by decide +kernel
theorem dX7_howManyFit_35 : decode cX7_howManyFit 35 = .ok (.iinc 2 1, 3) := by decide +kernel
theorem dX7_howManyFit_38 : decode cX7_howManyFit 38 = .ok (.goto (-34), 3) := by decide +kernel
theorem dX7_howManyFit_41 : decode cX7_howManyFit 41 = .ok (.iload_n 1, 1) := by decide +kernel
theorem dX7_howManyFit_42 : decode cX7_howManyFit 42 = .ok (.ireturn, 1) := by decide +kernel
set_option maxRecDepth 100000 in
set_option maxHeartbeats 4000000 in
theorem c_X7_howManyFit {l : Launch} {G : Gx} (hap : k_ap G shC.length) (M0 : Mem) (r : Int32 × Mem) (hf : f_X7_howManyFit M0 = some r) : k_Met l yX7_howManyFit cX7_howManyFit 4 (some .int) 4 91 G shC [.ref (G.2.1 32)] M0 (k_Qi G shC r.1 r.2) := by
  refine k_Met_of (by decide) hap (Nat.le_of_ble_eq_true rfl) ?_
  intro p e s m args below meth c C hr hlk
  have C : Cx p s m args c cX7_howManyFit RX7 4 G shC := C
  have k_b4 : ∀ (n4 : Nat) (v1 : Int32) (v2 : Int32) (M : Mem), f_X7_howManyFit_b4 n4 v1 v2 M = some r → K p l e (k_rm 4 91) s m args below meth c 4 G shC (MQ below (k_Qi G shC r.1 r.2) args s 0 0 (k_A G shC.length)) 4 [(0, .ref (G.2.1 32)), (1, .int v1), (2, .int v2)] [] M := by
    intro n4
    induction n4 with
    | zero => intro v1 v2 M hf; simp [f_X7_howManyFit_b4] at hf
    | succ n4 ih4 =>
      have k_b11 : ∀ (n11 : Nat) (v1 : Int32) (v2 : Int32) (v3 : Int32) (M : Mem), f_X7_howManyFit_b11 (f_X7_howManyFit_b4 n4) n11 v1 v2 v3 M = some r → K p l e (k_rm 4 91) s m args below meth c 4 G shC (MQ below (k_Qi G shC r.1 r.2) args s 0 0 (k_A G shC.length)) 11 [(0, .ref (G.2.1 32)), (1, .int v1), (2, .int v2), (3, .int v3)] [] M := by
        intro n11
        induction n11 with
        | zero => intro v1 v2 v3 M hf; simp [f_X7_howManyFit_b11] at hf
        | succ n11 ih11 =>
          intro v1 v2 v3 M hf
          unfold f_X7_howManyFit_b11 at hf
          refine k_iload_n C dX7_howManyFit_11 3 rfl ?_
          refine k_bipush C dX7_howManyFit_12 (v := (8 : Int32)) rfl ?_
          rcases ite_g hf with ⟨c3, hf⟩ | ⟨c3, hf⟩
          · refine k_icmp_gt_t C dX7_howManyFit_14 (tgt := 35) (by decide) c3 ?_
            refine k_iinc C dX7_howManyFit_35 2 rfl (v := (v2 + (1 : Int32))) rfl (by decide) [1, 2, 0] (lv' := [(0, .ref (G.2.1 32)), (1, .int v1), (2, .int (v2 + (1 : Int32)))]) rfl ?_
            refine k_goto C dX7_howManyFit_38 (tgt := 4) (by decide) ?_
            exact ih4 v1 (v2 + (1 : Int32)) M hf
          · refine k_icmp_gt_f C dX7_howManyFit_14 (tgt := 35) (by decide) c3 ?_
            refine k_aload_n C dX7_howManyFit_17 0 rfl ?_
            refine k_iload_n C dX7_howManyFit_18 2 rfl ?_
            refine k_iload_n C dX7_howManyFit_19 3 rfl ?_
            obtain ⟨⟨t4, M4⟩, ht4, hf⟩ := bnd hf
            replace hf := bp_s hf
            refine k_callVi C (As := [.int v2, .int v3]) (c_X7_isAsTold hap v2 v3 M (t4, M4) ht4) ML_X7_isAsTold wd_821 shC_32 rfl rfl rfl ⟨Nat.le_of_ble_eq_true rfl, Nat.le_of_ble_eq_true rfl⟩ (Nat.le_of_ble_eq_true rfl) dX7_howManyFit_20 ?_
            rcases ite_g hf with ⟨c5, hf⟩ | ⟨c5, hf⟩
            · refine k_if_eq_t C dX7_howManyFit_23 (tgt := 29) (by decide) c5 ?_
              refine k_iinc C dX7_howManyFit_29 3 rfl (v := (v3 + (1 : Int32))) rfl (by decide) [1, 2, 3, 0] (lv' := [(0, .ref (G.2.1 32)), (1, .int v1), (2, .int v2), (3, .int (v3 + (1 : Int32)))]) rfl ?_
              refine k_goto C dX7_howManyFit_32 (tgt := 11) (by decide) ?_
              exact ih11 v1 v2 (v3 + (1 : Int32)) M4 hf
            · refine k_if_eq_f C dX7_howManyFit_23 (tgt := 29) (by decide) c5 ?_
              refine k_iinc C dX7_howManyFit_26 1 rfl (v := (v1 + (1 : Int32))) rfl (by decide) [1, 0, 2, 3] (lv' := [(0, .ref (G.2.1 32)), (1, .int (v1 + (1 : Int32))), (2, .int v2), (3, .int v3)]) rfl ?_
              refine k_iinc C dX7_howManyFit_29 3 rfl (v := (v3 + (1 : Int32))) rfl (by decide) [1, 2, 3, 0] (lv' := [(0, .ref (G.2.1 32)), (1, .int (v1 + (1 : Int32))), (2, .int v2), (3, .int (v3 + (1 : Int32)))]) rfl ?_
              refine k_goto C dX7_howManyFit_32 (tgt := 11) (by decide) ?_
              exact ih11 (v1 + (1 : Int32)) v2 (v3 + (1 : Int32)) M4 hf
      intro v1 v2 M hf
      unfold f_X7_howManyFit_b4 at hf
      refine k_iload_n C dX7_howManyFit_4 2 rfl ?_
      refine k_iconst C dX7_howManyFit_5 (v := (4 : Int32)) rfl ?_
      rcases ite_g hf with ⟨c1, hf⟩ | ⟨c1, hf⟩
      · refine k_icmp_ge_t C dX7_howManyFit_6 (tgt := 41) (by decide) c1 ?_
        refine k_iload_n C dX7_howManyFit_41 1 rfl ?_
        exact k_iret C hr hlk (prf hf) (prs hf) dX7_howManyFit_42
      · refine k_icmp_ge_f C dX7_howManyFit_6 (tgt := 41) (by decide) c1 ?_
        refine k_iconst C dX7_howManyFit_9 (v := (0 : Int32)) rfl ?_
        refine k_istore_n C dX7_howManyFit_10 (by decide) [1, 2, 3, 0] (lv' := [(0, .ref (G.2.1 32)), (1, .int v1), (2, .int v2), (3, .int (0 : Int32))]) rfl ?_
        exact k_b11 FU v1 v2 (0 : Int32) M hf
  unfold f_X7_howManyFit at hf
  refine k_lv (lv' := [(0, .ref (G.2.1 32))]) [0] rfl ?_
  refine k_iconst C dX7_howManyFit_0 (v := (0 : Int32)) rfl ?_
  refine k_istore_n C dX7_howManyFit_1 (by decide) [1, 0] (lv' := [(0, .ref (G.2.1 32)), (1, .int (0 : Int32))]) rfl ?_
  refine k_iconst C dX7_howManyFit_2 (v := (0 : Int32)) rfl ?_
  refine k_istore_n C dX7_howManyFit_3 (by decide) [1, 2, 0] (lv' := [(0, .ref (G.2.1 32)), (1, .int (0 : Int32)), (2, .int (0 : Int32))]) rfl ?_
  exact k_b4 FU (0 : Int32) (0 : Int32) M0 hf
theorem dX7_firstFitting_0 : decode cX7_firstFitting 0 = .ok (.iconst 0, 1) := by decide +kernel
theorem dX7_firstFitting_1 : decode cX7_firstFitting 1 = .ok (.istore_n 1, 1) := by decide +kernel
theorem dX7_firstFitting_2 : decode cX7_firstFitting 2 = .ok (.iload_n 1, 1) := by decide +kernel
theorem dX7_firstFitting_3 : decode cX7_firstFitting 3 = .ok (.iconst 4, 1) := by decide +kernel
theorem dX7_firstFitting_4 : decode cX7_firstFitting 4 = .ok (.if_icmp .ge 39, 3) := by decide +kernel
theorem dX7_firstFitting_7 : decode cX7_firstFitting 7 = .ok (.iconst 0, 1) := by decide +kernel
theorem dX7_firstFitting_8 : decode cX7_firstFitting 8 = .ok (.istore_n 2, 1) := by decide +kernel
theorem dX7_firstFitting_9 : decode cX7_firstFitting 9 = .ok (.iload_n 2, 1) := by decide +kernel
theorem dX7_firstFitting_10 : decode cX7_firstFitting 10 = .ok (.bipush 8, 2) := by decide +kernel
theorem dX7_firstFitting_12 : decode cX7_firstFitting 12 = .ok (.if_icmp .gt 25, 3) := by decide +kernel
theorem dX7_firstFitting_15 : decode cX7_firstFitting 15 = .ok (.aload_n 0, 1) := by decide +kernel
theorem dX7_firstFitting_16 : decode cX7_firstFitting 16 = .ok (.iload_n 1, 1) := by decide +kernel
theorem dX7_firstFitting_17 : decode cX7_firstFitting 17 = .ok (.iload_n 2, 1) := by decide +kernel
theorem dX7_firstFitting_18 : decode cX7_firstFitting 18 = .ok (.invokevirtual 67, 3) := by decide +kernel
theorem dX7_firstFitting_21 : decode cX7_firstFitting 21 = .ok (.ifCond .eq 10, 3) := by decide +kernel
theorem dX7_firstFitting_24 : decode cX7_firstFitting 24 = .ok (.bipush 10, 2) := by decide +kernel
theorem dX7_firstFitting_26 : decode cX7_firstFitting 26 = .ok (.iload_n 1, 1) := by decide +kernel
theorem dX7_firstFitting_27 : decode cX7_firstFitting 27 = .ok (.imul, 1) := by decide +kernel
theorem dX7_firstFitting_28 : decode cX7_firstFitting 28 = .ok (.iload_n 2, 1) := by decide +kernel
theorem dX7_firstFitting_29 : decode cX7_firstFitting 29 = .ok (.iadd, 1) := by decide +kernel
theorem dX7_firstFitting_30 : decode cX7_firstFitting 30 = .ok (.ireturn, 1) := by decide +kernel
theorem dX7_firstFitting_31 : decode cX7_firstFitting 31 = .ok (.iinc 2 1, 3) := by decide +kernel
theorem dX7_firstFitting_34 : decode cX7_firstFitting 34 = .ok (.goto (-25), 3) := by decide +kernel
theorem dX7_firstFitting_37 : decode cX7_firstFitting 37 = .ok (.iinc 1 1, 3) := by decide +kernel
theorem dX7_firstFitting_40 : decode cX7_firstFitting 40 = .ok (.goto (-38), 3) := by decide +kernel
theorem dX7_firstFitting_43 : decode cX7_firstFitting 43 = .ok (.bipush (-9), 2) := by decide +kernel
theorem dX7_firstFitting_45 : decode cX7_firstFitting 45 = .ok (.ireturn, 1) := by decide +kernel
set_option maxRecDepth 100000 in
set_option maxHeartbeats 4000000 in
theorem c_X7_firstFitting {l : Launch} {G : Gx} (hap : k_ap G shC.length) (M0 : Mem) (r : Int32 × Mem) (hf : f_X7_firstFitting M0 = some r) : k_Met l yX7_firstFitting cX7_firstFitting 3 (some .int) 4 91 G shC [.ref (G.2.1 32)] M0 (k_Qi G shC r.1 r.2) := by
  refine k_Met_of (by decide) hap (Nat.le_of_ble_eq_true rfl) ?_
  intro p e s m args below meth c C hr hlk
  have C : Cx p s m args c cX7_firstFitting RX7 3 G shC := C
  have k_b2 : ∀ (n2 : Nat) (v1 : Int32) (M : Mem), f_X7_firstFitting_b2 n2 v1 M = some r → K p l e (k_rm 4 91) s m args below meth c 3 G shC (MQ below (k_Qi G shC r.1 r.2) args s 0 0 (k_A G shC.length)) 2 [(0, .ref (G.2.1 32)), (1, .int v1)] [] M := by
    intro n2
    induction n2 with
    | zero => intro v1 M hf; simp [f_X7_firstFitting_b2] at hf
    | succ n2 ih2 =>
      have k_b9 : ∀ (n9 : Nat) (v1 : Int32) (v2 : Int32) (M : Mem), f_X7_firstFitting_b9 (f_X7_firstFitting_b2 n2) n9 v1 v2 M = some r → K p l e (k_rm 4 91) s m args below meth c 3 G shC (MQ below (k_Qi G shC r.1 r.2) args s 0 0 (k_A G shC.length)) 9 [(0, .ref (G.2.1 32)), (1, .int v1), (2, .int v2)] [] M := by
        intro n9
        induction n9 with
        | zero => intro v1 v2 M hf; simp [f_X7_firstFitting_b9] at hf
        | succ n9 ih9 =>
          intro v1 v2 M hf
          unfold f_X7_firstFitting_b9 at hf
          refine k_iload_n C dX7_firstFitting_9 2 rfl ?_
          refine k_bipush C dX7_firstFitting_10 (v := (8 : Int32)) rfl ?_
          rcases ite_g hf with ⟨c2, hf⟩ | ⟨c2, hf⟩
          · refine k_icmp_gt_t C dX7_firstFitting_12 (tgt := 37) (by decide) c2 ?_
            refine k_iinc C dX7_firstFitting_37 1 rfl (v := (v1 + (1 : Int32))) rfl (by decide) [1, 0] (lv' := [(0, .ref (G.2.1 32)), (1, .int (v1 + (1 : Int32)))]) rfl ?_
            refine k_goto C dX7_firstFitting_40 (tgt := 2) (by decide) ?_
            exact ih2 (v1 + (1 : Int32)) M hf
          · refine k_icmp_gt_f C dX7_firstFitting_12 (tgt := 37) (by decide) c2 ?_
            refine k_aload_n C dX7_firstFitting_15 0 rfl ?_
            refine k_iload_n C dX7_firstFitting_16 1 rfl ?_
            refine k_iload_n C dX7_firstFitting_17 2 rfl ?_
            obtain ⟨⟨t3, M3⟩, ht3, hf⟩ := bnd hf
            replace hf := bp_s hf
            refine k_callVi C (As := [.int v1, .int v2]) (c_X7_isAsTold hap v1 v2 M (t3, M3) ht3) ML_X7_isAsTold wd_821 shC_32 rfl rfl rfl ⟨Nat.le_of_ble_eq_true rfl, Nat.le_of_ble_eq_true rfl⟩ (Nat.le_of_ble_eq_true rfl) dX7_firstFitting_18 ?_
            rcases ite_g hf with ⟨c4, hf⟩ | ⟨c4, hf⟩
            · refine k_if_eq_t C dX7_firstFitting_21 (tgt := 31) (by decide) c4 ?_
              refine k_iinc C dX7_firstFitting_31 2 rfl (v := (v2 + (1 : Int32))) rfl (by decide) [1, 2, 0] (lv' := [(0, .ref (G.2.1 32)), (1, .int v1), (2, .int (v2 + (1 : Int32)))]) rfl ?_
              refine k_goto C dX7_firstFitting_34 (tgt := 9) (by decide) ?_
              exact ih9 v1 (v2 + (1 : Int32)) M3 hf
            · refine k_if_eq_f C dX7_firstFitting_21 (tgt := 31) (by decide) c4 ?_
              refine k_bipush C dX7_firstFitting_24 (v := (10 : Int32)) rfl ?_
              refine k_iload_n C dX7_firstFitting_26 1 rfl ?_
              refine k_imul C dX7_firstFitting_27 ?_
              refine k_iload_n C dX7_firstFitting_28 2 rfl ?_
              refine k_iadd C dX7_firstFitting_29 ?_
              exact k_iret C hr hlk (prf hf) (prs hf) dX7_firstFitting_30
      intro v1 M hf
      unfold f_X7_firstFitting_b2 at hf
      refine k_iload_n C dX7_firstFitting_2 1 rfl ?_
      refine k_iconst C dX7_firstFitting_3 (v := (4 : Int32)) rfl ?_
      rcases ite_g hf with ⟨c1, hf⟩ | ⟨c1, hf⟩
      · refine k_icmp_ge_t C dX7_firstFitting_4 (tgt := 43) (by decide) c1 ?_
        refine k_bipush C dX7_firstFitting_43 (v := (-9 : Int32)) rfl ?_
        exact k_iret C hr hlk (prf hf) (prs hf) dX7_firstFitting_45
      · refine k_icmp_ge_f C dX7_firstFitting_4 (tgt := 43) (by decide) c1 ?_
        refine k_iconst C dX7_firstFitting_7 (v := (0 : Int32)) rfl ?_
        refine k_istore_n C dX7_firstFitting_8 (by decide) [1, 2, 0] (lv' := [(0, .ref (G.2.1 32)), (1, .int v1), (2, .int (0 : Int32))]) rfl ?_
        exact k_b9 FU v1 (0 : Int32) M hf
  unfold f_X7_firstFitting at hf
  refine k_lv (lv' := [(0, .ref (G.2.1 32))]) [0] rfl ?_
  refine k_iconst C dX7_firstFitting_0 (v := (0 : Int32)) rfl ?_
  refine k_istore_n C dX7_firstFitting_1 (by decide) [1, 0] (lv' := [(0, .ref (G.2.1 32)), (1, .int (0 : Int32))]) rfl ?_
  exact k_b2 FU (0 : Int32) M0 hf
theorem dX7_keepNexts_0 : decode cX7_keepNexts 0 = .ok (.iconst 0, 1) := by decide +kernel
theorem dX7_keepNexts_1 : decode cX7_keepNexts 1 = .ok (.istore_n 2, 1) := by decide +kernel
theorem dX7_keepNexts_2 : decode cX7_keepNexts 2 = .ok (.iload_n 2, 1) := by decide +kernel
theorem dX7_keepNexts_3 : decode cX7_keepNexts 3 = .ok (.aload_n 0, 1) := by decide +kernel
theorem dX7_keepNexts_4 : decode cX7_keepNexts 4 = .ok (.getfield 15, 3) := by decide +kernel
theorem dX7_keepNexts_7 : decode cX7_keepNexts 7 = .ok (.getfield 75, 3) := by decide +kernel
theorem dX7_keepNexts_10 : decode cX7_keepNexts 10 = .ok (.if_icmp .ge 28, 3) := by decide +kernel
theorem dX7_keepNexts_13 : decode cX7_keepNexts 13 = .ok (.aload_n 0, 1) := by decide +kernel
theorem dX7_keepNexts_14 : decode cX7_keepNexts 14 = .ok (.getfield 9, 3) := by decide +kernel
theorem dX7_keepNexts_17 : decode cX7_keepNexts 17 = .ok (.iload_n 1, 1) := by decide +kernel
theorem dX7_keepNexts_18 : decode cX7_keepNexts 18 = .ok (.bipush 8, 2) := by decide +kernel
theorem dX7_keepNexts_20 : decode cX7_keepNexts 20 = .ok (.imul, 1) := by decide +kernel
theorem dX7_keepNexts_21 : decode cX7_keepNexts 21 = .ok (.iload_n 2, 1) := by decide +kernel
theorem dX7_keepNexts_22 : decode cX7_keepNexts 22 = .ok (.iadd, 1) := by decide +kernel
theorem dX7_keepNexts_23 : decode cX7_keepNexts 23 = .ok (.aload_n 0, 1) := by decide +kernel
theorem dX7_keepNexts_24 : decode cX7_keepNexts 24 = .ok (.getfield 19, 3) := by decide +kernel
theorem dX7_keepNexts_27 : decode cX7_keepNexts 27 = .ok (.iload_n 2, 1) := by decide +kernel
theorem dX7_keepNexts_28 : decode cX7_keepNexts 28 = .ok (.invokevirtual 85, 3) := by decide +kernel
theorem dX7_keepNexts_31 : decode cX7_keepNexts 31 = .ok (.iastore, 1) := by decide +kernel
theorem dX7_keepNexts_32 : decode cX7_keepNexts 32 = .ok (.iinc 2 1, 3) := by decide +kernel
theorem dX7_keepNexts_35 : decode cX7_keepNexts 35 = .ok (.goto (-33), 3) := by decide +kernel
theorem dX7_keepNexts_38 : decode cX7_keepNexts 38 = .ok (.return_, 1) := by decide +kernel
set_option maxRecDepth 100000 in
set_option maxHeartbeats 4000000 in
theorem c_X7_keepNexts {l : Launch} {G : Gx} (hap : k_ap G shC.length) (v1 : Int32) (M0 : Mem) (r : Mem) (hf : f_X7_keepNexts v1 M0 = some r) : k_Met l yX7_keepNexts cX7_keepNexts 3 none 2 44 G shC [.ref (G.2.1 32), .int v1] M0 (k_Qv G shC r) := by
  refine k_Met_of (by decide) hap (Nat.le_of_ble_eq_true rfl) ?_
  intro p e s m args below meth c C hr hlk
  have C : Cx p s m args c cX7_keepNexts RX7 3 G shC := C
  have k_b2 : ∀ (n2 : Nat) (v1 : Int32) (v2 : Int32) (M : Mem), f_X7_keepNexts_b2 n2 v1 v2 M = some r → K p l e (k_rm 2 44) s m args below meth c 3 G shC (MQ below (k_Qv G shC r) args s 0 0 (k_A G shC.length)) 2 [(0, .ref (G.2.1 32)), (1, .int v1), (2, .int v2)] [] M := by
    intro n2
    induction n2 with
    | zero => intro v1 v2 M hf; simp [f_X7_keepNexts_b2] at hf
    | succ n2 ih2 =>
      intro v1 v2 M hf
      unfold f_X7_keepNexts_b2 at hf
      refine k_iload_n C dX7_keepNexts_2 2 rfl ?_
      refine k_aload_n C dX7_keepNexts_3 0 rfl ?_
      refine k_getr C shC_32 (j := 0) rfl FL_X7_15 dX7_keepNexts_4 ?_
      refine k_geti C shC_1 (j := 4) rfl FL_X7_75 dX7_keepNexts_7 ?_
      rcases ite_g hf with ⟨c2, hf⟩ | ⟨c2, hf⟩
      · refine k_icmp_ge_t C dX7_keepNexts_10 (tgt := 38) (by decide) c2 ?_
        exact k_vret C hr hlk (Option.some.inj hf) dX7_keepNexts_38
      · refine k_icmp_ge_f C dX7_keepNexts_10 (tgt := 38) (by decide) c2 ?_
        refine k_aload_n C dX7_keepNexts_13 0 rfl ?_
        refine k_getr C shC_32 (j := 3) rfl FL_X7_9 dX7_keepNexts_14 ?_
        refine k_iload_n C dX7_keepNexts_17 1 rfl ?_
        refine k_bipush C dX7_keepNexts_18 (v := (8 : Int32)) rfl ?_
        refine k_imul C dX7_keepNexts_20 ?_
        refine k_iload_n C dX7_keepNexts_21 2 rfl ?_
        refine k_iadd C dX7_keepNexts_22 ?_
        refine k_aload_n C dX7_keepNexts_23 0 rfl ?_
        refine k_getr C shC_32 (j := 1) rfl FL_X7_19 dX7_keepNexts_24 ?_
        refine k_iload_n C dX7_keepNexts_27 2 rfl ?_
        obtain ⟨t3, ht3, hf⟩ := bnd hf
        refine k_callVi C (As := [.int v2]) (c_X8_dueNow hap v2 M t3 ht3) ML_X8_dueNow wd_848 shC_25 rfl rfl rfl ⟨Nat.le_of_ble_eq_true rfl, Nat.le_of_ble_eq_true rfl⟩ (Nat.le_of_ble_eq_true rfl) dX7_keepNexts_28 ?_
        obtain ⟨M4, hM4, hf⟩ := bnd hf
        refine k_iast C shC_33 hM4 dX7_keepNexts_31 ?_
        refine k_iinc C dX7_keepNexts_32 2 rfl (v := (v2 + (1 : Int32))) rfl (by decide) [1, 2, 0] (lv' := [(0, .ref (G.2.1 32)), (1, .int v1), (2, .int (v2 + (1 : Int32)))]) rfl ?_
        refine k_goto C dX7_keepNexts_35 (tgt := 2) (by decide) ?_
        exact ih2 v1 (v2 + (1 : Int32)) M4 hf
  unfold f_X7_keepNexts at hf
  refine k_lv (lv' := [(0, .ref (G.2.1 32)), (1, .int v1)]) [0, 1] rfl ?_
  refine k_iconst C dX7_keepNexts_0 (v := (0 : Int32)) rfl ?_
  refine k_istore_n C dX7_keepNexts_1 (by decide) [1, 2, 0] (lv' := [(0, .ref (G.2.1 32)), (1, .int v1), (2, .int (0 : Int32))]) rfl ?_
  exact k_b2 FU v1 (0 : Int32) M0 hf
theorem dX7_gatherNexts_0 : decode cX7_gatherNexts 0 = .ok (.iconst 0, 1) := by decide +kernel
theorem dX7_gatherNexts_1 : decode cX7_gatherNexts 1 = .ok (.istore_n 1, 1) := by decide +kernel
theorem dX7_gatherNexts_2 : decode cX7_gatherNexts 2 = .ok (.iconst 0, 1) := by decide +kernel
theorem dX7_gatherNexts_3 : decode cX7_gatherNexts 3 = .ok (.istore_n 2, 1) := by decide +kernel
theorem dX7_gatherNexts_4 : decode cX7_gatherNexts 4 = .ok (.iload_n 2, 1) := by decide +kernel
theorem dX7_gatherNexts_5 : decode cX7_gatherNexts 5 = .ok (.iconst 4, 1) := by decide +kernel
theorem dX7_gatherNexts_6 : decode cX7_gatherNexts 6 = .ok (.if_icmp .ge 50, 3) := by decide +kernel
theorem dX7_gatherNexts_9 : decode cX7_gatherNexts 9 = .ok (.iconst 0, 1) := by decide +kernel
theorem dX7_gatherNexts_10 : decode cX7_gatherNexts 10 = .ok (.istore_n 3, 1) := by decide +kernel
theorem dX7_gatherNexts_11 : decode cX7_gatherNexts 11 = .ok (.iload_n 3, 1) := by decide +kernel
theorem dX7_gatherNexts_12 : decode cX7_gatherNexts 12 = .ok (.bipush 8, 2) := by decide +kernel
theorem dX7_gatherNexts_14 : decode cX7_gatherNexts 14 = .ok (.if_icmp .gt 36, 3) := by decide +kernel
theorem dX7_gatherNexts_17 : decode cX7_gatherNexts 17 = .ok (.aload_n 0, 1) := by decide +kernel
theorem dX7_gatherNexts_18 : decode cX7_gatherNexts 18 = .ok (.iload_n 2, 1) := by decide +kernel
theorem dX7_gatherNexts_19 : decode cX7_gatherNexts 19 = .ok (.iload_n 3, 1) := by decide +kernel
theorem dX7_gatherNexts_20 : decode cX7_gatherNexts 20 = .ok (.invokevirtual 67, 3) := by decide +kernel
theorem dX7_gatherNexts_23 : decode cX7_gatherNexts 23 = .ok (.ifCond .eq 21, 3) := by decide +kernel
theorem dX7_gatherNexts_26 : decode cX7_gatherNexts 26 = .ok (.aload_n 0, 1) := by decide +kernel
theorem dX7_gatherNexts_27 : decode cX7_gatherNexts 27 = .ok (.getfield 19, 3) := by decide +kernel
theorem dX7_gatherNexts_30 : decode cX7_gatherNexts 30 = .ok (.iload_n 2, 1) := by decide +kernel
theorem dX7_gatherNexts_31 : decode cX7_gatherNexts 31 = .ok (.iload_n 3, 1) := by decide +kernel
theorem dX7_gatherNexts_32 : decode cX7_gatherNexts 32 = .ok (.invokevirtual 28, 3) := by decide +kernel
theorem dX7_gatherNexts_35 : decode cX7_gatherNexts 35 = .ok (.pop, 1) := by decide +kernel
theorem dX7_gatherNexts_36 : decode cX7_gatherNexts 36 = .ok (.aload_n 0, 1) := by decide +kernel
theorem dX7_gatherNexts_37 : decode cX7_gatherNexts 37 = .ok (.iload_n 1, 1) := by decide +kernel
theorem dX7_gatherNexts_38 : decode cX7_gatherNexts 38 = .ok (.invokevirtual 81, 3) := by decide +kernel
theorem dX7_gatherNexts_41 : decode cX7_gatherNexts 41 = .ok (.iinc 1 1, 3) := by decide +kernel
theorem dX7_gatherNexts_44 : decode cX7_gatherNexts 44 = .ok (.iinc 3 1, 3) := by decide +kernel
theorem dX7_gatherNexts_47 : decode cX7_gatherNexts 47 = .ok (.goto (-36), 3) := by decide +kernel
theorem dX7_gatherNexts_50 : decode cX7_gatherNexts 50 = .ok (.iinc 2 1, 3) := by decide +kernel
theorem dX7_gatherNexts_53 : decode cX7_gatherNexts 53 = .ok (.goto (-49), 3) := by decide +kernel
theorem dX7_gatherNexts_56 : decode cX7_gatherNexts 56 = .ok (.iload_n 1, 1) := by decide +kernel
theorem dX7_gatherNexts_57 : decode cX7_gatherNexts 57 = .ok (.ireturn, 1) := by decide +kernel
set_option maxRecDepth 100000 in
set_option maxHeartbeats 4000000 in
theorem c_X7_gatherNexts {l : Launch} {G : Gx} (hap : k_ap G shC.length) (M0 : Mem) (r : Int32 × Mem) (hf : f_X7_gatherNexts M0 = some r) : k_Met l yX7_gatherNexts cX7_gatherNexts 4 (some .int) 4 91 G shC [.ref (G.2.1 32)] M0 (k_Qi G shC r.1 r.2) := by
  refine k_Met_of (by decide) hap (Nat.le_of_ble_eq_true rfl) ?_
  intro p e s m args below meth c C hr hlk
  have C : Cx p s m args c cX7_gatherNexts RX7 4 G shC := C
  have k_b4 : ∀ (n4 : Nat) (v1 : Int32) (v2 : Int32) (M : Mem), f_X7_gatherNexts_b4 n4 v1 v2 M = some r → K p l e (k_rm 4 91) s m args below meth c 4 G shC (MQ below (k_Qi G shC r.1 r.2) args s 0 0 (k_A G shC.length)) 4 [(0, .ref (G.2.1 32)), (1, .int v1), (2, .int v2)] [] M := by
    intro n4
    induction n4 with
    | zero => intro v1 v2 M hf; simp [f_X7_gatherNexts_b4] at hf
    | succ n4 ih4 =>
      have k_b11 : ∀ (n11 : Nat) (v1 : Int32) (v2 : Int32) (v3 : Int32) (M : Mem), f_X7_gatherNexts_b11 (f_X7_gatherNexts_b4 n4) n11 v1 v2 v3 M = some r → K p l e (k_rm 4 91) s m args below meth c 4 G shC (MQ below (k_Qi G shC r.1 r.2) args s 0 0 (k_A G shC.length)) 11 [(0, .ref (G.2.1 32)), (1, .int v1), (2, .int v2), (3, .int v3)] [] M := by
        intro n11
        induction n11 with
        | zero => intro v1 v2 v3 M hf; simp [f_X7_gatherNexts_b11] at hf
        | succ n11 ih11 =>
          intro v1 v2 v3 M hf
          unfold f_X7_gatherNexts_b11 at hf
          refine k_iload_n C dX7_gatherNexts_11 3 rfl ?_
          refine k_bipush C dX7_gatherNexts_12 (v := (8 : Int32)) rfl ?_
          rcases ite_g hf with ⟨c3, hf⟩ | ⟨c3, hf⟩
          · refine k_icmp_gt_t C dX7_gatherNexts_14 (tgt := 50) (by decide) c3 ?_
            refine k_iinc C dX7_gatherNexts_50 2 rfl (v := (v2 + (1 : Int32))) rfl (by decide) [1, 2, 0] (lv' := [(0, .ref (G.2.1 32)), (1, .int v1), (2, .int (v2 + (1 : Int32)))]) rfl ?_
            refine k_goto C dX7_gatherNexts_53 (tgt := 4) (by decide) ?_
            exact ih4 v1 (v2 + (1 : Int32)) M hf
          · refine k_icmp_gt_f C dX7_gatherNexts_14 (tgt := 50) (by decide) c3 ?_
            refine k_aload_n C dX7_gatherNexts_17 0 rfl ?_
            refine k_iload_n C dX7_gatherNexts_18 2 rfl ?_
            refine k_iload_n C dX7_gatherNexts_19 3 rfl ?_
            obtain ⟨⟨t4, M4⟩, ht4, hf⟩ := bnd hf
            replace hf := bp_s hf
            refine k_callVi C (As := [.int v2, .int v3]) (c_X7_isAsTold hap v2 v3 M (t4, M4) ht4) ML_X7_isAsTold wd_821 shC_32 rfl rfl rfl ⟨Nat.le_of_ble_eq_true rfl, Nat.le_of_ble_eq_true rfl⟩ (Nat.le_of_ble_eq_true rfl) dX7_gatherNexts_20 ?_
            rcases ite_g hf with ⟨c6, hf⟩ | ⟨c6, hf⟩
            · refine k_if_eq_t C dX7_gatherNexts_23 (tgt := 44) (by decide) c6 ?_
              refine k_iinc C dX7_gatherNexts_44 3 rfl (v := (v3 + (1 : Int32))) rfl (by decide) [1, 2, 3, 0] (lv' := [(0, .ref (G.2.1 32)), (1, .int v1), (2, .int v2), (3, .int (v3 + (1 : Int32)))]) rfl ?_
              refine k_goto C dX7_gatherNexts_47 (tgt := 11) (by decide) ?_
              exact ih11 v1 v2 (v3 + (1 : Int32)) M4 hf
            · refine k_if_eq_f C dX7_gatherNexts_23 (tgt := 44) (by decide) c6 ?_
              refine k_aload_n C dX7_gatherNexts_26 0 rfl ?_
              refine k_getr C shC_32 (j := 1) rfl FL_X7_19 dX7_gatherNexts_27 ?_
              refine k_iload_n C dX7_gatherNexts_30 2 rfl ?_
              refine k_iload_n C dX7_gatherNexts_31 3 rfl ?_
              obtain ⟨⟨t7, M7⟩, ht7, hf⟩ := bnd hf
              replace hf := bp_s hf
              refine k_callVi C (As := [.int v2, .int v3]) (c_X8_totalBy hap v2 v3 M4 (t7, M7) ht7) ML_X8_totalBy wd_809 shC_25 rfl rfl rfl ⟨Nat.le_of_ble_eq_true rfl, Nat.le_of_ble_eq_true rfl⟩ (Nat.le_of_ble_eq_true rfl) dX7_gatherNexts_32 ?_
              refine k_pop C dX7_gatherNexts_35 rfl ?_
              refine k_aload_n C dX7_gatherNexts_36 0 rfl ?_
              refine k_iload_n C dX7_gatherNexts_37 1 rfl ?_
              obtain ⟨M8, hM8, hf⟩ := bnd hf
              refine k_callVv C (As := [.int v1]) (c_X7_keepNexts hap v1 M7 M8 hM8) ML_X7_keepNexts wd_844 shC_32 rfl rfl rfl ⟨Nat.le_of_ble_eq_true rfl, Nat.le_of_ble_eq_true rfl⟩ (Nat.le_of_ble_eq_true rfl) dX7_gatherNexts_38 ?_
              refine k_iinc C dX7_gatherNexts_41 1 rfl (v := (v1 + (1 : Int32))) rfl (by decide) [1, 0, 2, 3] (lv' := [(0, .ref (G.2.1 32)), (1, .int (v1 + (1 : Int32))), (2, .int v2), (3, .int v3)]) rfl ?_
              refine k_iinc C dX7_gatherNexts_44 3 rfl (v := (v3 + (1 : Int32))) rfl (by decide) [1, 2, 3, 0] (lv' := [(0, .ref (G.2.1 32)), (1, .int (v1 + (1 : Int32))), (2, .int v2), (3, .int (v3 + (1 : Int32)))]) rfl ?_
              refine k_goto C dX7_gatherNexts_47 (tgt := 11) (by decide) ?_
              exact ih11 (v1 + (1 : Int32)) v2 (v3 + (1 : Int32)) M8 hf
      intro v1 v2 M hf
      unfold f_X7_gatherNexts_b4 at hf
      refine k_iload_n C dX7_gatherNexts_4 2 rfl ?_
      refine k_iconst C dX7_gatherNexts_5 (v := (4 : Int32)) rfl ?_
      rcases ite_g hf with ⟨c1, hf⟩ | ⟨c1, hf⟩
      · refine k_icmp_ge_t C dX7_gatherNexts_6 (tgt := 56) (by decide) c1 ?_
        refine k_iload_n C dX7_gatherNexts_56 1 rfl ?_
        exact k_iret C hr hlk (prf hf) (prs hf) dX7_gatherNexts_57
      · refine k_icmp_ge_f C dX7_gatherNexts_6 (tgt := 56) (by decide) c1 ?_
        refine k_iconst C dX7_gatherNexts_9 (v := (0 : Int32)) rfl ?_
        refine k_istore_n C dX7_gatherNexts_10 (by decide) [1, 2, 3, 0] (lv' := [(0, .ref (G.2.1 32)), (1, .int v1), (2, .int v2), (3, .int (0 : Int32))]) rfl ?_
        exact k_b11 FU v1 v2 (0 : Int32) M hf
  unfold f_X7_gatherNexts at hf
  refine k_lv (lv' := [(0, .ref (G.2.1 32))]) [0] rfl ?_
  refine k_iconst C dX7_gatherNexts_0 (v := (0 : Int32)) rfl ?_
  refine k_istore_n C dX7_gatherNexts_1 (by decide) [1, 0] (lv' := [(0, .ref (G.2.1 32)), (1, .int (0 : Int32))]) rfl ?_
  refine k_iconst C dX7_gatherNexts_2 (v := (0 : Int32)) rfl ?_
  refine k_istore_n C dX7_gatherNexts_3 (by decide) [1, 2, 0] (lv' := [(0, .ref (G.2.1 32)), (1, .int (0 : Int32)), (2, .int (0 : Int32))]) rfl ?_
  exact k_b4 FU (0 : Int32) (0 : Int32) M0 hf
theorem dX7_isNewNext_0 : decode cX7_isNewNext 0 = .ok (.iconst 0, 1) := by decide +kernel
theorem dX7_isNewNext_1 : decode cX7_isNewNext 1 = .ok (.istore_n 3, 1) := by decide +kernel
theorem dX7_isNewNext_2 : decode cX7_isNewNext 2 = .ok (.iload_n 3, 1) := by decide +kernel
theorem dX7_isNewNext_3 : decode cX7_isNewNext 3 = .ok (.iload_n 2, 1) := by decide +kernel
theorem dX7_isNewNext_4 : decode cX7_isNewNext 4 = .ok (.if_icmp .ge 36, 3) := by decide +kernel
theorem dX7_isNewNext_7 : decode cX7_isNewNext 7 = .ok (.aload_n 0, 1) := by decide +kernel
theorem dX7_isNewNext_8 : decode cX7_isNewNext 8 = .ok (.getfield 9, 3) := by decide +kernel
theorem dX7_isNewNext_11 : decode cX7_isNewNext 11 = .ok (.iload_n 3, 1) := by decide +kernel
theorem dX7_isNewNext_12 : decode cX7_isNewNext 12 = .ok (.bipush 8, 2) := by decide +kernel
theorem dX7_isNewNext_14 : decode cX7_isNewNext 14 = .ok (.imul, 1) := by decide +kernel
theorem dX7_isNewNext_15 : decode cX7_isNewNext 15 = .ok (.iload_n 1, 1) := by decide +kernel
theorem dX7_isNewNext_16 : decode cX7_isNewNext 16 = .ok (.iadd, 1) := by decide +kernel
theorem dX7_isNewNext_17 : decode cX7_isNewNext 17 = .ok (.iaload, 1) := by decide +kernel
theorem dX7_isNewNext_18 : decode cX7_isNewNext 18 = .ok (.aload_n 0, 1) := by decide +kernel
theorem dX7_isNewNext_19 : decode cX7_isNewNext 19 = .ok (.getfield 9, 3) := by decide +kernel
theorem dX7_isNewNext_22 : decode cX7_isNewNext 22 = .ok (.iload_n 2, 1) := by decide +kernel
theorem dX7_isNewNext_23 : decode cX7_isNewNext 23 = .ok (.bipush 8, 2) := by decide +kernel
theorem dX7_isNewNext_25 : decode cX7_isNewNext 25 = .ok (.imul, 1) := by decide +kernel
theorem dX7_isNewNext_26 : decode cX7_isNewNext 26 = .ok (.iload_n 1, 1) := by decide +kernel
theorem dX7_isNewNext_27 : decode cX7_isNewNext 27 = .ok (.iadd, 1) := by decide +kernel
theorem dX7_isNewNext_28 : decode cX7_isNewNext 28 = .ok (.iaload, 1) := by decide +kernel
theorem dX7_isNewNext_29 : decode cX7_isNewNext 29 = .ok (.if_icmp .ne 5, 3) := by decide +kernel
theorem dX7_isNewNext_32 : decode cX7_isNewNext 32 = .ok (.iconst 0, 1) := by decide +kernel
theorem dX7_isNewNext_33 : decode cX7_isNewNext 33 = .ok (.ireturn, 1) := by decide +kernel
theorem dX7_isNewNext_34 : decode cX7_isNewNext 34 = .ok (.iinc 3 1, 3) := by decide +kernel
theorem dX7_isNewNext_37 : decode cX7_isNewNext 37 = .ok (.goto (-35), 3) := by decide +kernel
theorem dX7_isNewNext_40 : decode cX7_isNewNext 40 = .ok (.iconst 1, 1) := by decide +kernel
theorem dX7_isNewNext_41 : decode cX7_isNewNext 41 = .ok (.ireturn, 1) := by decide +kernel
set_option maxRecDepth 100000 in
set_option maxHeartbeats 4000000 in
theorem c_X7_isNewNext {l : Launch} {G : Gx} (hap : k_ap G shC.length) (v1 : Int32) (v2 : Int32) (M0 : Mem) (r : Int32) (hf : f_X7_isNewNext v1 v2 M0 = some r) : k_Met l yX7_isNewNext cX7_isNewNext 4 (some .boolean) 0 0 G shC [.ref (G.2.1 32), .int v1, .int v2] M0 (k_Qi G shC r M0) := by
  refine k_Met_of (by decide) hap (Nat.le_of_ble_eq_true rfl) ?_
  intro p e s m args below meth c C hr hlk
  have C : Cx p s m args c cX7_isNewNext RX7 4 G shC := C
  have k_b2 : ∀ (n2 : Nat) (v1 : Int32) (v2 : Int32) (v3 : Int32), f_X7_isNewNext_b2 M0 n2 v1 v2 v3 = some r → K p l e (k_rm 0 0) s m args below meth c 4 G shC (MQ below (k_Qi G shC r M0) args s 0 0 (k_A G shC.length)) 2 [(0, .ref (G.2.1 32)), (1, .int v1), (2, .int v2), (3, .int v3)] [] M0 := by
    intro n2
    induction n2 with
    | zero => intro v1 v2 v3 hf; simp [f_X7_isNewNext_b2] at hf
    | succ n2 ih2 =>
      intro v1 v2 v3 hf
      unfold f_X7_isNewNext_b2 at hf
      refine k_iload_n C dX7_isNewNext_2 3 rfl ?_
      refine k_iload_n C dX7_isNewNext_3 2 rfl ?_
      rcases ite_g hf with ⟨c1, hf⟩ | ⟨c1, hf⟩
      · refine k_icmp_ge_t C dX7_isNewNext_4 (tgt := 40) (by decide) c1 ?_
        refine k_iconst C dX7_isNewNext_40 (v := (1 : Int32)) rfl ?_
        exact k_zret C hr hlk (gZ1.trans (congrArg some (Option.some.inj hf))) rfl dX7_isNewNext_41
      · refine k_icmp_ge_f C dX7_isNewNext_4 (tgt := 40) (by decide) c1 ?_
        refine k_aload_n C dX7_isNewNext_7 0 rfl ?_
        refine k_getr C shC_32 (j := 3) rfl FL_X7_9 dX7_isNewNext_8 ?_
        refine k_iload_n C dX7_isNewNext_11 3 rfl ?_
        refine k_bipush C dX7_isNewNext_12 (v := (8 : Int32)) rfl ?_
        refine k_imul C dX7_isNewNext_14 ?_
        refine k_iload_n C dX7_isNewNext_15 1 rfl ?_
        refine k_iadd C dX7_isNewNext_16 ?_
        obtain ⟨t2, ht2, hf⟩ := bnd hf
        refine k_iald C shC_33 ht2 dX7_isNewNext_17 ?_
        refine k_aload_n C dX7_isNewNext_18 0 rfl ?_
        refine k_getr C shC_32 (j := 3) rfl FL_X7_9 dX7_isNewNext_19 ?_
        refine k_iload_n C dX7_isNewNext_22 2 rfl ?_
        refine k_bipush C dX7_isNewNext_23 (v := (8 : Int32)) rfl ?_
        refine k_imul C dX7_isNewNext_25 ?_
        refine k_iload_n C dX7_isNewNext_26 1 rfl ?_
        refine k_iadd C dX7_isNewNext_27 ?_
        obtain ⟨t3, ht3, hf⟩ := bnd hf
        refine k_iald C shC_33 ht3 dX7_isNewNext_28 ?_
        rcases ite_g hf with ⟨c4, hf⟩ | ⟨c4, hf⟩
        · refine k_icmp_ne_f C dX7_isNewNext_29 (tgt := 34) (by decide) c4 ?_
          refine k_iconst C dX7_isNewNext_32 (v := (0 : Int32)) rfl ?_
          exact k_zret C hr hlk (gZ0.trans (congrArg some (Option.some.inj hf))) rfl dX7_isNewNext_33
        · refine k_icmp_ne_t C dX7_isNewNext_29 (tgt := 34) (by decide) c4 ?_
          refine k_iinc C dX7_isNewNext_34 3 rfl (v := (v3 + (1 : Int32))) rfl (by decide) [1, 2, 3, 0] (lv' := [(0, .ref (G.2.1 32)), (1, .int v1), (2, .int v2), (3, .int (v3 + (1 : Int32)))]) rfl ?_
          refine k_goto C dX7_isNewNext_37 (tgt := 2) (by decide) ?_
          exact ih2 v1 v2 (v3 + (1 : Int32)) hf
  unfold f_X7_isNewNext at hf
  refine k_lv (lv' := [(0, .ref (G.2.1 32)), (1, .int v1), (2, .int v2)]) [0, 1, 2] rfl ?_
  refine k_iconst C dX7_isNewNext_0 (v := (0 : Int32)) rfl ?_
  refine k_istore_n C dX7_isNewNext_1 (by decide) [1, 2, 3, 0] (lv' := [(0, .ref (G.2.1 32)), (1, .int v1), (2, .int v2), (3, .int (0 : Int32))]) rfl ?_
  exact k_b2 FU v1 v2 (0 : Int32) hf
theorem dX7_unlikeNexts_0 : decode cX7_unlikeNexts 0 = .ok (.iconst 0, 1) := by decide +kernel
theorem dX7_unlikeNexts_1 : decode cX7_unlikeNexts 1 = .ok (.istore_n 3, 1) := by decide +kernel
theorem dX7_unlikeNexts_2 : decode cX7_unlikeNexts 2 = .ok (.iconst 0, 1) := by decide +kernel
theorem dX7_unlikeNexts_3 : decode cX7_unlikeNexts 3 = .ok (.istore 4, 2) := by decide +kernel
theorem dX7_unlikeNexts_5 : decode cX7_unlikeNexts 5 = .ok (.iload 4, 2) := by decide +kernel
theorem dX7_unlikeNexts_7 : decode cX7_unlikeNexts 7 = .ok (.iload_n 2, 1) := by decide +kernel
theorem dX7_unlikeNexts_8 : decode cX7_unlikeNexts 8 = .ok (.if_icmp .ge 22, 3) := by decide +kernel
theorem dX7_unlikeNexts_11 : decode cX7_unlikeNexts 11 = .ok (.aload_n 0, 1) := by decide +kernel
theorem dX7_unlikeNexts_12 : decode cX7_unlikeNexts 12 = .ok (.iload_n 1, 1) := by decide +kernel
theorem dX7_unlikeNexts_13 : decode cX7_unlikeNexts 13 = .ok (.iload 4, 2) := by decide +kernel
theorem dX7_unlikeNexts_15 : decode cX7_unlikeNexts 15 = .ok (.invokevirtual 88, 3) := by decide +kernel
theorem dX7_unlikeNexts_18 : decode cX7_unlikeNexts 18 = .ok (.ifCond .eq 6, 3) := by decide +kernel
theorem dX7_unlikeNexts_21 : decode cX7_unlikeNexts 21 = .ok (.iinc 3 1, 3) := by decide +kernel
theorem dX7_unlikeNexts_24 : decode cX7_unlikeNexts 24 = .ok (.iinc 4 1, 3) := by decide +kernel
theorem dX7_unlikeNexts_27 : decode cX7_unlikeNexts 27 = .ok (.goto (-22), 3) := by decide +kernel
theorem dX7_unlikeNexts_30 : decode cX7_unlikeNexts 30 = .ok (.iload_n 3, 1) := by decide +kernel
theorem dX7_unlikeNexts_31 : decode cX7_unlikeNexts 31 = .ok (.ireturn, 1) := by decide +kernel
set_option maxRecDepth 100000 in
set_option maxHeartbeats 4000000 in
theorem c_X7_unlikeNexts {l : Launch} {G : Gx} (hap : k_ap G shC.length) (v1 : Int32) (v2 : Int32) (M0 : Mem) (r : Int32) (hf : f_X7_unlikeNexts v1 v2 M0 = some r) : k_Met l yX7_unlikeNexts cX7_unlikeNexts 5 (some .int) 1 23 G shC [.ref (G.2.1 32), .int v1, .int v2] M0 (k_Qi G shC r M0) := by
  refine k_Met_of (by decide) hap (Nat.le_of_ble_eq_true rfl) ?_
  intro p e s m args below meth c C hr hlk
  have C : Cx p s m args c cX7_unlikeNexts RX7 5 G shC := C
  have k_b5 : ∀ (n5 : Nat) (v1 : Int32) (v2 : Int32) (v3 : Int32) (v4 : Int32), f_X7_unlikeNexts_b5 M0 n5 v1 v2 v3 v4 = some r → K p l e (k_rm 1 23) s m args below meth c 5 G shC (MQ below (k_Qi G shC r M0) args s 0 0 (k_A G shC.length)) 5 [(0, .ref (G.2.1 32)), (1, .int v1), (2, .int v2), (3, .int v3), (4, .int v4)] [] M0 := by
    intro n5
    induction n5 with
    | zero => intro v1 v2 v3 v4 hf; simp [f_X7_unlikeNexts_b5] at hf
    | succ n5 ih5 =>
      intro v1 v2 v3 v4 hf
      unfold f_X7_unlikeNexts_b5 at hf
      refine k_iload C dX7_unlikeNexts_5 4 rfl ?_
      refine k_iload_n C dX7_unlikeNexts_7 2 rfl ?_
      rcases ite_g hf with ⟨c2, hf⟩ | ⟨c2, hf⟩
      · refine k_icmp_ge_t C dX7_unlikeNexts_8 (tgt := 30) (by decide) c2 ?_
        refine k_iload_n C dX7_unlikeNexts_30 3 rfl ?_
        exact k_iret C hr hlk (Option.some.inj hf) rfl dX7_unlikeNexts_31
      · refine k_icmp_ge_f C dX7_unlikeNexts_8 (tgt := 30) (by decide) c2 ?_
        refine k_aload_n C dX7_unlikeNexts_11 0 rfl ?_
        refine k_iload_n C dX7_unlikeNexts_12 1 rfl ?_
        refine k_iload C dX7_unlikeNexts_13 4 rfl ?_
        obtain ⟨t3, ht3, hf⟩ := bnd hf
        refine k_callVi C (As := [.int v1, .int v4]) (c_X7_isNewNext hap v1 v4 M0 t3 ht3) ML_X7_isNewNext wd_853 shC_32 rfl rfl rfl ⟨Nat.le_of_ble_eq_true rfl, Nat.le_of_ble_eq_true rfl⟩ (Nat.le_of_ble_eq_true rfl) dX7_unlikeNexts_15 ?_
        rcases ite_g hf with ⟨c4, hf⟩ | ⟨c4, hf⟩
        · refine k_if_eq_t C dX7_unlikeNexts_18 (tgt := 24) (by decide) c4 ?_
          refine k_iinc C dX7_unlikeNexts_24 4 rfl (v := (v4 + (1 : Int32))) rfl (by decide) [1, 2, 3, 4, 0] (lv' := [(0, .ref (G.2.1 32)), (1, .int v1), (2, .int v2), (3, .int v3), (4, .int (v4 + (1 : Int32)))]) rfl ?_
          refine k_goto C dX7_unlikeNexts_27 (tgt := 5) (by decide) ?_
          exact ih5 v1 v2 v3 (v4 + (1 : Int32)) hf
        · refine k_if_eq_f C dX7_unlikeNexts_18 (tgt := 24) (by decide) c4 ?_
          refine k_iinc C dX7_unlikeNexts_21 3 rfl (v := (v3 + (1 : Int32))) rfl (by decide) [1, 2, 3, 0, 4] (lv' := [(0, .ref (G.2.1 32)), (1, .int v1), (2, .int v2), (3, .int (v3 + (1 : Int32))), (4, .int v4)]) rfl ?_
          refine k_iinc C dX7_unlikeNexts_24 4 rfl (v := (v4 + (1 : Int32))) rfl (by decide) [1, 2, 3, 4, 0] (lv' := [(0, .ref (G.2.1 32)), (1, .int v1), (2, .int v2), (3, .int (v3 + (1 : Int32))), (4, .int (v4 + (1 : Int32)))]) rfl ?_
          refine k_goto C dX7_unlikeNexts_27 (tgt := 5) (by decide) ?_
          exact ih5 v1 v2 (v3 + (1 : Int32)) (v4 + (1 : Int32)) hf
  unfold f_X7_unlikeNexts at hf
  refine k_lv (lv' := [(0, .ref (G.2.1 32)), (1, .int v1), (2, .int v2)]) [0, 1, 2] rfl ?_
  refine k_iconst C dX7_unlikeNexts_0 (v := (0 : Int32)) rfl ?_
  refine k_istore_n C dX7_unlikeNexts_1 (by decide) [1, 2, 3, 0] (lv' := [(0, .ref (G.2.1 32)), (1, .int v1), (2, .int v2), (3, .int (0 : Int32))]) rfl ?_
  refine k_iconst C dX7_unlikeNexts_2 (v := (0 : Int32)) rfl ?_
  refine k_istore C dX7_unlikeNexts_3 (by decide) [1, 2, 3, 4, 0] (lv' := [(0, .ref (G.2.1 32)), (1, .int v1), (2, .int v2), (3, .int (0 : Int32)), (4, .int (0 : Int32))]) rfl ?_
  exact k_b5 FU v1 v2 (0 : Int32) (0 : Int32) hf
theorem dX7_mostTelling_0 : decode cX7_mostTelling 0 = .ok (.aload_n 0, 1) := by decide +kernel
theorem dX7_mostTelling_1 : decode cX7_mostTelling 1 = .ok (.invokevirtual 71, 3) := by decide +kernel
theorem dX7_mostTelling_4 : decode cX7_mostTelling 4 = .ok (.istore_n 2, 1) := by decide +kernel
theorem dX7_mostTelling_5 : decode cX7_mostTelling 5 = .ok (.bipush (-9), 2) := by decide +kernel
theorem dX7_mostTelling_7 : decode cX7_mostTelling 7 = .ok (.istore_n 3, 1) := by decide +kernel
theorem dX7_mostTelling_8 : decode cX7_mostTelling 8 = .ok (.iconst 0, 1) := by decide +kernel
theorem dX7_mostTelling_9 : decode cX7_mostTelling 9 = .ok (.istore 4, 2) := by decide +kernel
theorem dX7_mostTelling_11 : decode cX7_mostTelling 11 = .ok (.iconst 0, 1) := by decide +kernel
theorem dX7_mostTelling_12 : decode cX7_mostTelling 12 = .ok (.istore 5, 2) := by decide +kernel
theorem dX7_mostTelling_14 : decode cX7_mostTelling 14 = .ok (.iload 5, 2) := by decide +kernel
theorem dX7_mostTelling_16 : decode cX7_mostTelling 16 = .ok (.aload_n 0, 1) := by decide +kernel
theorem dX7_mostTelling_17 : decode cX7_mostTelling 17 = .ok (.getfield 15, 3) := by decide +kernel
theorem dX7_mostTelling_20 : decode cX7_mostTelling 20 = .ok (.getfield 75, 3) := by decide +kernel
theorem dX7_mostTelling_23 : decode cX7_mostTelling 23 = .ok (.if_icmp .ge 32, 3) := by decide +kernel
theorem dX7_mostTelling_26 : decode cX7_mostTelling 26 = .ok (.aload_n 0, 1) := by decide +kernel
theorem dX7_mostTelling_27 : decode cX7_mostTelling 27 = .ok (.iload 5, 2) := by decide +kernel
theorem dX7_mostTelling_29 : decode cX7_mostTelling 29 = .ok (.iload_n 2, 1) := by decide +kernel
theorem dX7_mostTelling_30 : decode cX7_mostTelling 30 = .ok (.invokevirtual 78, 3) := by decide +kernel
theorem dX7_mostTelling_33 : decode cX7_mostTelling 33 = .ok (.istore 6, 2) := by decide +kernel
theorem dX7_mostTelling_35 : decode cX7_mostTelling 35 = .ok (.iload 6, 2) := by decide +kernel
theorem dX7_mostTelling_37 : decode cX7_mostTelling 37 = .ok (.iload 4, 2) := by decide +kernel
theorem dX7_mostTelling_39 : decode cX7_mostTelling 39 = .ok (.if_icmp .le 10, 3) := by decide +kernel
theorem dX7_mostTelling_42 : decode cX7_mostTelling 42 = .ok (.iload 6, 2) := by decide +kernel
theorem dX7_mostTelling_44 : decode cX7_mostTelling 44 = .ok (.istore 4, 2) := by decide +kernel
theorem dX7_mostTelling_46 : decode cX7_mostTelling 46 = .ok (.iload 5, 2) := by decide +kernel
theorem dX7_mostTelling_48 : decode cX7_mostTelling 48 = .ok (.istore_n 3, 1) := by decide +kernel
theorem dX7_mostTelling_49 : decode cX7_mostTelling 49 = .ok (.iinc 5 1, 3) := by decide +kernel
theorem dX7_mostTelling_52 : decode cX7_mostTelling 52 = .ok (.goto (-38), 3) := by decide +kernel
theorem dX7_mostTelling_55 : decode cX7_mostTelling 55 = .ok (.iload_n 1, 1) := by decide +kernel
theorem dX7_mostTelling_56 : decode cX7_mostTelling 56 = .ok (.ifCond .eq 9, 3) := by decide +kernel
theorem dX7_mostTelling_59 : decode cX7_mostTelling 59 = .ok (.iload_n 3, 1) := by decide +kernel
theorem dX7_mostTelling_60 : decode cX7_mostTelling 60 = .ok (.bipush (-9), 2) := by decide +kernel
theorem dX7_mostTelling_62 : decode cX7_mostTelling 62 = .ok (.if_icmp .ne 7, 3) := by decide +kernel
theorem dX7_mostTelling_65 : decode cX7_mostTelling 65 = .ok (.iload_n 3, 1) := by decide +kernel
theorem dX7_mostTelling_66 : decode cX7_mostTelling 66 = .ok (.goto 5, 3) := by decide +kernel
theorem dX7_mostTelling_69 : decode cX7_mostTelling 69 = .ok (.iload 4, 2) := by decide +kernel
theorem dX7_mostTelling_71 : decode cX7_mostTelling 71 = .ok (.ireturn, 1) := by decide +kernel
set_option maxRecDepth 100000 in
set_option maxHeartbeats 4000000 in
theorem c_X7_mostTelling {l : Launch} {G : Gx} (hap : k_ap G shC.length) (v1 : Int32) (M0 : Mem) (r : Int32 × Mem) (hf : f_X7_mostTelling v1 M0 = some r) : k_Met l yX7_mostTelling cX7_mostTelling 7 (some .int) 5 114 G shC [.ref (G.2.1 32), .int v1] M0 (k_Qi G shC r.1 r.2) := by
  refine k_Met_of (by decide) hap (Nat.le_of_ble_eq_true rfl) ?_
  intro p e s m args below meth c C hr hlk
  have C : Cx p s m args c cX7_mostTelling RX7 7 G shC := C
  have k_b14 : ∀ (n14 : Nat) (v1 : Int32) (v2 : Int32) (v3 : Int32) (v4 : Int32) (v5 : Int32) (M : Mem), f_X7_mostTelling_b14 n14 v1 v2 v3 v4 v5 M = some r → K p l e (k_rm 5 114) s m args below meth c 7 G shC (MQ below (k_Qi G shC r.1 r.2) args s 0 0 (k_A G shC.length)) 14 [(0, .ref (G.2.1 32)), (1, .int v1), (2, .int v2), (3, .int v3), (4, .int v4), (5, .int v5)] [] M := by
    intro n14
    induction n14 with
    | zero => intro v1 v2 v3 v4 v5 M hf; simp [f_X7_mostTelling_b14] at hf
    | succ n14 ih14 =>
      intro v1 v2 v3 v4 v5 M hf
      unfold f_X7_mostTelling_b14 at hf
      refine k_iload C dX7_mostTelling_14 5 rfl ?_
      refine k_aload_n C dX7_mostTelling_16 0 rfl ?_
      refine k_getr C shC_32 (j := 0) rfl FL_X7_15 dX7_mostTelling_17 ?_
      refine k_geti C shC_1 (j := 4) rfl FL_X7_75 dX7_mostTelling_20 ?_
      rcases ite_g hf with ⟨c3, hf⟩ | ⟨c3, hf⟩
      · refine k_icmp_ge_t C dX7_mostTelling_23 (tgt := 55) (by decide) c3 ?_
        refine k_iload_n C dX7_mostTelling_55 1 rfl ?_
        rcases ite_g hf with ⟨c4, hf⟩ | ⟨c4, hf⟩
        · refine k_if_eq_t C dX7_mostTelling_56 (tgt := 65) (by decide) c4 ?_
          refine k_iload_n C dX7_mostTelling_65 3 rfl ?_
          refine k_goto C dX7_mostTelling_66 (tgt := 71) (by decide) ?_
          exact k_iret C hr hlk (prf hf) (prs hf) dX7_mostTelling_71
        · refine k_if_eq_f C dX7_mostTelling_56 (tgt := 65) (by decide) c4 ?_
          refine k_iload_n C dX7_mostTelling_59 3 rfl ?_
          refine k_bipush C dX7_mostTelling_60 (v := (-9 : Int32)) rfl ?_
          rcases ite_g hf with ⟨c5, hf⟩ | ⟨c5, hf⟩
          · refine k_icmp_ne_f C dX7_mostTelling_62 (tgt := 69) (by decide) c5 ?_
            refine k_iload_n C dX7_mostTelling_65 3 rfl ?_
            refine k_goto C dX7_mostTelling_66 (tgt := 71) (by decide) ?_
            exact k_iret C hr hlk (prf hf) (prs hf) dX7_mostTelling_71
          · refine k_icmp_ne_t C dX7_mostTelling_62 (tgt := 69) (by decide) c5 ?_
            refine k_iload C dX7_mostTelling_69 4 rfl ?_
            exact k_iret C hr hlk (prf hf) (prs hf) dX7_mostTelling_71
      · refine k_icmp_ge_f C dX7_mostTelling_23 (tgt := 55) (by decide) c3 ?_
        refine k_aload_n C dX7_mostTelling_26 0 rfl ?_
        refine k_iload C dX7_mostTelling_27 5 rfl ?_
        refine k_iload_n C dX7_mostTelling_29 2 rfl ?_
        obtain ⟨t6, ht6, hf⟩ := bnd hf
        refine k_callVi C (As := [.int v5, .int v2]) (c_X7_unlikeNexts hap v5 v2 M t6 ht6) ML_X7_unlikeNexts wd_849 shC_32 rfl rfl rfl ⟨Nat.le_of_ble_eq_true rfl, Nat.le_of_ble_eq_true rfl⟩ (Nat.le_of_ble_eq_true rfl) dX7_mostTelling_30 ?_
        refine k_istore C dX7_mostTelling_33 (by decide) [1, 2, 3, 4, 5, 6, 0] (lv' := [(0, .ref (G.2.1 32)), (1, .int v1), (2, .int v2), (3, .int v3), (4, .int v4), (5, .int v5), (6, .int t6)]) rfl ?_
        refine k_iload C dX7_mostTelling_35 6 rfl ?_
        refine k_iload C dX7_mostTelling_37 4 rfl ?_
        rcases ite_g hf with ⟨c7, hf⟩ | ⟨c7, hf⟩
        · refine k_icmp_le_t C dX7_mostTelling_39 (tgt := 49) (by decide) c7 ?_
          refine k_iinc C dX7_mostTelling_49 5 rfl (v := (v5 + (1 : Int32))) rfl (by decide) [1, 2, 3, 4, 5, 0] (lv' := [(0, .ref (G.2.1 32)), (1, .int v1), (2, .int v2), (3, .int v3), (4, .int v4), (5, .int (v5 + (1 : Int32)))]) rfl ?_
          refine k_goto C dX7_mostTelling_52 (tgt := 14) (by decide) ?_
          exact ih14 v1 v2 v3 v4 (v5 + (1 : Int32)) M hf
        · refine k_icmp_le_f C dX7_mostTelling_39 (tgt := 49) (by decide) c7 ?_
          refine k_iload C dX7_mostTelling_42 6 rfl ?_
          refine k_istore C dX7_mostTelling_44 (by decide) [1, 2, 3, 0, 5] (lv' := [(0, .ref (G.2.1 32)), (1, .int v1), (2, .int v2), (4, .int t6), (5, .int v5)]) rfl ?_
          refine k_iload C dX7_mostTelling_46 4 rfl ?_
          refine k_istore_n C dX7_mostTelling_48 (by decide) [1, 2, 3, 0, 4, 5] (lv' := [(0, .ref (G.2.1 32)), (1, .int v1), (2, .int v2), (3, .int v5), (4, .int t6), (5, .int v5)]) rfl ?_
          refine k_iinc C dX7_mostTelling_49 5 rfl (v := (v5 + (1 : Int32))) rfl (by decide) [1, 2, 3, 4, 5, 0] (lv' := [(0, .ref (G.2.1 32)), (1, .int v1), (2, .int v2), (3, .int v5), (4, .int t6), (5, .int (v5 + (1 : Int32)))]) rfl ?_
          refine k_goto C dX7_mostTelling_52 (tgt := 14) (by decide) ?_
          exact ih14 v1 v2 v5 t6 (v5 + (1 : Int32)) M hf
  unfold f_X7_mostTelling at hf
  refine k_lv (lv' := [(0, .ref (G.2.1 32)), (1, .int v1)]) [0, 1] rfl ?_
  refine k_aload_n C dX7_mostTelling_0 0 rfl ?_
  obtain ⟨⟨t1, M1⟩, ht1, hf⟩ := bnd hf
  replace hf := bp_s hf
  refine k_callVi C (As := []) (c_X7_gatherNexts hap M0 (t1, M1) ht1) ML_X7_gatherNexts wd_840 shC_32 rfl rfl rfl ⟨Nat.le_of_ble_eq_true rfl, Nat.le_of_ble_eq_true rfl⟩ (Nat.le_of_ble_eq_true rfl) dX7_mostTelling_1 ?_
  refine k_istore_n C dX7_mostTelling_4 (by decide) [1, 2, 0] (lv' := [(0, .ref (G.2.1 32)), (1, .int v1), (2, .int t1)]) rfl ?_
  refine k_bipush C dX7_mostTelling_5 (v := (-9 : Int32)) rfl ?_
  refine k_istore_n C dX7_mostTelling_7 (by decide) [1, 2, 3, 0] (lv' := [(0, .ref (G.2.1 32)), (1, .int v1), (2, .int t1), (3, .int (-9 : Int32))]) rfl ?_
  refine k_iconst C dX7_mostTelling_8 (v := (0 : Int32)) rfl ?_
  refine k_istore C dX7_mostTelling_9 (by decide) [1, 2, 3, 4, 0] (lv' := [(0, .ref (G.2.1 32)), (1, .int v1), (2, .int t1), (3, .int (-9 : Int32)), (4, .int (0 : Int32))]) rfl ?_
  refine k_iconst C dX7_mostTelling_11 (v := (0 : Int32)) rfl ?_
  refine k_istore C dX7_mostTelling_12 (by decide) [1, 2, 3, 4, 5, 0] (lv' := [(0, .ref (G.2.1 32)), (1, .int v1), (2, .int t1), (3, .int (-9 : Int32)), (4, .int (0 : Int32)), (5, .int (0 : Int32))]) rfl ?_
  exact k_b14 FU v1 t1 (-9 : Int32) (0 : Int32) (0 : Int32) M1 hf
theorem dX8_nextDue_0 : decode cX8_nextDue 0 = .ok (.aload_n 0, 1) := by decide +kernel
theorem dX8_nextDue_1 : decode cX8_nextDue 1 = .ok (.invokevirtual 75, 3) := by decide +kernel
theorem dX8_nextDue_4 : decode cX8_nextDue 4 = .ok (.aload_n 0, 1) := by decide +kernel
theorem dX8_nextDue_5 : decode cX8_nextDue 5 = .ok (.iload_n 1, 1) := by decide +kernel
theorem dX8_nextDue_6 : decode cX8_nextDue 6 = .ok (.invokevirtual 78, 3) := by decide +kernel
theorem dX8_nextDue_9 : decode cX8_nextDue 9 = .ok (.ireturn, 1) := by decide +kernel
set_option maxRecDepth 100000 in
set_option maxHeartbeats 4000000 in
theorem c_X8_nextDue {l : Launch} {G : Gx} (hap : k_ap G shC.length) (v1 : Int32) (M0 : Mem) (r : Int32 × Mem) (hf : f_X8_nextDue v1 M0 = some r) : k_Met l yX8_nextDue cX8_nextDue 2 (some .int) 5 108 G shC [.ref (G.2.1 25), .int v1] M0 (k_Qi G shC r.1 r.2) := by
  refine k_Met_of (by decide) hap (Nat.le_of_ble_eq_true rfl) ?_
  intro p e s m args below meth c C hr hlk
  have C : Cx p s m args c cX8_nextDue RX8 2 G shC := C
  unfold f_X8_nextDue at hf
  refine k_lv (lv' := [(0, .ref (G.2.1 25)), (1, .int v1)]) [0, 1] rfl ?_
  refine k_aload_n C dX8_nextDue_0 0 rfl ?_
  obtain ⟨M1, hM1, hf⟩ := bnd hf
  refine k_callVv C (As := []) (c_X8_openBehindLog hap M0 M1 hM1) ML_X8_openBehindLog wd_559 shC_25 rfl rfl rfl ⟨Nat.le_of_ble_eq_true rfl, Nat.le_of_ble_eq_true rfl⟩ (Nat.le_of_ble_eq_true rfl) dX8_nextDue_1 ?_
  refine k_aload_n C dX8_nextDue_4 0 rfl ?_
  refine k_iload_n C dX8_nextDue_5 1 rfl ?_
  obtain ⟨t2, ht2, hf⟩ := bnd hf
  refine k_callVi C (As := [.int v1]) (c_X8_dueNow hap v1 M1 t2 ht2) ML_X8_dueNow wd_604 shC_25 rfl rfl rfl ⟨Nat.le_of_ble_eq_true rfl, Nat.le_of_ble_eq_true rfl⟩ (Nat.le_of_ble_eq_true rfl) dX8_nextDue_6 ?_
  exact k_iret C hr hlk (prf hf) (prs hf) dX8_nextDue_9
theorem dX8_dearestNext_0 : decode cX8_dearestNext 0 = .ok (.bipush (-9), 2) := by decide +kernel
theorem dX8_dearestNext_2 : decode cX8_dearestNext 2 = .ok (.istore_n 1, 1) := by decide +kernel
theorem dX8_dearestNext_3 : decode cX8_dearestNext 3 = .ok (.iconst (-1), 1) := by decide +kernel
theorem dX8_dearestNext_4 : decode cX8_dearestNext 4 = .ok (.istore_n 2, 1) := by decide +kernel
theorem dX8_dearestNext_5 : decode cX8_dearestNext 5 = .ok (.iconst 0, 1) := by decide +kernel
theorem dX8_dearestNext_6 : decode cX8_dearestNext 6 = .ok (.istore_n 3, 1) := by decide +kernel
theorem dX8_dearestNext_7 : decode cX8_dearestNext 7 = .ok (.iload_n 3, 1) := by decide +kernel
theorem dX8_dearestNext_8 : decode cX8_dearestNext 8 = .ok (.aload_n 0, 1) := by decide +kernel
theorem dX8_dearestNext_9 : decode cX8_dearestNext 9 = .ok (.getfield 18, 3) := by decide +kernel
theorem dX8_dearestNext_12 : decode cX8_dearestNext 12 = .ok (.getfield 35, 3) := by decide +kernel
theorem dX8_dearestNext_15 : decode cX8_dearestNext 15 = .ok (.if_icmp .ge 27, 3) := by decide +kernel
theorem dX8_dearestNext_18 : decode cX8_dearestNext 18 = .ok (.aload_n 0, 1) := by decide +kernel
theorem dX8_dearestNext_19 : decode cX8_dearestNext 19 = .ok (.iload_n 3, 1) := by decide +kernel
theorem dX8_dearestNext_20 : decode cX8_dearestNext 20 = .ok (.invokevirtual 78, 3) := by decide +kernel
theorem dX8_dearestNext_23 : decode cX8_dearestNext 23 = .ok (.istore 4, 2) := by decide +kernel
theorem dX8_dearestNext_25 : decode cX8_dearestNext 25 = .ok (.iload 4, 2) := by decide +kernel
theorem dX8_dearestNext_27 : decode cX8_dearestNext 27 = .ok (.iload_n 2, 1) := by decide +kernel
theorem dX8_dearestNext_28 : decode cX8_dearestNext 28 = .ok (.if_icmp .le 8, 3) := by decide +kernel
theorem dX8_dearestNext_31 : decode cX8_dearestNext 31 = .ok (.iload 4, 2) := by decide +kernel
theorem dX8_dearestNext_33 : decode cX8_dearestNext 33 = .ok (.istore_n 2, 1) := by decide +kernel
theorem dX8_dearestNext_34 : decode cX8_dearestNext 34 = .ok (.iload_n 3, 1) := by decide +kernel
theorem dX8_dearestNext_35 : decode cX8_dearestNext 35 = .ok (.istore_n 1, 1) := by decide +kernel
theorem dX8_dearestNext_36 : decode cX8_dearestNext 36 = .ok (.iinc 3 1, 3) := by decide +kernel
theorem dX8_dearestNext_39 : decode cX8_dearestNext 39 = .ok (.goto (-32), 3) := by decide +kernel
theorem dX8_dearestNext_42 : decode cX8_dearestNext 42 = .ok (.iload_n 1, 1) := by decide +kernel
theorem dX8_dearestNext_43 : decode cX8_dearestNext 43 = .ok (.ireturn, 1) := by decide +kernel
set_option maxRecDepth 100000 in
set_option maxHeartbeats 4000000 in
theorem c_X8_dearestNext {l : Launch} {G : Gx} (hap : k_ap G shC.length) (M0 : Mem) (r : Int32) (hf : f_X8_dearestNext M0 = some r) : k_Met l yX8_dearestNext cX8_dearestNext 5 (some .int) 2 44 G shC [.ref (G.2.1 25)] M0 (k_Qi G shC r M0) := by
  refine k_Met_of (by decide) hap (Nat.le_of_ble_eq_true rfl) ?_
  intro p e s m args below meth c C hr hlk
  have C : Cx p s m args c cX8_dearestNext RX8 5 G shC := C
  have k_b7 : ∀ (n7 : Nat) (v1 : Int32) (v2 : Int32) (v3 : Int32), f_X8_dearestNext_b7 M0 n7 v1 v2 v3 = some r → K p l e (k_rm 2 44) s m args below meth c 5 G shC (MQ below (k_Qi G shC r M0) args s 0 0 (k_A G shC.length)) 7 [(0, .ref (G.2.1 25)), (1, .int v1), (2, .int v2), (3, .int v3)] [] M0 := by
    intro n7
    induction n7 with
    | zero => intro v1 v2 v3 hf; simp [f_X8_dearestNext_b7] at hf
    | succ n7 ih7 =>
      intro v1 v2 v3 hf
      unfold f_X8_dearestNext_b7 at hf
      refine k_iload_n C dX8_dearestNext_7 3 rfl ?_
      refine k_aload_n C dX8_dearestNext_8 0 rfl ?_
      refine k_getr C shC_25 (j := 0) rfl FL_X8_18 dX8_dearestNext_9 ?_
      refine k_geti C shC_1 (j := 4) rfl FL_X8_35 dX8_dearestNext_12 ?_
      rcases ite_g hf with ⟨c2, hf⟩ | ⟨c2, hf⟩
      · refine k_icmp_ge_t C dX8_dearestNext_15 (tgt := 42) (by decide) c2 ?_
        refine k_iload_n C dX8_dearestNext_42 1 rfl ?_
        exact k_iret C hr hlk (Option.some.inj hf) rfl dX8_dearestNext_43
      · refine k_icmp_ge_f C dX8_dearestNext_15 (tgt := 42) (by decide) c2 ?_
        refine k_aload_n C dX8_dearestNext_18 0 rfl ?_
        refine k_iload_n C dX8_dearestNext_19 3 rfl ?_
        obtain ⟨t3, ht3, hf⟩ := bnd hf
        refine k_callVi C (As := [.int v3]) (c_X8_dueNow hap v3 M0 t3 ht3) ML_X8_dueNow wd_604 shC_25 rfl rfl rfl ⟨Nat.le_of_ble_eq_true rfl, Nat.le_of_ble_eq_true rfl⟩ (Nat.le_of_ble_eq_true rfl) dX8_dearestNext_20 ?_
        refine k_istore C dX8_dearestNext_23 (by decide) [1, 2, 3, 4, 0] (lv' := [(0, .ref (G.2.1 25)), (1, .int v1), (2, .int v2), (3, .int v3), (4, .int t3)]) rfl ?_
        refine k_iload C dX8_dearestNext_25 4 rfl ?_
        refine k_iload_n C dX8_dearestNext_27 2 rfl ?_
        rcases ite_g hf with ⟨c4, hf⟩ | ⟨c4, hf⟩
        · refine k_icmp_le_t C dX8_dearestNext_28 (tgt := 36) (by decide) c4 ?_
          refine k_iinc C dX8_dearestNext_36 3 rfl (v := (v3 + (1 : Int32))) rfl (by decide) [1, 2, 3, 0] (lv' := [(0, .ref (G.2.1 25)), (1, .int v1), (2, .int v2), (3, .int (v3 + (1 : Int32)))]) rfl ?_
          refine k_goto C dX8_dearestNext_39 (tgt := 7) (by decide) ?_
          exact ih7 v1 v2 (v3 + (1 : Int32)) hf
        · refine k_icmp_le_f C dX8_dearestNext_28 (tgt := 36) (by decide) c4 ?_
          refine k_iload C dX8_dearestNext_31 4 rfl ?_
          refine k_istore_n C dX8_dearestNext_33 (by decide) [1, 0, 3] (lv' := [(0, .ref (G.2.1 25)), (2, .int t3), (3, .int v3)]) rfl ?_
          refine k_iload_n C dX8_dearestNext_34 2 rfl ?_
          refine k_istore_n C dX8_dearestNext_35 (by decide) [1, 0, 2, 3] (lv' := [(0, .ref (G.2.1 25)), (1, .int v3), (2, .int t3), (3, .int v3)]) rfl ?_
          refine k_iinc C dX8_dearestNext_36 3 rfl (v := (v3 + (1 : Int32))) rfl (by decide) [1, 2, 3, 0] (lv' := [(0, .ref (G.2.1 25)), (1, .int v3), (2, .int t3), (3, .int (v3 + (1 : Int32)))]) rfl ?_
          refine k_goto C dX8_dearestNext_39 (tgt := 7) (by decide) ?_
          exact ih7 v3 t3 (v3 + (1 : Int32)) hf
  unfold f_X8_dearestNext at hf
  refine k_lv (lv' := [(0, .ref (G.2.1 25))]) [0] rfl ?_
  refine k_bipush C dX8_dearestNext_0 (v := (-9 : Int32)) rfl ?_
  refine k_istore_n C dX8_dearestNext_2 (by decide) [1, 0] (lv' := [(0, .ref (G.2.1 25)), (1, .int (-9 : Int32))]) rfl ?_
  refine k_iconst C dX8_dearestNext_3 (v := (-1 : Int32)) rfl ?_
  refine k_istore_n C dX8_dearestNext_4 (by decide) [1, 2, 0] (lv' := [(0, .ref (G.2.1 25)), (1, .int (-9 : Int32)), (2, .int (-1 : Int32))]) rfl ?_
  refine k_iconst C dX8_dearestNext_5 (v := (0 : Int32)) rfl ?_
  refine k_istore_n C dX8_dearestNext_6 (by decide) [1, 2, 3, 0] (lv' := [(0, .ref (G.2.1 25)), (1, .int (-9 : Int32)), (2, .int (-1 : Int32)), (3, .int (0 : Int32))]) rfl ?_
  exact k_b7 FU (-9 : Int32) (-1 : Int32) (0 : Int32) hf
theorem dX9_add_0 : decode cX9_add 0 = .ok (.aload_n 0, 1) := by decide +kernel
theorem dX9_add_1 : decode cX9_add 1 = .ok (.getfield 15, 3) := by decide +kernel
theorem dX9_add_4 : decode cX9_add 4 = .ok (.bipush 12, 2) := by decide +kernel
theorem dX9_add_6 : decode cX9_add 6 = .ok (.if_icmp .ge 20, 3) := by decide +kernel
theorem dX9_add_9 : decode cX9_add 9 = .ok (.aload_n 0, 1) := by decide +kernel
theorem dX9_add_10 : decode cX9_add 10 = .ok (.getfield 9, 3) := by decide +kernel
theorem dX9_add_13 : decode cX9_add 13 = .ok (.aload_n 0, 1) := by decide +kernel
theorem dX9_add_14 : decode cX9_add 14 = .ok (.dup, 1) := by decide +kernel
theorem dX9_add_15 : decode cX9_add 15 = .ok (.getfield 15, 3) := by decide +kernel
theorem dX9_add_18 : decode cX9_add 18 = .ok (.dup_x1, 1) := by decide +kernel
theorem dX9_add_19 : decode cX9_add 19 = .ok (.iconst 1, 1) := by decide +kernel
theorem dX9_add_20 : decode cX9_add 20 = .ok (.iadd, 1) := by decide +kernel
theorem dX9_add_21 : decode cX9_add 21 = .ok (.putfield 15, 3) := by decide +kernel
theorem dX9_add_24 : decode cX9_add 24 = .ok (.iload_n 1, 1) := by decide +kernel
theorem dX9_add_25 : decode cX9_add 25 = .ok (.iastore, 1) := by decide +kernel
theorem dX9_add_26 : decode cX9_add 26 = .ok (.aload_n 0, 1) := by decide +kernel
theorem dX9_add_27 : decode cX9_add 27 = .ok (.getfield 15, 3) := by decide +kernel
theorem dX9_add_30 : decode cX9_add 30 = .ok (.ireturn, 1) := by decide +kernel
set_option maxRecDepth 100000 in
set_option maxHeartbeats 4000000 in
theorem c_X9_add {l : Launch} {G : Gx} (hap : k_ap G shC.length) (v1 : Int32) (M0 : Mem) (r : Int32 × Mem) (hf : f_X9_add v1 M0 = some r) : k_Met l yX9_add cX9_add 2 (some .int) 0 0 G shC [.ref (G.2.1 23), .int v1] M0 (k_Qi G shC r.1 r.2) := by
  refine k_Met_of (by decide) hap (Nat.le_of_ble_eq_true rfl) ?_
  intro p e s m args below meth c C hr hlk
  have C : Cx p s m args c cX9_add RX9 2 G shC := C
  unfold f_X9_add at hf
  refine k_lv (lv' := [(0, .ref (G.2.1 23)), (1, .int v1)]) [0, 1] rfl ?_
  refine k_aload_n C dX9_add_0 0 rfl ?_
  refine k_geti C shC_23 (j := 1) rfl FL_X9_15 dX9_add_1 ?_
  refine k_bipush C dX9_add_4 (v := (12 : Int32)) rfl ?_
  rcases ite_g hf with ⟨c1, hf⟩ | ⟨c1, hf⟩
  · refine k_icmp_ge_t C dX9_add_6 (tgt := 26) (by decide) c1 ?_
    refine k_aload_n C dX9_add_26 0 rfl ?_
    refine k_geti C shC_23 (j := 1) rfl FL_X9_15 dX9_add_27 ?_
    exact k_iret C hr hlk (prf hf) (prs hf) dX9_add_30
  · refine k_icmp_ge_f C dX9_add_6 (tgt := 26) (by decide) c1 ?_
    refine k_aload_n C dX9_add_9 0 rfl ?_
    refine k_getr C shC_23 (j := 0) rfl FL_X9_9 dX9_add_10 ?_
    refine k_aload_n C dX9_add_13 0 rfl ?_
    refine k_dup C dX9_add_14 rfl ?_
    refine k_geti C shC_23 (j := 1) rfl FL_X9_15 dX9_add_15 ?_
    refine k_dup_x1 C dX9_add_18 rfl rfl ?_
    refine k_iconst C dX9_add_19 (v := (1 : Int32)) rfl ?_
    refine k_iadd C dX9_add_20 ?_
    refine k_put C shC_23 (j := 1) rfl FL_X9_15 FW_X9_1 dX9_add_21 ?_
    refine k_iload_n C dX9_add_24 1 rfl ?_
    obtain ⟨M2, hM2, hf⟩ := bnd hf
    refine k_iast C shC_24 hM2 dX9_add_25 ?_
    refine k_aload_n C dX9_add_26 0 rfl ?_
    refine k_geti C shC_23 (j := 1) rfl FL_X9_15 dX9_add_27 ?_
    exact k_iret C hr hlk (prf hf) (prs hf) dX9_add_30
theorem dX9_firstNotIn_0 : decode cX9_firstNotIn 0 = .ok (.iconst 0, 1) := by decide +kernel
theorem dX9_firstNotIn_1 : decode cX9_firstNotIn 1 = .ok (.istore_n 2, 1) := by decide +kernel
theorem dX9_firstNotIn_2 : decode cX9_firstNotIn 2 = .ok (.iload_n 2, 1) := by decide +kernel
theorem dX9_firstNotIn_3 : decode cX9_firstNotIn 3 = .ok (.aload_n 0, 1) := by decide +kernel
theorem dX9_firstNotIn_4 : decode cX9_firstNotIn 4 = .ok (.getfield 15, 3) := by decide +kernel
theorem dX9_firstNotIn_7 : decode cX9_firstNotIn 7 = .ok (.if_icmp .ge 34, 3) := by decide +kernel
theorem dX9_firstNotIn_10 : decode cX9_firstNotIn 10 = .ok (.aload_n 1, 1) := by decide +kernel
theorem dX9_firstNotIn_11 : decode cX9_firstNotIn 11 = .ok (.iload_n 2, 1) := by decide +kernel
theorem dX9_firstNotIn_12 : decode cX9_firstNotIn 12 = .ok (.invokevirtual 19, 3) := by decide +kernel
theorem dX9_firstNotIn_15 : decode cX9_firstNotIn 15 = .ok (.ifCond .eq 18, 3) := by decide +kernel
theorem dX9_firstNotIn_18 : decode cX9_firstNotIn 18 = .ok (.aload_n 1, 1) := by decide +kernel
theorem dX9_firstNotIn_19 : decode cX9_firstNotIn 19 = .ok (.getfield 25, 3) := by decide +kernel
theorem dX9_firstNotIn_22 : decode cX9_firstNotIn 22 = .ok (.iload_n 2, 1) := by decide +kernel
theorem dX9_firstNotIn_23 : decode cX9_firstNotIn 23 = .ok (.iaload, 1) := by decide +kernel
theorem dX9_firstNotIn_24 : decode cX9_firstNotIn 24 = .ok (.aload_n 0, 1) := by decide +kernel
theorem dX9_firstNotIn_25 : decode cX9_firstNotIn 25 = .ok (.getfield 9, 3) := by decide +kernel
theorem dX9_firstNotIn_28 : decode cX9_firstNotIn 28 = .ok (.iload_n 2, 1) := by decide +kernel
theorem dX9_firstNotIn_29 : decode cX9_firstNotIn 29 = .ok (.iaload, 1) := by decide +kernel
theorem dX9_firstNotIn_30 : decode cX9_firstNotIn 30 = .ok (.if_icmp .eq 5, 3) := by decide +kernel
theorem dX9_firstNotIn_33 : decode cX9_firstNotIn 33 = .ok (.iload_n 2, 1) := by decide +kernel
theorem dX9_firstNotIn_34 : decode cX9_firstNotIn 34 = .ok (.ireturn, 1) := by decide +kernel
theorem dX9_firstNotIn_35 : decode cX9_firstNotIn 35 = .ok (.iinc 2 1, 3) := by decide +kernel
theorem dX9_firstNotIn_38 : decode cX9_firstNotIn 38 = .ok (.goto (-36), 3) := by decide +kernel
theorem dX9_firstNotIn_41 : decode cX9_firstNotIn 41 = .ok (.bipush (-9), 2) := by decide +kernel
theorem dX9_firstNotIn_43 : decode cX9_firstNotIn 43 = .ok (.ireturn, 1) := by decide +kernel
set_option maxRecDepth 100000 in
set_option maxHeartbeats 4000000 in
theorem c_X9_firstNotIn {l : Launch} {G : Gx} (hap : k_ap G shC.length) (M0 : Mem) (r : Int32) (hf : f_X9_firstNotIn M0 = some r) : k_Met l yX9_firstNotIn cX9_firstNotIn 3 (some .int) 1 21 G shC [.ref (G.2.1 23), .ref (G.2.1 1)] M0 (k_Qi G shC r M0) := by
  refine k_Met_of (by decide) hap (Nat.le_of_ble_eq_true rfl) ?_
  intro p e s m args below meth c C hr hlk
  have C : Cx p s m args c cX9_firstNotIn RX9 3 G shC := C
  have k_b2 : ∀ (n2 : Nat) (v2 : Int32), f_X9_firstNotIn_b2 M0 n2 v2 = some r → K p l e (k_rm 1 21) s m args below meth c 3 G shC (MQ below (k_Qi G shC r M0) args s 0 0 (k_A G shC.length)) 2 [(0, .ref (G.2.1 23)), (1, .ref (G.2.1 1)), (2, .int v2)] [] M0 := by
    intro n2
    induction n2 with
    | zero => intro v2 hf; simp [f_X9_firstNotIn_b2] at hf
    | succ n2 ih2 =>
      intro v2 hf
      unfold f_X9_firstNotIn_b2 at hf
      refine k_iload_n C dX9_firstNotIn_2 2 rfl ?_
      refine k_aload_n C dX9_firstNotIn_3 0 rfl ?_
      refine k_geti C shC_23 (j := 1) rfl FL_X9_15 dX9_firstNotIn_4 ?_
      rcases ite_g hf with ⟨c1, hf⟩ | ⟨c1, hf⟩
      · refine k_icmp_ge_t C dX9_firstNotIn_7 (tgt := 41) (by decide) c1 ?_
        refine k_bipush C dX9_firstNotIn_41 (v := (-9 : Int32)) rfl ?_
        exact k_iret C hr hlk (Option.some.inj hf) rfl dX9_firstNotIn_43
      · refine k_icmp_ge_f C dX9_firstNotIn_7 (tgt := 41) (by decide) c1 ?_
        refine k_aload_n C dX9_firstNotIn_10 1 rfl ?_
        refine k_iload_n C dX9_firstNotIn_11 2 rfl ?_
        refine k_callVi C (As := [.int v2]) (c_X0_hasPlace hap 1 BD_1 v2 M0 _ rfl) ML_X0_hasPlace wd_1229 shC_1 rfl rfl rfl ⟨Nat.le_of_ble_eq_true rfl, Nat.le_of_ble_eq_true rfl⟩ (Nat.le_of_ble_eq_true rfl) dX9_firstNotIn_12 ?_
        rcases ite_g hf with ⟨c2, hf⟩ | ⟨c2, hf⟩
        · refine k_if_eq_t C dX9_firstNotIn_15 (tgt := 33) (by decide) c2 ?_
          refine k_iload_n C dX9_firstNotIn_33 2 rfl ?_
          exact k_iret C hr hlk (Option.some.inj hf) rfl dX9_firstNotIn_34
        · refine k_if_eq_f C dX9_firstNotIn_15 (tgt := 33) (by decide) c2 ?_
          refine k_aload_n C dX9_firstNotIn_18 1 rfl ?_
          refine k_getr C shC_1 (j := 3) rfl FL_X9_25 dX9_firstNotIn_19 ?_
          refine k_iload_n C dX9_firstNotIn_22 2 rfl ?_
          obtain ⟨t3, ht3, hf⟩ := bnd hf
          refine k_iald C shC_5 ht3 dX9_firstNotIn_23 ?_
          refine k_aload_n C dX9_firstNotIn_24 0 rfl ?_
          refine k_getr C shC_23 (j := 0) rfl FL_X9_9 dX9_firstNotIn_25 ?_
          refine k_iload_n C dX9_firstNotIn_28 2 rfl ?_
          obtain ⟨t4, ht4, hf⟩ := bnd hf
          refine k_iald C shC_24 ht4 dX9_firstNotIn_29 ?_
          rcases ite_g hf with ⟨c5, hf⟩ | ⟨c5, hf⟩
          · refine k_icmp_eq_t C dX9_firstNotIn_30 (tgt := 35) (by decide) c5 ?_
            refine k_iinc C dX9_firstNotIn_35 2 rfl (v := (v2 + (1 : Int32))) rfl (by decide) [1, 2, 0] (lv' := [(0, .ref (G.2.1 23)), (1, .ref (G.2.1 1)), (2, .int (v2 + (1 : Int32)))]) rfl ?_
            refine k_goto C dX9_firstNotIn_38 (tgt := 2) (by decide) ?_
            exact ih2 (v2 + (1 : Int32)) hf
          · refine k_icmp_eq_f C dX9_firstNotIn_30 (tgt := 35) (by decide) c5 ?_
            refine k_iload_n C dX9_firstNotIn_33 2 rfl ?_
            exact k_iret C hr hlk (Option.some.inj hf) rfl dX9_firstNotIn_34
  unfold f_X9_firstNotIn at hf
  refine k_lv (lv' := [(0, .ref (G.2.1 23)), (1, .ref (G.2.1 1))]) [0, 1] rfl ?_
  refine k_iconst C dX9_firstNotIn_0 (v := (0 : Int32)) rfl ?_
  refine k_istore_n C dX9_firstNotIn_1 (by decide) [1, 2, 0] (lv' := [(0, .ref (G.2.1 23)), (1, .ref (G.2.1 1)), (2, .int (0 : Int32))]) rfl ?_
  exact k_b2 FU (0 : Int32) hf
theorem dX10_forget_0 : decode cX10_forget 0 = .ok (.aload_n 0, 1) := by decide +kernel
theorem dX10_forget_1 : decode cX10_forget 1 = .ok (.iconst 0, 1) := by decide +kernel
theorem dX10_forget_2 : decode cX10_forget 2 = .ok (.putfield 24, 3) := by decide +kernel
theorem dX10_forget_5 : decode cX10_forget 5 = .ok (.return_, 1) := by decide +kernel
set_option maxRecDepth 100000 in
set_option maxHeartbeats 4000000 in
theorem c_X10_forget {l : Launch} {G : Gx} (hap : k_ap G shC.length) (M0 : Mem) (r : Mem) (hf : f_X10_forget M0 = some r) : k_Met l yX10_forget cX10_forget 1 none 0 0 G shC [.ref (G.2.1 11)] M0 (k_Qv G shC r) := by
  refine k_Met_of (by decide) hap (Nat.le_of_ble_eq_true rfl) ?_
  intro p e s m args below meth c C hr hlk
  have C : Cx p s m args c cX10_forget RX10 1 G shC := C
  unfold f_X10_forget at hf
  refine k_lv (lv' := [(0, .ref (G.2.1 11))]) [0] rfl ?_
  refine k_aload_n C dX10_forget_0 0 rfl ?_
  refine k_iconst C dX10_forget_1 (v := (0 : Int32)) rfl ?_
  refine k_put C shC_11 (j := 4) rfl FL_X10_24 FW_X10_4 dX10_forget_2 ?_
  exact k_vret C hr hlk (Option.some.inj hf) dX10_forget_5
theorem dX10_dropOldest_0 : decode cX10_dropOldest 0 = .ok (.aload_n 0, 1) := by decide +kernel
theorem dX10_dropOldest_1 : decode cX10_dropOldest 1 = .ok (.bipush 7, 2) := by decide +kernel
theorem dX10_dropOldest_3 : decode cX10_dropOldest 3 = .ok (.putfield 24, 3) := by decide +kernel
theorem dX10_dropOldest_6 : decode cX10_dropOldest 6 = .ok (.aload_n 0, 1) := by decide +kernel
theorem dX10_dropOldest_7 : decode cX10_dropOldest 7 = .ok (.getfield 9, 3) := by decide +kernel
theorem dX10_dropOldest_10 : decode cX10_dropOldest 10 = .ok (.iconst 1, 1) := by decide +kernel
theorem dX10_dropOldest_11 : decode cX10_dropOldest 11 = .ok (.aload_n 0, 1) := by decide +kernel
theorem dX10_dropOldest_12 : decode cX10_dropOldest 12 = .ok (.getfield 9, 3) := by decide +kernel
theorem dX10_dropOldest_15 : decode cX10_dropOldest 15 = .ok (.iconst 0, 1) := by decide +kernel
theorem dX10_dropOldest_16 : decode cX10_dropOldest 16 = .ok (.aload_n 0, 1) := by decide +kernel
theorem dX10_dropOldest_17 : decode cX10_dropOldest 17 = .ok (.getfield 24, 3) := by decide +kernel
theorem dX10_dropOldest_20 : decode cX10_dropOldest 20 = .ok (.invokestatic 31, 3) := by decide +kernel
theorem dX10_dropOldest_23 : decode cX10_dropOldest 23 = .ok (.aload_n 0, 1) := by decide +kernel
theorem dX10_dropOldest_24 : decode cX10_dropOldest 24 = .ok (.getfield 15, 3) := by decide +kernel
theorem dX10_dropOldest_27 : decode cX10_dropOldest 27 = .ok (.iconst 1, 1) := by decide +kernel
theorem dX10_dropOldest_28 : decode cX10_dropOldest 28 = .ok (.aload_n 0, 1) := by decide +kernel
theorem dX10_dropOldest_29 : decode cX10_dropOldest 29 = .ok (.getfield 15, 3) := by decide +kernel
theorem dX10_dropOldest_32 : decode cX10_dropOldest 32 = .ok (.iconst 0, 1) := by decide +kernel
theorem dX10_dropOldest_33 : decode cX10_dropOldest 33 = .ok (.aload_n 0, 1) := by decide +kernel
theorem dX10_dropOldest_34 : decode cX10_dropOldest 34 = .ok (.getfield 24, 3) := by decide +kernel
theorem dX10_dropOldest_37 : decode cX10_dropOldest 37 = .ok (.invokestatic 31, 3) := by decide +kernel
theorem dX10_dropOldest_40 : decode cX10_dropOldest 40 = .ok (.aload_n 0, 1) := by decide +kernel
theorem dX10_dropOldest_41 : decode cX10_dropOldest 41 = .ok (.getfield 18, 3) := by decide +kernel
theorem dX10_dropOldest_44 : decode cX10_dropOldest 44 = .ok (.iconst 1, 1) := by decide +kernel
theorem dX10_dropOldest_45 : decode cX10_dropOldest 45 = .ok (.aload_n 0, 1) := by decide +kernel
theorem dX10_dropOldest_46 : decode cX10_dropOldest 46 = .ok (.getfield 18, 3) := by decide +kernel
theorem dX10_dropOldest_49 : decode cX10_dropOldest 49 = .ok (.iconst 0, 1) := by decide +kernel
theorem dX10_dropOldest_50 : decode cX10_dropOldest 50 = .ok (.aload_n 0, 1) := by decide +kernel
theorem dX10_dropOldest_51 : decode cX10_dropOldest 51 = .ok (.getfield 24, 3) := by decide +kernel
theorem dX10_dropOldest_54 : decode cX10_dropOldest 54 = .ok (.invokestatic 31, 3) := by decide +kernel
theorem dX10_dropOldest_57 : decode cX10_dropOldest 57 = .ok (.aload_n 0, 1) := by decide +kernel
theorem dX10_dropOldest_58 : decode cX10_dropOldest 58 = .ok (.getfield 21, 3) := by decide +kernel
theorem dX10_dropOldest_61 : decode cX10_dropOldest 61 = .ok (.iconst 1, 1) := by decide +kernel
theorem dX10_dropOldest_62 : decode cX10_dropOldest 62 = .ok (.aload_n 0, 1) := by decide +kernel
theorem dX10_dropOldest_63 : decode cX10_dropOldest 63 = .ok (.getfield 21, 3) := by decide +kernel
theorem dX10_dropOldest_66 : decode cX10_dropOldest 66 = .ok (.iconst 0, 1) := by decide +kernel
theorem dX10_dropOldest_67 : decode cX10_dropOldest 67 = .ok (.aload_n 0, 1) := by decide +kernel
theorem dX10_dropOldest_68 : decode cX10_dropOldest 68 = .ok (.getfield 24, 3) := by decide +kernel
theorem dX10_dropOldest_71 : decode cX10_dropOldest 71 = .ok (.invokestatic 31, 3) := by decide +kernel
theorem dX10_dropOldest_74 : decode cX10_dropOldest 74 = .ok (.return_, 1) := by decide +kernel
set_option maxRecDepth 100000 in
set_option maxHeartbeats 4000000 in
theorem c_X10_dropOldest {l : Launch} {G : Gx} (hap : k_ap G shC.length) (M0 : Mem) (r : Mem) (hf : f_X10_dropOldest M0 = some r) : k_Met l yX10_dropOldest cX10_dropOldest 1 none 1 40 G shC [.ref (G.2.1 11)] M0 (k_Qv G shC r) := by
  refine k_Met_of (by decide) hap (Nat.le_of_ble_eq_true rfl) ?_
  intro p e s m args below meth c C hr hlk
  have C : Cx p s m args c cX10_dropOldest RX10 1 G shC := C
  unfold f_X10_dropOldest at hf
  refine k_lv (lv' := [(0, .ref (G.2.1 11))]) [0] rfl ?_
  refine k_aload_n C dX10_dropOldest_0 0 rfl ?_
  refine k_bipush C dX10_dropOldest_1 (v := (7 : Int32)) rfl ?_
  refine k_put C shC_11 (j := 4) rfl FL_X10_24 FW_X10_4 dX10_dropOldest_3 ?_
  refine k_aload_n C dX10_dropOldest_6 0 rfl ?_
  refine k_getr C shC_11 (j := 0) rfl FL_X10_9 dX10_dropOldest_7 ?_
  refine k_iconst C dX10_dropOldest_10 (v := (1 : Int32)) rfl ?_
  refine k_aload_n C dX10_dropOldest_11 0 rfl ?_
  refine k_getr C shC_11 (j := 0) rfl FL_X10_9 dX10_dropOldest_12 ?_
  refine k_iconst C dX10_dropOldest_15 (v := (0 : Int32)) rfl ?_
  refine k_aload_n C dX10_dropOldest_16 0 rfl ?_
  refine k_geti C shC_11 (j := 4) rfl FL_X10_24 dX10_dropOldest_17 ?_
  obtain ⟨M1, hM1, hf⟩ := bnd hf
  refine k_cpy C W_cpy wd_617 ⟨Nat.le_of_ble_eq_true rfl, Nat.le_of_ble_eq_true rfl⟩ shC_12 shC_12 hM1 dX10_dropOldest_20 ?_
  refine k_aload_n C dX10_dropOldest_23 0 rfl ?_
  refine k_getr C shC_11 (j := 1) rfl FL_X10_15 dX10_dropOldest_24 ?_
  refine k_iconst C dX10_dropOldest_27 (v := (1 : Int32)) rfl ?_
  refine k_aload_n C dX10_dropOldest_28 0 rfl ?_
  refine k_getr C shC_11 (j := 1) rfl FL_X10_15 dX10_dropOldest_29 ?_
  refine k_iconst C dX10_dropOldest_32 (v := (0 : Int32)) rfl ?_
  refine k_aload_n C dX10_dropOldest_33 0 rfl ?_
  refine k_geti C shC_11 (j := 4) rfl FL_X10_24 dX10_dropOldest_34 ?_
  obtain ⟨M2, hM2, hf⟩ := bnd hf
  refine k_cpy C W_cpy wd_617 ⟨Nat.le_of_ble_eq_true rfl, Nat.le_of_ble_eq_true rfl⟩ shC_13 shC_13 hM2 dX10_dropOldest_37 ?_
  refine k_aload_n C dX10_dropOldest_40 0 rfl ?_
  refine k_getr C shC_11 (j := 2) rfl FL_X10_18 dX10_dropOldest_41 ?_
  refine k_iconst C dX10_dropOldest_44 (v := (1 : Int32)) rfl ?_
  refine k_aload_n C dX10_dropOldest_45 0 rfl ?_
  refine k_getr C shC_11 (j := 2) rfl FL_X10_18 dX10_dropOldest_46 ?_
  refine k_iconst C dX10_dropOldest_49 (v := (0 : Int32)) rfl ?_
  refine k_aload_n C dX10_dropOldest_50 0 rfl ?_
  refine k_geti C shC_11 (j := 4) rfl FL_X10_24 dX10_dropOldest_51 ?_
  obtain ⟨M3, hM3, hf⟩ := bnd hf
  refine k_cpy C W_cpy wd_617 ⟨Nat.le_of_ble_eq_true rfl, Nat.le_of_ble_eq_true rfl⟩ shC_14 shC_14 hM3 dX10_dropOldest_54 ?_
  refine k_aload_n C dX10_dropOldest_57 0 rfl ?_
  refine k_getr C shC_11 (j := 3) rfl FL_X10_21 dX10_dropOldest_58 ?_
  refine k_iconst C dX10_dropOldest_61 (v := (1 : Int32)) rfl ?_
  refine k_aload_n C dX10_dropOldest_62 0 rfl ?_
  refine k_getr C shC_11 (j := 3) rfl FL_X10_21 dX10_dropOldest_63 ?_
  refine k_iconst C dX10_dropOldest_66 (v := (0 : Int32)) rfl ?_
  refine k_aload_n C dX10_dropOldest_67 0 rfl ?_
  refine k_geti C shC_11 (j := 4) rfl FL_X10_24 dX10_dropOldest_68 ?_
  obtain ⟨M4, hM4, hf⟩ := bnd hf
  refine k_cpy C W_cpy wd_617 ⟨Nat.le_of_ble_eq_true rfl, Nat.le_of_ble_eq_true rfl⟩ shC_15 shC_15 hM4 dX10_dropOldest_71 ?_
  exact k_vret C hr hlk (Option.some.inj hf) dX10_dropOldest_74
theorem dX10_keep_0 : decode cX10_keep 0 = .ok (.aload_n 0, 1) := by decide +kernel
theorem dX10_keep_1 : decode cX10_keep 1 = .ok (.getfield 24, 3) := by decide +kernel
theorem dX10_keep_4 : decode cX10_keep 4 = .ok (.bipush 8, 2) := by decide +kernel
theorem dX10_keep_6 : decode cX10_keep 6 = .ok (.if_icmp .lt 7, 3) := by decide +kernel
theorem dX10_keep_9 : decode cX10_keep 9 = .ok (.aload_n 0, 1) := by decide +kernel
theorem dX10_keep_10 : decode cX10_keep 10 = .ok (.invokevirtual 28, 3) := by decide +kernel
theorem dX10_keep_13 : decode cX10_keep 13 = .ok (.aload_n 0, 1) := by decide +kernel
theorem dX10_keep_14 : decode cX10_keep 14 = .ok (.getfield 9, 3) := by decide +kernel
theorem dX10_keep_17 : decode cX10_keep 17 = .ok (.aload_n 0, 1) := by decide +kernel
theorem dX10_keep_18 : decode cX10_keep 18 = .ok (.getfield 24, 3) := by decide +kernel
theorem dX10_keep_21 : decode cX10_keep 21 = .ok (.iload_n 1, 1) := by decide +kernel
theorem dX10_keep_22 : decode cX10_keep 22 = .ok (.iastore, 1) := by decide +kernel
theorem dX10_keep_23 : decode cX10_keep 23 = .ok (.aload_n 0, 1) := by decide +kernel
theorem dX10_keep_24 : decode cX10_keep 24 = .ok (.getfield 15, 3) := by decide +kernel
theorem dX10_keep_27 : decode cX10_keep 27 = .ok (.aload_n 0, 1) := by decide +kernel
theorem dX10_keep_28 : decode cX10_keep 28 = .ok (.getfield 24, 3) := by decide +kernel
theorem dX10_keep_31 : decode cX10_keep 31 = .ok (.iload_n 2, 1) := by decide +kernel
theorem dX10_keep_32 : decode cX10_keep 32 = .ok (.iastore, 1) := by decide +kernel
theorem dX10_keep_33 : decode cX10_keep 33 = .ok (.aload_n 0, 1) := by decide +kernel
theorem dX10_keep_34 : decode cX10_keep 34 = .ok (.getfield 18, 3) := by decide +kernel
theorem dX10_keep_37 : decode cX10_keep 37 = .ok (.aload_n 0, 1) := by decide +kernel
theorem dX10_keep_38 : decode cX10_keep 38 = .ok (.getfield 24, 3) := by decide +kernel
theorem dX10_keep_41 : decode cX10_keep 41 = .ok (.iload_n 3, 1) := by decide +kernel
theorem dX10_keep_42 : decode cX10_keep 42 = .ok (.iastore, 1) := by decide +kernel
theorem dX10_keep_43 : decode cX10_keep 43 = .ok (.aload_n 0, 1) := by decide +kernel
theorem dX10_keep_44 : decode cX10_keep 44 = .ok (.getfield 21, 3) := by decide +kernel
theorem dX10_keep_47 : decode cX10_keep 47 = .ok (.aload_n 0, 1) := by decide +kernel
theorem dX10_keep_48 : decode cX10_keep 48 = .ok (.getfield 24, 3) := by decide +kernel
theorem dX10_keep_51 : decode cX10_keep 51 = .ok (.iload 4, 2) := by decide +kernel
theorem dX10_keep_53 : decode cX10_keep 53 = .ok (.iastore, 1) := by decide +kernel
theorem dX10_keep_54 : decode cX10_keep 54 = .ok (.aload_n 0, 1) := by decide +kernel
theorem dX10_keep_55 : decode cX10_keep 55 = .ok (.dup, 1) := by decide +kernel
theorem dX10_keep_56 : decode cX10_keep 56 = .ok (.getfield 24, 3) := by decide +kernel
theorem dX10_keep_59 : decode cX10_keep 59 = .ok (.iconst 1, 1) := by decide +kernel
theorem dX10_keep_60 : decode cX10_keep 60 = .ok (.iadd, 1) := by decide +kernel
theorem dX10_keep_61 : decode cX10_keep 61 = .ok (.putfield 24, 3) := by decide +kernel
theorem dX10_keep_64 : decode cX10_keep 64 = .ok (.return_, 1) := by decide +kernel
set_option maxRecDepth 100000 in
set_option maxHeartbeats 4000000 in
theorem c_X10_keep {l : Launch} {G : Gx} (hap : k_ap G shC.length) (v1 : Int32) (v2 : Int32) (v3 : Int32) (v4 : Int32) (M0 : Mem) (r : Mem) (hf : f_X10_keep v1 v2 v3 v4 M0 = some r) : k_Met l yX10_keep cX10_keep 5 none 2 60 G shC [.ref (G.2.1 11), .int v1, .int v2, .int v3, .int v4] M0 (k_Qv G shC r) := by
  refine k_Met_of (by decide) hap (Nat.le_of_ble_eq_true rfl) ?_
  intro p e s m args below meth c C hr hlk
  have C : Cx p s m args c cX10_keep RX10 5 G shC := C
  have k_b13 : ∀ (v1 : Int32) (v2 : Int32) (v3 : Int32) (v4 : Int32) (M : Mem), f_X10_keep_b13 v1 v2 v3 v4 M = some r → K p l e (k_rm 2 60) s m args below meth c 5 G shC (MQ below (k_Qv G shC r) args s 0 0 (k_A G shC.length)) 13 [(0, .ref (G.2.1 11)), (1, .int v1), (2, .int v2), (3, .int v3), (4, .int v4)] [] M := by
    intro v1 v2 v3 v4 M hf
    unfold f_X10_keep_b13 at hf
    refine k_aload_n C dX10_keep_13 0 rfl ?_
    refine k_getr C shC_11 (j := 0) rfl FL_X10_9 dX10_keep_14 ?_
    refine k_aload_n C dX10_keep_17 0 rfl ?_
    refine k_geti C shC_11 (j := 4) rfl FL_X10_24 dX10_keep_18 ?_
    refine k_iload_n C dX10_keep_21 1 rfl ?_
    obtain ⟨M3, hM3, hf⟩ := bnd hf
    refine k_iast C shC_12 hM3 dX10_keep_22 ?_
    refine k_aload_n C dX10_keep_23 0 rfl ?_
    refine k_getr C shC_11 (j := 1) rfl FL_X10_15 dX10_keep_24 ?_
    refine k_aload_n C dX10_keep_27 0 rfl ?_
    refine k_geti C shC_11 (j := 4) rfl FL_X10_24 dX10_keep_28 ?_
    refine k_iload_n C dX10_keep_31 2 rfl ?_
    obtain ⟨M4, hM4, hf⟩ := bnd hf
    refine k_iast C shC_13 hM4 dX10_keep_32 ?_
    refine k_aload_n C dX10_keep_33 0 rfl ?_
    refine k_getr C shC_11 (j := 2) rfl FL_X10_18 dX10_keep_34 ?_
    refine k_aload_n C dX10_keep_37 0 rfl ?_
    refine k_geti C shC_11 (j := 4) rfl FL_X10_24 dX10_keep_38 ?_
    refine k_iload_n C dX10_keep_41 3 rfl ?_
    obtain ⟨M5, hM5, hf⟩ := bnd hf
    refine k_iast C shC_14 hM5 dX10_keep_42 ?_
    refine k_aload_n C dX10_keep_43 0 rfl ?_
    refine k_getr C shC_11 (j := 3) rfl FL_X10_21 dX10_keep_44 ?_
    refine k_aload_n C dX10_keep_47 0 rfl ?_
    refine k_geti C shC_11 (j := 4) rfl FL_X10_24 dX10_keep_48 ?_
    refine k_iload C dX10_keep_51 4 rfl ?_
    obtain ⟨M6, hM6, hf⟩ := bnd hf
    refine k_iast C shC_15 hM6 dX10_keep_53 ?_
    refine k_aload_n C dX10_keep_54 0 rfl ?_
    refine k_dup C dX10_keep_55 rfl ?_
    refine k_geti C shC_11 (j := 4) rfl FL_X10_24 dX10_keep_56 ?_
    refine k_iconst C dX10_keep_59 (v := (1 : Int32)) rfl ?_
    refine k_iadd C dX10_keep_60 ?_
    refine k_put C shC_11 (j := 4) rfl FL_X10_24 FW_X10_4 dX10_keep_61 ?_
    exact k_vret C hr hlk (Option.some.inj hf) dX10_keep_64
  unfold f_X10_keep at hf
  refine k_lv (lv' := [(0, .ref (G.2.1 11)), (1, .int v1), (2, .int v2), (3, .int v3), (4, .int v4)]) [0, 1, 2, 3, 4] rfl ?_
  refine k_aload_n C dX10_keep_0 0 rfl ?_
  refine k_geti C shC_11 (j := 4) rfl FL_X10_24 dX10_keep_1 ?_
  refine k_bipush C dX10_keep_4 (v := (8 : Int32)) rfl ?_
  rcases ite_g hf with ⟨c2, hf⟩ | ⟨c2, hf⟩
  · refine k_icmp_lt_t C dX10_keep_6 (tgt := 13) (by decide) c2 ?_
    exact k_b13 v1 v2 v3 v4 M0 hf
  · refine k_icmp_lt_f C dX10_keep_6 (tgt := 13) (by decide) c2 ?_
    refine k_aload_n C dX10_keep_9 0 rfl ?_
    obtain ⟨M7, hM7, hf⟩ := bnd hf
    refine k_callVv C (As := []) (c_X10_dropOldest hap M0 M7 hM7) ML_X10_dropOldest wd_613 shC_11 rfl rfl rfl ⟨Nat.le_of_ble_eq_true rfl, Nat.le_of_ble_eq_true rfl⟩ (Nat.le_of_ble_eq_true rfl) dX10_keep_10 ?_
    exact k_b13 v1 v2 v3 v4 M7 hf
theorem dX10_undoLatest_0 : decode cX10_undoLatest 0 = .ok (.aload_n 0, 1) := by decide +kernel
theorem dX10_undoLatest_1 : decode cX10_undoLatest 1 = .ok (.getfield 24, 3) := by decide +kernel
theorem dX10_undoLatest_4 : decode cX10_undoLatest 4 = .ok (.ifCond .gt 5, 3) := by decide +kernel
theorem dX10_undoLatest_7 : decode cX10_undoLatest 7 = .ok (.iconst 0, 1) := by decide +kernel
theorem dX10_undoLatest_8 : decode cX10_undoLatest 8 = .ok (.ireturn, 1) := by decide +kernel
theorem dX10_undoLatest_9 : decode cX10_undoLatest 9 = .ok (.aload_n 0, 1) := by decide +kernel
theorem dX10_undoLatest_10 : decode cX10_undoLatest 10 = .ok (.dup, 1) := by decide +kernel
theorem dX10_undoLatest_11 : decode cX10_undoLatest 11 = .ok (.getfield 24, 3) := by decide +kernel
theorem dX10_undoLatest_14 : decode cX10_undoLatest 14 = .ok (.iconst 1, 1) := by decide +kernel
theorem dX10_undoLatest_15 : decode cX10_undoLatest 15 = .ok (.isub, 1) := by decide +kernel
theorem dX10_undoLatest_16 : decode cX10_undoLatest 16 = .ok (.putfield 24, 3) := by decide +kernel
theorem dX10_undoLatest_19 : decode cX10_undoLatest 19 = .ok (.aload_n 0, 1) := by decide +kernel
theorem dX10_undoLatest_20 : decode cX10_undoLatest 20 = .ok (.getfield 9, 3) := by decide +kernel
theorem dX10_undoLatest_23 : decode cX10_undoLatest 23 = .ok (.aload_n 0, 1) := by decide +kernel
theorem dX10_undoLatest_24 : decode cX10_undoLatest 24 = .ok (.getfield 24, 3) := by decide +kernel
theorem dX10_undoLatest_27 : decode cX10_undoLatest 27 = .ok (.iaload, 1) := by decide +kernel
theorem dX10_undoLatest_28 : decode cX10_undoLatest 28 = .ok (.tableswitch 104 0 2 #[28, 45, 79], 28) := by decide +kernel
theorem dX10_undoLatest_56 : decode cX10_undoLatest 56 = .ok (.aload_n 1, 1) := by decide +kernel
theorem dX10_undoLatest_57 : decode cX10_undoLatest 57 = .ok (.iconst 0, 1) := by decide +kernel
theorem dX10_undoLatest_58 : decode cX10_undoLatest 58 = .ok (.aload_n 1, 1) := by decide +kernel
theorem dX10_undoLatest_59 : decode cX10_undoLatest 59 = .ok (.getfield 37, 3) := by decide +kernel
theorem dX10_undoLatest_62 : decode cX10_undoLatest 62 = .ok (.iconst 1, 1) := by decide +kernel
theorem dX10_undoLatest_63 : decode cX10_undoLatest 63 = .ok (.isub, 1) := by decide +kernel
theorem dX10_undoLatest_64 : decode cX10_undoLatest 64 = .ok (.invokestatic 42, 3) := by decide +kernel
theorem dX10_undoLatest_67 : decode cX10_undoLatest 67 = .ok (.putfield 37, 3) := by decide +kernel
theorem dX10_undoLatest_70 : decode cX10_undoLatest 70 = .ok (.goto 84, 3) := by decide +kernel
theorem dX10_undoLatest_73 : decode cX10_undoLatest 73 = .ok (.aload_n 1, 1) := by decide +kernel
theorem dX10_undoLatest_74 : decode cX10_undoLatest 74 = .ok (.aload_n 0, 1) := by decide +kernel
theorem dX10_undoLatest_75 : decode cX10_undoLatest 75 = .ok (.getfield 15, 3) := by decide +kernel
theorem dX10_undoLatest_78 : decode cX10_undoLatest 78 = .ok (.aload_n 0, 1) := by decide +kernel
theorem dX10_undoLatest_79 : decode cX10_undoLatest 79 = .ok (.getfield 24, 3) := by decide +kernel
theorem dX10_undoLatest_82 : decode cX10_undoLatest 82 = .ok (.iaload, 1) := by decide +kernel
theorem dX10_undoLatest_83 : decode cX10_undoLatest 83 = .ok (.aload_n 0, 1) := by decide +kernel
theorem dX10_undoLatest_84 : decode cX10_undoLatest 84 = .ok (.getfield 18, 3) := by decide +kernel
theorem dX10_undoLatest_87 : decode cX10_undoLatest 87 = .ok (.aload_n 0, 1) := by decide +kernel
theorem dX10_undoLatest_88 : decode cX10_undoLatest 88 = .ok (.getfield 24, 3) := by decide +kernel
theorem dX10_undoLatest_91 : decode cX10_undoLatest 91 = .ok (.iaload, 1) := by decide +kernel
theorem dX10_undoLatest_92 : decode cX10_undoLatest 92 = .ok (.aload_n 0, 1) := by decide +kernel
theorem dX10_undoLatest_93 : decode cX10_undoLatest 93 = .ok (.getfield 21, 3) := by decide +kernel
theorem dX10_undoLatest_96 : decode cX10_undoLatest 96 = .ok (.aload_n 0, 1) := by decide +kernel
theorem dX10_undoLatest_97 : decode cX10_undoLatest 97 = .ok (.getfield 24, 3) := by decide +kernel
theorem dX10_undoLatest_100 : decode cX10_undoLatest 100 = .ok (.iaload, 1) := by decide +kernel
theorem dX10_undoLatest_101 : decode cX10_undoLatest 101 = .ok (.invokevirtual 48, 3) := by decide +kernel
theorem dX10_undoLatest_104 : decode cX10_undoLatest 104 = .ok (.goto 50, 3) := by decide +kernel
theorem dX10_undoLatest_107 : decode cX10_undoLatest 107 = .ok (.aload_n 1, 1) := by decide +kernel
theorem dX10_undoLatest_108 : decode cX10_undoLatest 108 = .ok (.aload_n 0, 1) := by decide +kernel
theorem dX10_undoLatest_109 : decode cX10_undoLatest 109 = .ok (.getfield 15, 3) := by decide +kernel
theorem dX10_undoLatest_112 : decode cX10_undoLatest 112 = .ok (.aload_n 0, 1) := by decide +kernel
theorem dX10_undoLatest_113 : decode cX10_undoLatest 113 = .ok (.getfield 24, 3) := by decide +kernel
theorem dX10_undoLatest_116 : decode cX10_undoLatest 116 = .ok (.iaload, 1) := by decide +kernel
theorem dX10_undoLatest_117 : decode cX10_undoLatest 117 = .ok (.aload_n 0, 1) := by decide +kernel
theorem dX10_undoLatest_118 : decode cX10_undoLatest 118 = .ok (.getfield 18, 3) := by decide +kernel
theorem dX10_undoLatest_121 : decode cX10_undoLatest 121 = .ok (.aload_n 0, 1) := by decide +kernel
theorem dX10_undoLatest_122 : decode cX10_undoLatest 122 = .ok (.getfield 24, 3) := by decide +kernel
theorem dX10_undoLatest_125 : decode cX10_undoLatest 125 = .ok (.iaload, 1) := by decide +kernel
theorem dX10_undoLatest_126 : decode cX10_undoLatest 126 = .ok (.invokevirtual 52, 3) := by decide +kernel
theorem dX10_undoLatest_129 : decode cX10_undoLatest 129 = .ok (.goto 25, 3) := by decide +kernel
theorem dX10_undoLatest_132 : decode cX10_undoLatest 132 = .ok (.aload_n 1, 1) := by decide +kernel
theorem dX10_undoLatest_133 : decode cX10_undoLatest 133 = .ok (.aload_n 0, 1) := by decide +kernel
theorem dX10_undoLatest_134 : decode cX10_undoLatest 134 = .ok (.getfield 18, 3) := by decide +kernel
theorem dX10_undoLatest_137 : decode cX10_undoLatest 137 = .ok (.aload_n 0, 1) := by decide +kernel
theorem dX10_undoLatest_138 : decode cX10_undoLatest 138 = .ok (.getfield 24, 3) := by decide +kernel
theorem dX10_undoLatest_141 : decode cX10_undoLatest 141 = .ok (.iaload, 1) := by decide +kernel
theorem dX10_undoLatest_142 : decode cX10_undoLatest 142 = .ok (.aload_n 0, 1) := by decide +kernel
theorem dX10_undoLatest_143 : decode cX10_undoLatest 143 = .ok (.getfield 21, 3) := by decide +kernel
theorem dX10_undoLatest_146 : decode cX10_undoLatest 146 = .ok (.aload_n 0, 1) := by decide +kernel
theorem dX10_undoLatest_147 : decode cX10_undoLatest 147 = .ok (.getfield 24, 3) := by decide +kernel
theorem dX10_undoLatest_150 : decode cX10_undoLatest 150 = .ok (.iaload, 1) := by decide +kernel
theorem dX10_undoLatest_151 : decode cX10_undoLatest 151 = .ok (.invokevirtual 56, 3) := by decide +kernel
theorem dX10_undoLatest_154 : decode cX10_undoLatest 154 = .ok (.aload_n 0, 1) := by decide +kernel
theorem dX10_undoLatest_155 : decode cX10_undoLatest 155 = .ok (.getfield 24, 3) := by decide +kernel
theorem dX10_undoLatest_158 : decode cX10_undoLatest 158 = .ok (.ireturn, 1) := by decide +kernel
set_option maxRecDepth 100000 in
set_option maxHeartbeats 4000000 in
theorem c_X10_undoLatest {l : Launch} {G : Gx} (hap : k_ap G shC.length) (M0 : Mem) (r : Int32 × Mem) (hf : f_X10_undoLatest M0 = some r) : k_Met l yX10_undoLatest cX10_undoLatest 2 (some .int) 1 40 G shC [.ref (G.2.1 11), .ref (G.2.1 1)] M0 (k_Qi G shC r.1 r.2) := by
  refine k_Met_of (by decide) hap (Nat.le_of_ble_eq_true rfl) ?_
  intro p e s m args below meth c C hr hlk
  have C : Cx p s m args c cX10_undoLatest RX10 2 G shC := C
  unfold f_X10_undoLatest at hf
  refine k_lv (lv' := [(0, .ref (G.2.1 11)), (1, .ref (G.2.1 1))]) [0, 1] rfl ?_
  refine k_aload_n C dX10_undoLatest_0 0 rfl ?_
  refine k_geti C shC_11 (j := 4) rfl FL_X10_24 dX10_undoLatest_1 ?_
  rcases ite_g hf with ⟨c1, hf⟩ | ⟨c1, hf⟩
  · refine k_if_gt_t C dX10_undoLatest_4 (tgt := 9) (by decide) c1 ?_
    refine k_aload_n C dX10_undoLatest_9 0 rfl ?_
    refine k_dup C dX10_undoLatest_10 rfl ?_
    refine k_geti C shC_11 (j := 4) rfl FL_X10_24 dX10_undoLatest_11 ?_
    refine k_iconst C dX10_undoLatest_14 (v := (1 : Int32)) rfl ?_
    refine k_isub C dX10_undoLatest_15 ?_
    refine k_put C shC_11 (j := 4) rfl FL_X10_24 FW_X10_4 dX10_undoLatest_16 ?_
    refine k_aload_n C dX10_undoLatest_19 0 rfl ?_
    refine k_getr C shC_11 (j := 0) rfl FL_X10_9 dX10_undoLatest_20 ?_
    refine k_aload_n C dX10_undoLatest_23 0 rfl ?_
    refine k_geti C shC_11 (j := 4) rfl FL_X10_24 dX10_undoLatest_24 ?_
    obtain ⟨t2, ht2, hf⟩ := bnd hf
    refine k_iald C shC_12 ht2 dX10_undoLatest_27 ?_
    rcases ite_g hf with ⟨c3, hf⟩ | ⟨c3, hf⟩
    · refine k_tableIn C (0 : Int32) c3 dX10_undoLatest_28 (off := 28) (tgt := 56) (by decide) (by decide) (by decide) (by decide) ?_
      refine k_aload_n C dX10_undoLatest_56 1 rfl ?_
      refine k_iconst C dX10_undoLatest_57 (v := (0 : Int32)) rfl ?_
      refine k_aload_n C dX10_undoLatest_58 1 rfl ?_
      refine k_geti C shC_1 (j := 5) rfl FL_X10_37 dX10_undoLatest_59 ?_
      refine k_iconst C dX10_undoLatest_62 (v := (1 : Int32)) rfl ?_
      refine k_isub C dX10_undoLatest_63 ?_
      refine k_max C W_max wd_647 ⟨Nat.le_of_ble_eq_true rfl, Nat.le_of_ble_eq_true rfl⟩ dX10_undoLatest_64 ?_
      refine k_put C shC_1 (j := 5) rfl FL_X10_37 FW_X0_5 dX10_undoLatest_67 ?_
      refine k_goto C dX10_undoLatest_70 (tgt := 154) (by decide) ?_
      refine k_aload_n C dX10_undoLatest_154 0 rfl ?_
      refine k_geti C shC_11 (j := 4) rfl FL_X10_24 dX10_undoLatest_155 ?_
      exact k_iret C hr hlk (prf hf) (prs hf) dX10_undoLatest_158
    · rcases ite_g hf with ⟨c4, hf⟩ | ⟨c4, hf⟩
      · refine k_tableIn C (1 : Int32) c4 dX10_undoLatest_28 (off := 45) (tgt := 73) (by decide) (by decide) (by decide) (by decide) ?_
        refine k_aload_n C dX10_undoLatest_73 1 rfl ?_
        refine k_aload_n C dX10_undoLatest_74 0 rfl ?_
        refine k_getr C shC_11 (j := 1) rfl FL_X10_15 dX10_undoLatest_75 ?_
        refine k_aload_n C dX10_undoLatest_78 0 rfl ?_
        refine k_geti C shC_11 (j := 4) rfl FL_X10_24 dX10_undoLatest_79 ?_
        obtain ⟨t5, ht5, hf⟩ := bnd hf
        refine k_iald C shC_13 ht5 dX10_undoLatest_82 ?_
        refine k_aload_n C dX10_undoLatest_83 0 rfl ?_
        refine k_getr C shC_11 (j := 2) rfl FL_X10_18 dX10_undoLatest_84 ?_
        refine k_aload_n C dX10_undoLatest_87 0 rfl ?_
        refine k_geti C shC_11 (j := 4) rfl FL_X10_24 dX10_undoLatest_88 ?_
        obtain ⟨t6, ht6, hf⟩ := bnd hf
        refine k_iald C shC_14 ht6 dX10_undoLatest_91 ?_
        refine k_aload_n C dX10_undoLatest_92 0 rfl ?_
        refine k_getr C shC_11 (j := 3) rfl FL_X10_21 dX10_undoLatest_93 ?_
        refine k_aload_n C dX10_undoLatest_96 0 rfl ?_
        refine k_geti C shC_11 (j := 4) rfl FL_X10_24 dX10_undoLatest_97 ?_
        obtain ⟨t7, ht7, hf⟩ := bnd hf
        refine k_iald C shC_15 ht7 dX10_undoLatest_100 ?_
        obtain ⟨M8, hM8, hf⟩ := bnd hf
        refine k_callVv C (As := [.int t5, .int t6, .int t7]) (c_X0_setKind hap 1 BD_1 t5 t6 t7 (wI M0 11 4 ((M0.1 11 4) - (1 : Int32))) M8 hM8) ML_X0_setKind wd_650 shC_1 rfl rfl rfl ⟨Nat.le_of_ble_eq_true rfl, Nat.le_of_ble_eq_true rfl⟩ (Nat.le_of_ble_eq_true rfl) dX10_undoLatest_101 ?_
        refine k_goto C dX10_undoLatest_104 (tgt := 154) (by decide) ?_
        refine k_aload_n C dX10_undoLatest_154 0 rfl ?_
        refine k_geti C shC_11 (j := 4) rfl FL_X10_24 dX10_undoLatest_155 ?_
        exact k_iret C hr hlk (prf hf) (prs hf) dX10_undoLatest_158
      · rcases ite_g hf with ⟨c9, hf⟩ | ⟨c9, hf⟩
        · refine k_tableIn C (2 : Int32) c9 dX10_undoLatest_28 (off := 79) (tgt := 107) (by decide) (by decide) (by decide) (by decide) ?_
          refine k_aload_n C dX10_undoLatest_107 1 rfl ?_
          refine k_aload_n C dX10_undoLatest_108 0 rfl ?_
          refine k_getr C shC_11 (j := 1) rfl FL_X10_15 dX10_undoLatest_109 ?_
          refine k_aload_n C dX10_undoLatest_112 0 rfl ?_
          refine k_geti C shC_11 (j := 4) rfl FL_X10_24 dX10_undoLatest_113 ?_
          obtain ⟨t10, ht10, hf⟩ := bnd hf
          refine k_iald C shC_13 ht10 dX10_undoLatest_116 ?_
          refine k_aload_n C dX10_undoLatest_117 0 rfl ?_
          refine k_getr C shC_11 (j := 2) rfl FL_X10_18 dX10_undoLatest_118 ?_
          refine k_aload_n C dX10_undoLatest_121 0 rfl ?_
          refine k_geti C shC_11 (j := 4) rfl FL_X10_24 dX10_undoLatest_122 ?_
          obtain ⟨t11, ht11, hf⟩ := bnd hf
          refine k_iald C shC_14 ht11 dX10_undoLatest_125 ?_
          obtain ⟨M12, hM12, hf⟩ := bnd hf
          refine k_callVv C (As := [.int t10, .int t11]) (c_X0_flipMark hap 1 BD_1 t10 t11 (wI M0 11 4 ((M0.1 11 4) - (1 : Int32))) M12 hM12) ML_X0_flipMark wd_651 shC_1 rfl rfl rfl ⟨Nat.le_of_ble_eq_true rfl, Nat.le_of_ble_eq_true rfl⟩ (Nat.le_of_ble_eq_true rfl) dX10_undoLatest_126 ?_
          refine k_goto C dX10_undoLatest_129 (tgt := 154) (by decide) ?_
          refine k_aload_n C dX10_undoLatest_154 0 rfl ?_
          refine k_geti C shC_11 (j := 4) rfl FL_X10_24 dX10_undoLatest_155 ?_
          exact k_iret C hr hlk (prf hf) (prs hf) dX10_undoLatest_158
        · have hqc3 : (t2 : Int32).toInt ≠ 0 := i_ne2 c3 (by decide)
          have hqc4 : (t2 : Int32).toInt ≠ 1 := i_ne2 c4 (by decide)
          have hqc9 : (t2 : Int32).toInt ≠ 2 := i_ne2 c9 (by decide)
          refine k_tableOut C dX10_undoLatest_28 (tgt := 132) (by omega) (by decide) ?_
          refine k_aload_n C dX10_undoLatest_132 1 rfl ?_
          refine k_aload_n C dX10_undoLatest_133 0 rfl ?_
          refine k_getr C shC_11 (j := 2) rfl FL_X10_18 dX10_undoLatest_134 ?_
          refine k_aload_n C dX10_undoLatest_137 0 rfl ?_
          refine k_geti C shC_11 (j := 4) rfl FL_X10_24 dX10_undoLatest_138 ?_
          obtain ⟨t13, ht13, hf⟩ := bnd hf
          refine k_iald C shC_14 ht13 dX10_undoLatest_141 ?_
          refine k_aload_n C dX10_undoLatest_142 0 rfl ?_
          refine k_getr C shC_11 (j := 3) rfl FL_X10_21 dX10_undoLatest_143 ?_
          refine k_aload_n C dX10_undoLatest_146 0 rfl ?_
          refine k_geti C shC_11 (j := 4) rfl FL_X10_24 dX10_undoLatest_147 ?_
          obtain ⟨t14, ht14, hf⟩ := bnd hf
          refine k_iald C shC_15 ht14 dX10_undoLatest_150 ?_
          obtain ⟨M15, hM15, hf⟩ := bnd hf
          refine k_callVv C (As := [.int t13, .int t14]) (c_X0_setLaw hap 1 BD_1 t13 t14 (wI M0 11 4 ((M0.1 11 4) - (1 : Int32))) M15 hM15) ML_X0_setLaw wd_652 shC_1 rfl rfl rfl ⟨Nat.le_of_ble_eq_true rfl, Nat.le_of_ble_eq_true rfl⟩ (Nat.le_of_ble_eq_true rfl) dX10_undoLatest_151 ?_
          refine k_aload_n C dX10_undoLatest_154 0 rfl ?_
          refine k_geti C shC_11 (j := 4) rfl FL_X10_24 dX10_undoLatest_155 ?_
          exact k_iret C hr hlk (prf hf) (prs hf) dX10_undoLatest_158
  · refine k_if_gt_f C dX10_undoLatest_4 (tgt := 9) (by decide) c1 ?_
    refine k_iconst C dX10_undoLatest_7 (v := (0 : Int32)) rfl ?_
    exact k_iret C hr hlk (prf hf) (prs hf) dX10_undoLatest_8
