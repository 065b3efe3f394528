/-! walks, printed by a program of mine: each method meets its function -/
theorem dX12_margin_0 : decode cX12_margin 0 = .ok (.aload_n 0, 1) := by decide +kernel
theorem dX12_margin_1 : decode cX12_margin 1 = .ok (.iload_n 1, 1) := by decide +kernel
theorem dX12_margin_2 : decode cX12_margin 2 = .ok (.invokevirtual 104, 3) := by decide +kernel
theorem dX12_margin_5 : decode cX12_margin 5 = .ok (.ifCond .ne 7, 3) := by decide +kernel
theorem dX12_margin_8 : decode cX12_margin 8 = .ok (.iconst (-1), 1) := by decide +kernel
theorem dX12_margin_9 : decode cX12_margin 9 = .ok (.goto 11, 3) := by decide +kernel
theorem dX12_margin_12 : decode cX12_margin 12 = .ok (.iload_n 2, 1) := by decide +kernel
theorem dX12_margin_13 : decode cX12_margin 13 = .ok (.iconst 0, 1) := by decide +kernel
theorem dX12_margin_14 : decode cX12_margin 14 = .ok (.sipush 999, 3) := by decide +kernel
theorem dX12_margin_17 : decode cX12_margin 17 = .ok (.invokestatic 68, 3) := by decide +kernel
theorem dX12_margin_20 : decode cX12_margin 20 = .ok (.istore_n 3, 1) := by decide +kernel
theorem dX12_margin_21 : decode cX12_margin 21 = .ok (.iload_n 3, 1) := by decide +kernel
theorem dX12_margin_22 : decode cX12_margin 22 = .ok (.ifCond .eq 9, 3) := by decide +kernel
theorem dX12_margin_25 : decode cX12_margin 25 = .ok (.aload_n 0, 1) := by decide +kernel
theorem dX12_margin_26 : decode cX12_margin 26 = .ok (.iload_n 3, 1) := by decide +kernel
theorem dX12_margin_27 : decode cX12_margin 27 = .ok (.invokevirtual 75, 3) := by decide +kernel
theorem dX12_margin_30 : decode cX12_margin 30 = .ok (.ireturn, 1) := by decide +kernel
theorem dX12_margin_31 : decode cX12_margin 31 = .ok (.aload_n 0, 1) := by decide +kernel
theorem dX12_margin_32 : decode cX12_margin 32 = .ok (.aload_n 0, 1) := by decide +kernel
theorem dX12_margin_33 : decode cX12_margin 33 = .ok (.getfield 108, 3) := by decide +kernel
theorem dX12_margin_36 : decode cX12_margin 36 = .ok (.iload_n 1, 1) := by decide +kernel
theorem dX12_margin_37 : decode cX12_margin 37 = .ok (.invokevirtual 157, 3) := by decide +kernel
theorem dX12_margin_40 : decode cX12_margin 40 = .ok (.istore 4, 2) := by decide +kernel
theorem dX12_margin_42 : decode cX12_margin 42 = .ok (.iconst 0, 1) := by decide +kernel
theorem dX12_margin_43 : decode cX12_margin 43 = .ok (.istore 5, 2) := by decide +kernel
theorem dX12_margin_45 : decode cX12_margin 45 = .ok (.iconst 0, 1) := by decide +kernel
theorem dX12_margin_46 : decode cX12_margin 46 = .ok (.istore 6, 2) := by decide +kernel
theorem dX12_margin_48 : decode cX12_margin 48 = .ok (.iload 6, 2) := by decide +kernel
theorem dX12_margin_50 : decode cX12_margin 50 = .ok (.bipush 60, 2) := by decide +kernel
theorem dX12_margin_52 : decode cX12_margin 52 = .ok (.if_icmp .ge 33, 3) := by decide +kernel
theorem dX12_margin_55 : decode cX12_margin 55 = .ok (.iload 5, 2) := by decide +kernel
theorem dX12_margin_57 : decode cX12_margin 57 = .ok (.aload_n 0, 1) := by decide +kernel
theorem dX12_margin_58 : decode cX12_margin 58 = .ok (.iload_n 1, 1) := by decide +kernel
theorem dX12_margin_59 : decode cX12_margin 59 = .ok (.iload 4, 2) := by decide +kernel
theorem dX12_margin_61 : decode cX12_margin 61 = .ok (.iload 6, 2) := by decide +kernel
theorem dX12_margin_63 : decode cX12_margin 63 = .ok (.iadd, 1) := by decide +kernel
theorem dX12_margin_64 : decode cX12_margin 64 = .ok (.invokevirtual 161, 3) := by decide +kernel
theorem dX12_margin_67 : decode cX12_margin 67 = .ok (.iadd, 1) := by decide +kernel
theorem dX12_margin_68 : decode cX12_margin 68 = .ok (.istore 5, 2) := by decide +kernel
theorem dX12_margin_70 : decode cX12_margin 70 = .ok (.iload 5, 2) := by decide +kernel
theorem dX12_margin_72 : decode cX12_margin 72 = .ok (.iload_n 2, 1) := by decide +kernel
theorem dX12_margin_73 : decode cX12_margin 73 = .ok (.if_icmp .le 6, 3) := by decide +kernel
theorem dX12_margin_76 : decode cX12_margin 76 = .ok (.iload 6, 2) := by decide +kernel
theorem dX12_margin_78 : decode cX12_margin 78 = .ok (.ireturn, 1) := by decide +kernel
theorem dX12_margin_79 : decode cX12_margin 79 = .ok (.iinc 6 1, 3) := by decide +kernel
theorem dX12_margin_82 : decode cX12_margin 82 = .ok (.goto (-34), 3) := by decide +kernel
theorem dX12_margin_85 : decode cX12_margin 85 = .ok (.bipush 60, 2) := by decide +kernel
theorem dX12_margin_87 : decode cX12_margin 87 = .ok (.ireturn, 1) := by decide +kernel
set_option maxRecDepth 100000 in
set_option maxHeartbeats 4000000 in
theorem c_X12_margin {l : Launch} {G : Gx} (hap : k_ap G shR.length) (v1 : Int32) (v2 : Int32) (M0 : Mem) (r : Int32 × Mem) (hf : f_X12_margin v1 v2 M0 = some r) : k_Met l yX12_margin cX12_margin 7 (some .int) 3 68 G shR [.ref (G.2.1 0), .int v1, .int v2] M0 (k_Qi G shR r.1 r.2) := by
  refine k_Met_of (by decide) hap (Nat.le_of_ble_eq_true rfl) ?_
  intro p e s m args below meth c C hr hlk
  have C : Cx p s m args c cX12_margin RX12 7 G shR := C
  have k_b48 : ∀ (n48 : Nat) (v1 : Int32) (v2 : Int32) (v4 : Int32) (v5 : Int32) (v6 : Int32) (M : Mem), f_X12_margin_b48 n48 v1 v2 v4 v5 v6 M = some r → K p l e (k_rm 3 68) s m args below meth c 7 G shR (MQ below (k_Qi G shR r.1 r.2) args s 0 0 (k_A G shR.length)) 48 [(0, .ref (G.2.1 0)), (1, .int v1), (2, .int v2), (4, .int v4), (5, .int v5), (6, .int v6)] [] M := by
    intro n48
    induction n48 with
    | zero => intro v1 v2 v4 v5 v6 M hf; simp [f_X12_margin_b48] at hf
    | succ n48 ih48 =>
      intro v1 v2 v4 v5 v6 M hf
      unfold f_X12_margin_b48 at hf
      refine k_iload C dX12_margin_48 5 rfl ?_
      refine k_bipush C dX12_margin_50 (v := (60 : Int32)) rfl ?_
      rcases ite_g hf with ⟨c3, hf⟩ | ⟨c3, hf⟩
      · refine k_icmp_ge_t C dX12_margin_52 (tgt := 85) (by decide) c3 ?_
        refine k_bipush C dX12_margin_85 (v := (60 : Int32)) rfl ?_
        exact k_iret C hr hlk (prf hf) (prs hf) dX12_margin_87
      · refine k_icmp_ge_f C dX12_margin_52 (tgt := 85) (by decide) c3 ?_
        refine k_iload C dX12_margin_55 4 rfl ?_
        refine k_aload_n C dX12_margin_57 0 rfl ?_
        refine k_iload_n C dX12_margin_58 1 rfl ?_
        refine k_iload C dX12_margin_59 3 rfl ?_
        refine k_iload C dX12_margin_61 5 rfl ?_
        refine k_iadd C dX12_margin_63 ?_
        obtain ⟨t4, ht4, hf⟩ := bnd hf
        refine k_callVi C (As := [.int v1, .int (v4 + v6)]) (c_X12_dueOf hap v1 (v4 + v6) M t4 ht4) ML_X12_dueOf wd_1466 shR_0 rfl rfl rfl ⟨Nat.le_of_ble_eq_true rfl, Nat.le_of_ble_eq_true rfl⟩ (Nat.le_of_ble_eq_true rfl) dX12_margin_64 ?_
        refine k_iadd C dX12_margin_67 ?_
        refine k_istore C dX12_margin_68 (by decide) [1, 2, 3, 4, 0, 5] (lv' := [(0, .ref (G.2.1 0)), (1, .int v1), (2, .int v2), (4, .int v4), (5, .int (v5 + t4)), (6, .int v6)]) rfl ?_
        refine k_iload C dX12_margin_70 4 rfl ?_
        refine k_iload_n C dX12_margin_72 2 rfl ?_
        rcases ite_g hf with ⟨c5, hf⟩ | ⟨c5, hf⟩
        · refine k_icmp_le_t C dX12_margin_73 (tgt := 79) (by decide) c5 ?_
          refine k_iinc C dX12_margin_79 5 rfl (v := (v6 + (1 : Int32))) rfl (by decide) [1, 2, 3, 4, 5, 0] (lv' := [(0, .ref (G.2.1 0)), (1, .int v1), (2, .int v2), (4, .int v4), (5, .int (v5 + t4)), (6, .int (v6 + (1 : Int32)))]) rfl ?_
          refine k_goto C dX12_margin_82 (tgt := 48) (by decide) ?_
          exact ih48 v1 v2 v4 (v5 + t4) (v6 + (1 : Int32)) M hf
        · refine k_icmp_le_f C dX12_margin_73 (tgt := 79) (by decide) c5 ?_
          refine k_iload C dX12_margin_76 5 rfl ?_
          exact k_iret C hr hlk (prf hf) (prs hf) dX12_margin_78
  have k_b20 : ∀ (v1 : Int32) (v2 : Int32) (s0 : Int32) (M : Mem), f_X12_margin_b20 v1 v2 s0 M = some r → K p l e (k_rm 3 68) s m args below meth c 7 G shR (MQ below (k_Qi G shR r.1 r.2) args s 0 0 (k_A G shR.length)) 20 [(0, .ref (G.2.1 0)), (1, .int v1), (2, .int v2)] [.int s0] M := by
    intro v1 v2 s0 M hf
    unfold f_X12_margin_b20 at hf
    refine k_istore_n C dX12_margin_20 (by decide) [1, 2, 3, 0] (lv' := [(0, .ref (G.2.1 0)), (1, .int v1), (2, .int v2), (3, .int s0)]) rfl ?_
    refine k_iload_n C dX12_margin_21 3 rfl ?_
    rcases ite_g hf with ⟨c1, hf⟩ | ⟨c1, hf⟩
    · refine k_if_eq_t C dX12_margin_22 (tgt := 31) (by decide) c1 ?_
      refine k_aload_n C dX12_margin_31 0 rfl ?_
      refine k_aload_n C dX12_margin_32 0 rfl ?_
      refine k_geti C shR_0 (j := 6) rfl FL_X12_108 dX12_margin_33 ?_
      refine k_iload_n C dX12_margin_36 1 rfl ?_
      obtain ⟨t2, ht2, hf⟩ := bnd hf
      refine k_callVi C (As := [.int (M.1 0 6), .int v1]) (c_X12_repeatsAt hap (M.1 0 6) v1 M t2 ht2) ML_X12_repeatsAt wd_1455 shR_0 rfl rfl rfl ⟨Nat.le_of_ble_eq_true rfl, Nat.le_of_ble_eq_true rfl⟩ (Nat.le_of_ble_eq_true rfl) dX12_margin_37 ?_
      refine k_istore C dX12_margin_40 (by decide) [1, 2, 3, 0] (lv' := [(0, .ref (G.2.1 0)), (1, .int v1), (2, .int v2), (4, .int t2)]) rfl ?_
      refine k_iconst C dX12_margin_42 (v := (0 : Int32)) rfl ?_
      refine k_istore C dX12_margin_43 (by decide) [1, 2, 3, 4, 0] (lv' := [(0, .ref (G.2.1 0)), (1, .int v1), (2, .int v2), (4, .int t2), (5, .int (0 : Int32))]) rfl ?_
      refine k_iconst C dX12_margin_45 (v := (0 : Int32)) rfl ?_
      refine k_istore C dX12_margin_46 (by decide) [1, 2, 3, 4, 5, 0] (lv' := [(0, .ref (G.2.1 0)), (1, .int v1), (2, .int v2), (4, .int t2), (5, .int (0 : Int32)), (6, .int (0 : Int32))]) rfl ?_
      exact k_b48 FU v1 v2 t2 (0 : Int32) (0 : Int32) M hf
    · refine k_if_eq_f C dX12_margin_22 (tgt := 31) (by decide) c1 ?_
      refine k_aload_n C dX12_margin_25 0 rfl ?_
      refine k_iload_n C dX12_margin_26 3 rfl ?_
      obtain ⟨⟨t6, M6⟩, ht6, hf⟩ := bnd hf
      replace hf := bp_s hf
      refine k_callVi C (As := [.int s0]) (c_X12_no hap s0 M (t6, M6) ht6) ML_X12_no wd_1369 shR_0 rfl rfl rfl ⟨Nat.le_of_ble_eq_true rfl, Nat.le_of_ble_eq_true rfl⟩ (Nat.le_of_ble_eq_true rfl) dX12_margin_27 ?_
      exact k_iret C hr hlk (prf hf) (prs hf) dX12_margin_30
  unfold f_X12_margin at hf
  refine k_lv (lv' := [(0, .ref (G.2.1 0)), (1, .int v1), (2, .int v2)]) [0, 1, 2] rfl ?_
  refine k_aload_n C dX12_margin_0 0 rfl ?_
  refine k_iload_n C dX12_margin_1 1 rfl ?_
  refine k_callVi C (As := [.int v1]) (c_X12_isDoing hap v1 M0 _ rfl) ML_X12_isDoing wd_1416 shR_0 rfl rfl rfl ⟨Nat.le_of_ble_eq_true rfl, Nat.le_of_ble_eq_true rfl⟩ (Nat.le_of_ble_eq_true rfl) dX12_margin_2 ?_
  have hj7 : K p l e (k_rm 3 68) s m args below meth c 7 G shR (MQ below (k_Qi G shR r.1 r.2) args s 0 0 (k_A G shR.length)) 20 [(0, .ref (G.2.1 0)), (1, .int v1), (2, .int v2)] [.int (if (f_X12_isDoing v1 M0) = 0 then (-1 : Int32) else (f_X12_bound v2 (0 : Int32) (999 : Int32)))] M0 := by
    exact k_b20 v1 v2 (if (f_X12_isDoing v1 M0) = 0 then (-1 : Int32) else (f_X12_bound v2 (0 : Int32) (999 : Int32))) M0 hf
  by_cases c8 : (f_X12_isDoing v1 M0) = 0
  · refine k_if_ne_f C dX12_margin_5 (tgt := 12) (by decide) c8 ?_
    refine k_iconst C dX12_margin_8 (v := (-1 : Int32)) rfl ?_
    refine k_goto C dX12_margin_9 (tgt := 20) (by decide) ?_
    exact k_val (by rw [if_pos c8]) hj7
  · refine k_if_ne_t C dX12_margin_5 (tgt := 12) (by decide) c8 ?_
    refine k_iload_n C dX12_margin_12 2 rfl ?_
    refine k_iconst C dX12_margin_13 (v := (0 : Int32)) rfl ?_
    refine k_sipush C dX12_margin_14 (v := (999 : Int32)) rfl ?_
    refine k_callSi C (As := [.int v2, .int (0 : Int32), .int (999 : Int32)]) (c_X12_bound hap v2 (0 : Int32) (999 : Int32) M0 _ rfl) MS_X12_bound wd_1366 rfl rfl ⟨Nat.le_of_ble_eq_true rfl, Nat.le_of_ble_eq_true rfl⟩ (Nat.le_of_ble_eq_true rfl) dX12_margin_17 ?_
    exact k_val (by rw [if_neg c8]) hj7
theorem dX12_firsts_0 : decode cX12_firsts 0 = .ok (.iconst 0, 1) := by decide +kernel
theorem dX12_firsts_1 : decode cX12_firsts 1 = .ok (.istore_n 1, 1) := by decide +kernel
theorem dX12_firsts_2 : decode cX12_firsts 2 = .ok (.iconst 0, 1) := by decide +kernel
theorem dX12_firsts_3 : decode cX12_firsts 3 = .ok (.istore_n 2, 1) := by decide +kernel
theorem dX12_firsts_4 : decode cX12_firsts 4 = .ok (.iload_n 2, 1) := by decide +kernel
theorem dX12_firsts_5 : decode cX12_firsts 5 = .ok (.aload_n 0, 1) := by decide +kernel
theorem dX12_firsts_6 : decode cX12_firsts 6 = .ok (.getfield 108, 3) := by decide +kernel
theorem dX12_firsts_9 : decode cX12_firsts 9 = .ok (.if_icmp .ge 33, 3) := by decide +kernel
theorem dX12_firsts_12 : decode cX12_firsts 12 = .ok (.iload_n 1, 1) := by decide +kernel
theorem dX12_firsts_13 : decode cX12_firsts 13 = .ok (.aload_n 0, 1) := by decide +kernel
theorem dX12_firsts_14 : decode cX12_firsts 14 = .ok (.iload_n 2, 1) := by decide +kernel
theorem dX12_firsts_15 : decode cX12_firsts 15 = .ok (.aload_n 0, 1) := by decide +kernel
theorem dX12_firsts_16 : decode cX12_firsts 16 = .ok (.getfield 22, 3) := by decide +kernel
theorem dX12_firsts_19 : decode cX12_firsts 19 = .ok (.iload_n 2, 1) := by decide +kernel
theorem dX12_firsts_20 : decode cX12_firsts 20 = .ok (.iaload, 1) := by decide +kernel
theorem dX12_firsts_21 : decode cX12_firsts 21 = .ok (.invokevirtual 157, 3) := by decide +kernel
theorem dX12_firsts_24 : decode cX12_firsts 24 = .ok (.ifCond .ne 9, 3) := by decide +kernel
theorem dX12_firsts_27 : decode cX12_firsts 27 = .ok (.iconst 1, 1) := by decide +kernel
theorem dX12_firsts_28 : decode cX12_firsts 28 = .ok (.iload_n 2, 1) := by decide +kernel
theorem dX12_firsts_29 : decode cX12_firsts 29 = .ok (.ishl, 1) := by decide +kernel
theorem dX12_firsts_30 : decode cX12_firsts 30 = .ok (.goto 4, 3) := by decide +kernel
theorem dX12_firsts_33 : decode cX12_firsts 33 = .ok (.iconst 0, 1) := by decide +kernel
theorem dX12_firsts_34 : decode cX12_firsts 34 = .ok (.ior, 1) := by decide +kernel
theorem dX12_firsts_35 : decode cX12_firsts 35 = .ok (.istore_n 1, 1) := by decide +kernel
theorem dX12_firsts_36 : decode cX12_firsts 36 = .ok (.iinc 2 1, 3) := by decide +kernel
theorem dX12_firsts_39 : decode cX12_firsts 39 = .ok (.goto (-35), 3) := by decide +kernel
theorem dX12_firsts_42 : decode cX12_firsts 42 = .ok (.iload_n 1, 1) := by decide +kernel
theorem dX12_firsts_43 : decode cX12_firsts 43 = .ok (.ireturn, 1) := by decide +kernel
set_option maxRecDepth 100000 in
set_option maxHeartbeats 4000000 in
theorem c_X12_firsts {l : Launch} {G : Gx} (hap : k_ap G shR.length) (M0 : Mem) (r : Int32) (hf : f_X12_firsts M0 = some r) : k_Met l yX12_firsts cX12_firsts 3 (some .int) 3 68 G shR [.ref (G.2.1 0)] M0 (k_Qi G shR r M0) := by
  refine k_Met_of (by decide) hap (Nat.le_of_ble_eq_true rfl) ?_
  intro p e s m args below meth c C hr hlk
  have C : Cx p s m args c cX12_firsts RX12 3 G shR := C
  have k_b4 : ∀ (n4 : Nat) (v1 : Int32) (v2 : Int32), f_X12_firsts_b4 M0 n4 v1 v2 = some r → K p l e (k_rm 3 68) s m args below meth c 3 G shR (MQ below (k_Qi G shR r M0) args s 0 0 (k_A G shR.length)) 4 [(0, .ref (G.2.1 0)), (1, .int v1), (2, .int v2)] [] M0 := by
    intro n4
    induction n4 with
    | zero => intro v1 v2 hf; simp [f_X12_firsts_b4] at hf
    | succ n4 ih4 =>
      intro v1 v2 hf
      unfold f_X12_firsts_b4 at hf
      refine k_iload_n C dX12_firsts_4 2 rfl ?_
      refine k_aload_n C dX12_firsts_5 0 rfl ?_
      refine k_geti C shR_0 (j := 6) rfl FL_X12_108 dX12_firsts_6 ?_
      rcases ite_g hf with ⟨c1, hf⟩ | ⟨c1, hf⟩
      · refine k_icmp_ge_t C dX12_firsts_9 (tgt := 42) (by decide) c1 ?_
        refine k_iload_n C dX12_firsts_42 1 rfl ?_
        exact k_iret C hr hlk (Option.some.inj hf) rfl dX12_firsts_43
      · refine k_icmp_ge_f C dX12_firsts_9 (tgt := 42) (by decide) c1 ?_
        refine k_iload_n C dX12_firsts_12 1 rfl ?_
        refine k_aload_n C dX12_firsts_13 0 rfl ?_
        refine k_iload_n C dX12_firsts_14 2 rfl ?_
        refine k_aload_n C dX12_firsts_15 0 rfl ?_
        refine k_getr C shR_0 (j := 4) rfl FL_X12_22 dX12_firsts_16 ?_
        refine k_iload_n C dX12_firsts_19 2 rfl ?_
        obtain ⟨t2, ht2, hf⟩ := bnd hf
        refine k_iald C shR_5 ht2 dX12_firsts_20 ?_
        obtain ⟨t3, ht3, hf⟩ := bnd hf
        refine k_callVi C (As := [.int v2, .int t2]) (c_X12_repeatsAt hap v2 t2 M0 t3 ht3) ML_X12_repeatsAt wd_1455 shR_0 rfl rfl rfl ⟨Nat.le_of_ble_eq_true rfl, Nat.le_of_ble_eq_true rfl⟩ (Nat.le_of_ble_eq_true rfl) dX12_firsts_21 ?_
        have hj4 : K p l e (k_rm 3 68) s m args below meth c 3 G shR (MQ below (k_Qi G shR r M0) args s 0 0 (k_A G shR.length)) 34 [(0, .ref (G.2.1 0)), (1, .int v1), (2, .int v2)] [.int (if t3 = 0 then (jshl (1 : Int32) v2) else (0 : Int32)), .int v1] M0 := by
          refine k_ior C dX12_firsts_34 ?_
          refine k_istore_n C dX12_firsts_35 (by decide) [1, 0, 2] (lv' := [(0, .ref (G.2.1 0)), (1, .int (v1 ||| (if t3 = 0 then (jshl (1 : Int32) v2) else (0 : Int32)))), (2, .int v2)]) rfl ?_
          refine k_iinc C dX12_firsts_36 2 rfl (v := (v2 + (1 : Int32))) rfl (by decide) [1, 2, 0] (lv' := [(0, .ref (G.2.1 0)), (1, .int (v1 ||| (if t3 = 0 then (jshl (1 : Int32) v2) else (0 : Int32)))), (2, .int (v2 + (1 : Int32)))]) rfl ?_
          refine k_goto C dX12_firsts_39 (tgt := 4) (by decide) ?_
          exact ih4 (v1 ||| (if t3 = 0 then (jshl (1 : Int32) v2) else (0 : Int32))) (v2 + (1 : Int32)) hf
        by_cases c5 : t3 = 0
        · refine k_if_ne_f C dX12_firsts_24 (tgt := 33) (by decide) c5 ?_
          refine k_iconst C dX12_firsts_27 (v := (1 : Int32)) rfl ?_
          refine k_iload_n C dX12_firsts_28 2 rfl ?_
          refine k_ishlJ C dX12_firsts_29 ?_
          refine k_goto C dX12_firsts_30 (tgt := 34) (by decide) ?_
          exact k_val (by rw [if_pos c5]) hj4
        · refine k_if_ne_t C dX12_firsts_24 (tgt := 33) (by decide) c5 ?_
          refine k_iconst C dX12_firsts_33 (v := (0 : Int32)) rfl ?_
          exact k_val (by rw [if_neg c5]) hj4
  unfold f_X12_firsts at hf
  refine k_lv (lv' := [(0, .ref (G.2.1 0))]) [0] rfl ?_
  refine k_iconst C dX12_firsts_0 (v := (0 : Int32)) rfl ?_
  refine k_istore_n C dX12_firsts_1 (by decide) [1, 0] (lv' := [(0, .ref (G.2.1 0)), (1, .int (0 : Int32))]) rfl ?_
  refine k_iconst C dX12_firsts_2 (v := (0 : Int32)) rfl ?_
  refine k_istore_n C dX12_firsts_3 (by decide) [1, 2, 0] (lv' := [(0, .ref (G.2.1 0)), (1, .int (0 : Int32)), (2, .int (0 : Int32))]) rfl ?_
  exact k_b4 FU (0 : Int32) (0 : Int32) hf
theorem dX12_dueWithMore_0 : decode cX12_dueWithMore 0 = .ok (.aload_n 0, 1) := by decide +kernel
theorem dX12_dueWithMore_1 : decode cX12_dueWithMore 1 = .ok (.aload_n 0, 1) := by decide +kernel
theorem dX12_dueWithMore_2 : decode cX12_dueWithMore 2 = .ok (.getfield 108, 3) := by decide +kernel
theorem dX12_dueWithMore_5 : decode cX12_dueWithMore 5 = .ok (.iload_n 1, 1) := by decide +kernel
theorem dX12_dueWithMore_6 : decode cX12_dueWithMore 6 = .ok (.invokevirtual 157, 3) := by decide +kernel
theorem dX12_dueWithMore_9 : decode cX12_dueWithMore 9 = .ok (.istore_n 2, 1) := by decide +kernel
theorem dX12_dueWithMore_10 : decode cX12_dueWithMore 10 = .ok (.iconst 0, 1) := by decide +kernel
theorem dX12_dueWithMore_11 : decode cX12_dueWithMore 11 = .ok (.istore_n 3, 1) := by decide +kernel
theorem dX12_dueWithMore_12 : decode cX12_dueWithMore 12 = .ok (.iload_n 3, 1) := by decide +kernel
theorem dX12_dueWithMore_13 : decode cX12_dueWithMore 13 = .ok (.aload_n 0, 1) := by decide +kernel
theorem dX12_dueWithMore_14 : decode cX12_dueWithMore 14 = .ok (.getfield 62, 3) := by decide +kernel
theorem dX12_dueWithMore_17 : decode cX12_dueWithMore 17 = .ok (.if_icmp .ge 31, 3) := by decide +kernel
theorem dX12_dueWithMore_20 : decode cX12_dueWithMore 20 = .ok (.iload_n 2, 1) := by decide +kernel
theorem dX12_dueWithMore_21 : decode cX12_dueWithMore 21 = .ok (.aload_n 0, 1) := by decide +kernel
theorem dX12_dueWithMore_22 : decode cX12_dueWithMore 22 = .ok (.iload_n 3, 1) := by decide +kernel
theorem dX12_dueWithMore_23 : decode cX12_dueWithMore 23 = .ok (.iload_n 1, 1) := by decide +kernel
theorem dX12_dueWithMore_24 : decode cX12_dueWithMore 24 = .ok (.invokevirtual 154, 3) := by decide +kernel
theorem dX12_dueWithMore_27 : decode cX12_dueWithMore 27 = .ok (.ifCond .eq 12, 3) := by decide +kernel
theorem dX12_dueWithMore_30 : decode cX12_dueWithMore 30 = .ok (.aload_n 0, 1) := by decide +kernel
theorem dX12_dueWithMore_31 : decode cX12_dueWithMore 31 = .ok (.getfield 59, 3) := by decide +kernel
theorem dX12_dueWithMore_34 : decode cX12_dueWithMore 34 = .ok (.iload_n 3, 1) := by decide +kernel
theorem dX12_dueWithMore_35 : decode cX12_dueWithMore 35 = .ok (.iaload, 1) := by decide +kernel
theorem dX12_dueWithMore_36 : decode cX12_dueWithMore 36 = .ok (.goto 4, 3) := by decide +kernel
theorem dX12_dueWithMore_39 : decode cX12_dueWithMore 39 = .ok (.iconst 0, 1) := by decide +kernel
theorem dX12_dueWithMore_40 : decode cX12_dueWithMore 40 = .ok (.iadd, 1) := by decide +kernel
theorem dX12_dueWithMore_41 : decode cX12_dueWithMore 41 = .ok (.istore_n 2, 1) := by decide +kernel
theorem dX12_dueWithMore_42 : decode cX12_dueWithMore 42 = .ok (.iinc 3 1, 3) := by decide +kernel
theorem dX12_dueWithMore_45 : decode cX12_dueWithMore 45 = .ok (.goto (-33), 3) := by decide +kernel
theorem dX12_dueWithMore_48 : decode cX12_dueWithMore 48 = .ok (.aload_n 0, 1) := by decide +kernel
theorem dX12_dueWithMore_49 : decode cX12_dueWithMore 49 = .ok (.iload_n 1, 1) := by decide +kernel
theorem dX12_dueWithMore_50 : decode cX12_dueWithMore 50 = .ok (.iload_n 2, 1) := by decide +kernel
theorem dX12_dueWithMore_51 : decode cX12_dueWithMore 51 = .ok (.invokevirtual 161, 3) := by decide +kernel
theorem dX12_dueWithMore_54 : decode cX12_dueWithMore 54 = .ok (.ireturn, 1) := by decide +kernel
set_option maxRecDepth 100000 in
set_option maxHeartbeats 4000000 in
theorem c_X12_dueWithMore {l : Launch} {G : Gx} (hap : k_ap G shR.length) (v1 : Int32) (M0 : Mem) (r : Int32) (hf : f_X12_dueWithMore v1 M0 = some r) : k_Met l yX12_dueWithMore cX12_dueWithMore 4 (some .int) 3 68 G shR [.ref (G.2.1 0), .int v1] M0 (k_Qi G shR r M0) := by
  refine k_Met_of (by decide) hap (Nat.le_of_ble_eq_true rfl) ?_
  intro p e s m args below meth c C hr hlk
  have C : Cx p s m args c cX12_dueWithMore RX12 4 G shR := C
  have k_b12 : ∀ (n12 : Nat) (v1 : Int32) (v2 : Int32) (v3 : Int32), f_X12_dueWithMore_b12 M0 n12 v1 v2 v3 = some r → K p l e (k_rm 3 68) s m args below meth c 4 G shR (MQ below (k_Qi G shR r M0) args s 0 0 (k_A G shR.length)) 12 [(0, .ref (G.2.1 0)), (1, .int v1), (2, .int v2), (3, .int v3)] [] M0 := by
    intro n12
    induction n12 with
    | zero => intro v1 v2 v3 hf; simp [f_X12_dueWithMore_b12] at hf
    | succ n12 ih12 =>
      intro v1 v2 v3 hf
      unfold f_X12_dueWithMore_b12 at hf
      refine k_iload_n C dX12_dueWithMore_12 3 rfl ?_
      refine k_aload_n C dX12_dueWithMore_13 0 rfl ?_
      refine k_geti C shR_0 (j := 5) rfl FL_X12_62 dX12_dueWithMore_14 ?_
      rcases ite_g hf with ⟨c3, hf⟩ | ⟨c3, hf⟩
      · refine k_icmp_ge_t C dX12_dueWithMore_17 (tgt := 48) (by decide) c3 ?_
        refine k_aload_n C dX12_dueWithMore_48 0 rfl ?_
        refine k_iload_n C dX12_dueWithMore_49 1 rfl ?_
        refine k_iload_n C dX12_dueWithMore_50 2 rfl ?_
        obtain ⟨t4, ht4, hf⟩ := bnd hf
        refine k_callVi C (As := [.int v1, .int v2]) (c_X12_dueOf hap v1 v2 M0 t4 ht4) ML_X12_dueOf wd_1466 shR_0 rfl rfl rfl ⟨Nat.le_of_ble_eq_true rfl, Nat.le_of_ble_eq_true rfl⟩ (Nat.le_of_ble_eq_true rfl) dX12_dueWithMore_51 ?_
        exact k_iret C hr hlk (Option.some.inj hf) rfl dX12_dueWithMore_54
      · refine k_icmp_ge_f C dX12_dueWithMore_17 (tgt := 48) (by decide) c3 ?_
        refine k_iload_n C dX12_dueWithMore_20 2 rfl ?_
        refine k_aload_n C dX12_dueWithMore_21 0 rfl ?_
        refine k_iload_n C dX12_dueWithMore_22 3 rfl ?_
        refine k_iload_n C dX12_dueWithMore_23 1 rfl ?_
        obtain ⟨t5, ht5, hf⟩ := bnd hf
        refine k_callVi C (As := [.int v3, .int v1]) (c_X12_areSame hap v3 v1 M0 t5 ht5) ML_X12_areSame wd_1459 shR_0 rfl rfl rfl ⟨Nat.le_of_ble_eq_true rfl, Nat.le_of_ble_eq_true rfl⟩ (Nat.le_of_ble_eq_true rfl) dX12_dueWithMore_24 ?_
        rcases ite_g hf with ⟨c6, hf⟩ | ⟨c6, hf⟩
        · refine k_if_eq_t C dX12_dueWithMore_27 (tgt := 39) (by decide) c6 ?_
          refine k_iconst C dX12_dueWithMore_39 (v := (0 : Int32)) rfl ?_
          refine k_iadd C dX12_dueWithMore_40 ?_
          refine k_istore_n C dX12_dueWithMore_41 (by decide) [1, 2, 0, 3] (lv' := [(0, .ref (G.2.1 0)), (1, .int v1), (2, .int (v2 + (0 : Int32))), (3, .int v3)]) rfl ?_
          refine k_iinc C dX12_dueWithMore_42 3 rfl (v := (v3 + (1 : Int32))) rfl (by decide) [1, 2, 3, 0] (lv' := [(0, .ref (G.2.1 0)), (1, .int v1), (2, .int (v2 + (0 : Int32))), (3, .int (v3 + (1 : Int32)))]) rfl ?_
          refine k_goto C dX12_dueWithMore_45 (tgt := 12) (by decide) ?_
          exact ih12 v1 (v2 + (0 : Int32)) (v3 + (1 : Int32)) hf
        · refine k_if_eq_f C dX12_dueWithMore_27 (tgt := 39) (by decide) c6 ?_
          refine k_aload_n C dX12_dueWithMore_30 0 rfl ?_
          refine k_getr C shR_0 (j := 28) rfl FL_X12_59 dX12_dueWithMore_31 ?_
          refine k_iload_n C dX12_dueWithMore_34 3 rfl ?_
          obtain ⟨t7, ht7, hf⟩ := bnd hf
          refine k_iald C shR_17 ht7 dX12_dueWithMore_35 ?_
          refine k_goto C dX12_dueWithMore_36 (tgt := 40) (by decide) ?_
          refine k_iadd C dX12_dueWithMore_40 ?_
          refine k_istore_n C dX12_dueWithMore_41 (by decide) [1, 2, 0, 3] (lv' := [(0, .ref (G.2.1 0)), (1, .int v1), (2, .int (v2 + t7)), (3, .int v3)]) rfl ?_
          refine k_iinc C dX12_dueWithMore_42 3 rfl (v := (v3 + (1 : Int32))) rfl (by decide) [1, 2, 3, 0] (lv' := [(0, .ref (G.2.1 0)), (1, .int v1), (2, .int (v2 + t7)), (3, .int (v3 + (1 : Int32)))]) rfl ?_
          refine k_goto C dX12_dueWithMore_45 (tgt := 12) (by decide) ?_
          exact ih12 v1 (v2 + t7) (v3 + (1 : Int32)) hf
  unfold f_X12_dueWithMore at hf
  refine k_lv (lv' := [(0, .ref (G.2.1 0)), (1, .int v1)]) [0, 1] rfl ?_
  refine k_aload_n C dX12_dueWithMore_0 0 rfl ?_
  refine k_aload_n C dX12_dueWithMore_1 0 rfl ?_
  refine k_geti C shR_0 (j := 6) rfl FL_X12_108 dX12_dueWithMore_2 ?_
  refine k_iload_n C dX12_dueWithMore_5 1 rfl ?_
  obtain ⟨t1, ht1, hf⟩ := bnd hf
  refine k_callVi C (As := [.int (M0.1 0 6), .int v1]) (c_X12_repeatsAt hap (M0.1 0 6) v1 M0 t1 ht1) ML_X12_repeatsAt wd_1455 shR_0 rfl rfl rfl ⟨Nat.le_of_ble_eq_true rfl, Nat.le_of_ble_eq_true rfl⟩ (Nat.le_of_ble_eq_true rfl) dX12_dueWithMore_6 ?_
  refine k_istore_n C dX12_dueWithMore_9 (by decide) [1, 2, 0] (lv' := [(0, .ref (G.2.1 0)), (1, .int v1), (2, .int t1)]) rfl ?_
  refine k_iconst C dX12_dueWithMore_10 (v := (0 : Int32)) rfl ?_
  refine k_istore_n C dX12_dueWithMore_11 (by decide) [1, 2, 3, 0] (lv' := [(0, .ref (G.2.1 0)), (1, .int v1), (2, .int t1), (3, .int (0 : Int32))]) rfl ?_
  exact k_b12 FU v1 t1 (0 : Int32) hf
theorem dX12_leastWithMore_0 : decode cX12_leastWithMore 0 = .ok (.bipush (-9), 2) := by decide +kernel
theorem dX12_leastWithMore_2 : decode cX12_leastWithMore 2 = .ok (.istore_n 1, 1) := by decide +kernel
theorem dX12_leastWithMore_3 : decode cX12_leastWithMore 3 = .ok (.iconst 0, 1) := by decide +kernel
theorem dX12_leastWithMore_4 : decode cX12_leastWithMore 4 = .ok (.istore_n 2, 1) := by decide +kernel
theorem dX12_leastWithMore_5 : decode cX12_leastWithMore 5 = .ok (.iload_n 2, 1) := by decide +kernel
theorem dX12_leastWithMore_6 : decode cX12_leastWithMore 6 = .ok (.aload_n 0, 1) := by decide +kernel
theorem dX12_leastWithMore_7 : decode cX12_leastWithMore 7 = .ok (.getfield 62, 3) := by decide +kernel
theorem dX12_leastWithMore_10 : decode cX12_leastWithMore 10 = .ok (.if_icmp .ge 28, 3) := by decide +kernel
theorem dX12_leastWithMore_13 : decode cX12_leastWithMore 13 = .ok (.iload_n 1, 1) := by decide +kernel
theorem dX12_leastWithMore_14 : decode cX12_leastWithMore 14 = .ok (.ifCond .lt 16, 3) := by decide +kernel
theorem dX12_leastWithMore_17 : decode cX12_leastWithMore 17 = .ok (.aload_n 0, 1) := by decide +kernel
theorem dX12_leastWithMore_18 : decode cX12_leastWithMore 18 = .ok (.iload_n 2, 1) := by decide +kernel
theorem dX12_leastWithMore_19 : decode cX12_leastWithMore 19 = .ok (.invokevirtual 261, 3) := by decide +kernel
theorem dX12_leastWithMore_22 : decode cX12_leastWithMore 22 = .ok (.aload_n 0, 1) := by decide +kernel
theorem dX12_leastWithMore_23 : decode cX12_leastWithMore 23 = .ok (.iload_n 1, 1) := by decide +kernel
theorem dX12_leastWithMore_24 : decode cX12_leastWithMore 24 = .ok (.invokevirtual 261, 3) := by decide +kernel
theorem dX12_leastWithMore_27 : decode cX12_leastWithMore 27 = .ok (.if_icmp .ge 5, 3) := by decide +kernel
theorem dX12_leastWithMore_30 : decode cX12_leastWithMore 30 = .ok (.iload_n 2, 1) := by decide +kernel
theorem dX12_leastWithMore_31 : decode cX12_leastWithMore 31 = .ok (.istore_n 1, 1) := by decide +kernel
theorem dX12_leastWithMore_32 : decode cX12_leastWithMore 32 = .ok (.iinc 2 1, 3) := by decide +kernel
theorem dX12_leastWithMore_35 : decode cX12_leastWithMore 35 = .ok (.goto (-30), 3) := by decide +kernel
theorem dX12_leastWithMore_38 : decode cX12_leastWithMore 38 = .ok (.iload_n 1, 1) := by decide +kernel
theorem dX12_leastWithMore_39 : decode cX12_leastWithMore 39 = .ok (.ireturn, 1) := by decide +kernel
set_option maxRecDepth 100000 in
set_option maxHeartbeats 4000000 in
theorem c_X12_leastWithMore {l : Launch} {G : Gx} (hap : k_ap G shR.length) (M0 : Mem) (r : Int32) (hf : f_X12_leastWithMore M0 = some r) : k_Met l yX12_leastWithMore cX12_leastWithMore 3 (some .int) 4 91 G shR [.ref (G.2.1 0)] M0 (k_Qi G shR r M0) := by
  refine k_Met_of (by decide) hap (Nat.le_of_ble_eq_true rfl) ?_
  intro p e s m args below meth c C hr hlk
  have C : Cx p s m args c cX12_leastWithMore RX12 3 G shR := C
  have k_b5 : ∀ (n5 : Nat) (v1 : Int32) (v2 : Int32), f_X12_leastWithMore_b5 M0 n5 v1 v2 = some r → K p l e (k_rm 4 91) s m args below meth c 3 G shR (MQ below (k_Qi G shR r M0) args s 0 0 (k_A G shR.length)) 5 [(0, .ref (G.2.1 0)), (1, .int v1), (2, .int v2)] [] M0 := by
    intro n5
    induction n5 with
    | zero => intro v1 v2 hf; simp [f_X12_leastWithMore_b5] at hf
    | succ n5 ih5 =>
      intro v1 v2 hf
      unfold f_X12_leastWithMore_b5 at hf
      refine k_iload_n C dX12_leastWithMore_5 2 rfl ?_
      refine k_aload_n C dX12_leastWithMore_6 0 rfl ?_
      refine k_geti C shR_0 (j := 5) rfl FL_X12_62 dX12_leastWithMore_7 ?_
      rcases ite_g hf with ⟨c1, hf⟩ | ⟨c1, hf⟩
      · refine k_icmp_ge_t C dX12_leastWithMore_10 (tgt := 38) (by decide) c1 ?_
        refine k_iload_n C dX12_leastWithMore_38 1 rfl ?_
        exact k_iret C hr hlk (Option.some.inj hf) rfl dX12_leastWithMore_39
      · refine k_icmp_ge_f C dX12_leastWithMore_10 (tgt := 38) (by decide) c1 ?_
        refine k_iload_n C dX12_leastWithMore_13 1 rfl ?_
        rcases ite_g hf with ⟨c2, hf⟩ | ⟨c2, hf⟩
        · refine k_if_lt_t C dX12_leastWithMore_14 (tgt := 30) (by decide) c2 ?_
          refine k_iload_n C dX12_leastWithMore_30 2 rfl ?_
          refine k_istore_n C dX12_leastWithMore_31 (by decide) [1, 0, 2] (lv' := [(0, .ref (G.2.1 0)), (1, .int v2), (2, .int v2)]) rfl ?_
          refine k_iinc C dX12_leastWithMore_32 2 rfl (v := (v2 + (1 : Int32))) rfl (by decide) [1, 2, 0] (lv' := [(0, .ref (G.2.1 0)), (1, .int v2), (2, .int (v2 + (1 : Int32)))]) rfl ?_
          refine k_goto C dX12_leastWithMore_35 (tgt := 5) (by decide) ?_
          exact ih5 v2 (v2 + (1 : Int32)) hf
        · refine k_if_lt_f C dX12_leastWithMore_14 (tgt := 30) (by decide) c2 ?_
          refine k_aload_n C dX12_leastWithMore_17 0 rfl ?_
          refine k_iload_n C dX12_leastWithMore_18 2 rfl ?_
          obtain ⟨t3, ht3, hf⟩ := bnd hf
          refine k_callVi C (As := [.int v2]) (c_X12_dueWithMore hap v2 M0 t3 ht3) ML_X12_dueWithMore wd_1724 shR_0 rfl rfl rfl ⟨Nat.le_of_ble_eq_true rfl, Nat.le_of_ble_eq_true rfl⟩ (Nat.le_of_ble_eq_true rfl) dX12_leastWithMore_19 ?_
          refine k_aload_n C dX12_leastWithMore_22 0 rfl ?_
          refine k_iload_n C dX12_leastWithMore_23 1 rfl ?_
          obtain ⟨t4, ht4, hf⟩ := bnd hf
          refine k_callVi C (As := [.int v1]) (c_X12_dueWithMore hap v1 M0 t4 ht4) ML_X12_dueWithMore wd_1724 shR_0 rfl rfl rfl ⟨Nat.le_of_ble_eq_true rfl, Nat.le_of_ble_eq_true rfl⟩ (Nat.le_of_ble_eq_true rfl) dX12_leastWithMore_24 ?_
          rcases ite_g hf with ⟨c5, hf⟩ | ⟨c5, hf⟩
          · refine k_icmp_ge_t C dX12_leastWithMore_27 (tgt := 32) (by decide) c5 ?_
            refine k_iinc C dX12_leastWithMore_32 2 rfl (v := (v2 + (1 : Int32))) rfl (by decide) [1, 2, 0] (lv' := [(0, .ref (G.2.1 0)), (1, .int v1), (2, .int (v2 + (1 : Int32)))]) rfl ?_
            refine k_goto C dX12_leastWithMore_35 (tgt := 5) (by decide) ?_
            exact ih5 v1 (v2 + (1 : Int32)) hf
          · refine k_icmp_ge_f C dX12_leastWithMore_27 (tgt := 32) (by decide) c5 ?_
            refine k_iload_n C dX12_leastWithMore_30 2 rfl ?_
            refine k_istore_n C dX12_leastWithMore_31 (by decide) [1, 0, 2] (lv' := [(0, .ref (G.2.1 0)), (1, .int v2), (2, .int v2)]) rfl ?_
            refine k_iinc C dX12_leastWithMore_32 2 rfl (v := (v2 + (1 : Int32))) rfl (by decide) [1, 2, 0] (lv' := [(0, .ref (G.2.1 0)), (1, .int v2), (2, .int (v2 + (1 : Int32)))]) rfl ?_
            refine k_goto C dX12_leastWithMore_35 (tgt := 5) (by decide) ?_
            exact ih5 v2 (v2 + (1 : Int32)) hf
  unfold f_X12_leastWithMore at hf
  refine k_lv (lv' := [(0, .ref (G.2.1 0))]) [0] rfl ?_
  refine k_bipush C dX12_leastWithMore_0 (v := (-9 : Int32)) rfl ?_
  refine k_istore_n C dX12_leastWithMore_2 (by decide) [1, 0] (lv' := [(0, .ref (G.2.1 0)), (1, .int (-9 : Int32))]) rfl ?_
  refine k_iconst C dX12_leastWithMore_3 (v := (0 : Int32)) rfl ?_
  refine k_istore_n C dX12_leastWithMore_4 (by decide) [1, 2, 0] (lv' := [(0, .ref (G.2.1 0)), (1, .int (-9 : Int32)), (2, .int (0 : Int32))]) rfl ?_
  exact k_b5 FU (-9 : Int32) (0 : Int32) hf
theorem dX12_noMore_0 : decode cX12_noMore 0 = .ok (.iconst 0, 1) := by decide +kernel
theorem dX12_noMore_1 : decode cX12_noMore 1 = .ok (.istore_n 1, 1) := by decide +kernel
theorem dX12_noMore_2 : decode cX12_noMore 2 = .ok (.iload_n 1, 1) := by decide +kernel
theorem dX12_noMore_3 : decode cX12_noMore 3 = .ok (.bipush 8, 2) := by decide +kernel
theorem dX12_noMore_5 : decode cX12_noMore 5 = .ok (.if_icmp .ge 16, 3) := by decide +kernel
theorem dX12_noMore_8 : decode cX12_noMore 8 = .ok (.aload_n 0, 1) := by decide +kernel
theorem dX12_noMore_9 : decode cX12_noMore 9 = .ok (.getfield 59, 3) := by decide +kernel
theorem dX12_noMore_12 : decode cX12_noMore 12 = .ok (.iload_n 1, 1) := by decide +kernel
theorem dX12_noMore_13 : decode cX12_noMore 13 = .ok (.iconst 0, 1) := by decide +kernel
theorem dX12_noMore_14 : decode cX12_noMore 14 = .ok (.iastore, 1) := by decide +kernel
theorem dX12_noMore_15 : decode cX12_noMore 15 = .ok (.iinc 1 1, 3) := by decide +kernel
theorem dX12_noMore_18 : decode cX12_noMore 18 = .ok (.goto (-16), 3) := by decide +kernel
theorem dX12_noMore_21 : decode cX12_noMore 21 = .ok (.return_, 1) := by decide +kernel
set_option maxRecDepth 100000 in
set_option maxHeartbeats 4000000 in
theorem c_X12_noMore {l : Launch} {G : Gx} (hap : k_ap G shR.length) (M0 : Mem) (r : Mem) (hf : f_X12_noMore M0 = some r) : k_Met l yX12_noMore cX12_noMore 2 none 0 0 G shR [.ref (G.2.1 0)] M0 (k_Qv G shR r) := by
  refine k_Met_of (by decide) hap (Nat.le_of_ble_eq_true rfl) ?_
  intro p e s m args below meth c C hr hlk
  have C : Cx p s m args c cX12_noMore RX12 2 G shR := C
  have k_b2 : ∀ (n2 : Nat) (v1 : Int32) (M : Mem), f_X12_noMore_b2 n2 v1 M = some r → K p l e (k_rm 0 0) s m args below meth c 2 G shR (MQ below (k_Qv G shR r) args s 0 0 (k_A G shR.length)) 2 [(0, .ref (G.2.1 0)), (1, .int v1)] [] M := by
    intro n2
    induction n2 with
    | zero => intro v1 M hf; simp [f_X12_noMore_b2] at hf
    | succ n2 ih2 =>
      intro v1 M hf
      unfold f_X12_noMore_b2 at hf
      refine k_iload_n C dX12_noMore_2 1 rfl ?_
      refine k_bipush C dX12_noMore_3 (v := (8 : Int32)) rfl ?_
      rcases ite_g hf with ⟨c1, hf⟩ | ⟨c1, hf⟩
      · refine k_icmp_ge_t C dX12_noMore_5 (tgt := 21) (by decide) c1 ?_
        exact k_vret C hr hlk (Option.some.inj hf) dX12_noMore_21
      · refine k_icmp_ge_f C dX12_noMore_5 (tgt := 21) (by decide) c1 ?_
        refine k_aload_n C dX12_noMore_8 0 rfl ?_
        refine k_getr C shR_0 (j := 28) rfl FL_X12_59 dX12_noMore_9 ?_
        refine k_iload_n C dX12_noMore_12 1 rfl ?_
        refine k_iconst C dX12_noMore_13 (v := (0 : Int32)) rfl ?_
        obtain ⟨M2, hM2, hf⟩ := bnd hf
        refine k_iast C shR_17 hM2 dX12_noMore_14 ?_
        refine k_iinc C dX12_noMore_15 1 rfl (v := (v1 + (1 : Int32))) rfl (by decide) [1, 0] (lv' := [(0, .ref (G.2.1 0)), (1, .int (v1 + (1 : Int32)))]) rfl ?_
        refine k_goto C dX12_noMore_18 (tgt := 2) (by decide) ?_
        exact ih2 (v1 + (1 : Int32)) M2 hf
  unfold f_X12_noMore at hf
  refine k_lv (lv' := [(0, .ref (G.2.1 0))]) [0] rfl ?_
  refine k_iconst C dX12_noMore_0 (v := (0 : Int32)) rfl ?_
  refine k_istore_n C dX12_noMore_1 (by decide) [1, 0] (lv' := [(0, .ref (G.2.1 0)), (1, .int (0 : Int32))]) rfl ?_
  exact k_b2 FU (0 : Int32) M0 hf
theorem dX12_greedily_0 : decode cX12_greedily 0 = .ok (.iload_n 1, 1) := by decide +kernel
theorem dX12_greedily_1 : decode cX12_greedily 1 = .ok (.iconst 0, 1) := by decide +kernel
theorem dX12_greedily_2 : decode cX12_greedily 2 = .ok (.bipush 12, 2) := by decide +kernel
theorem dX12_greedily_4 : decode cX12_greedily 4 = .ok (.invokestatic 68, 3) := by decide +kernel
theorem dX12_greedily_7 : decode cX12_greedily 7 = .ok (.istore_n 3, 1) := by decide +kernel
theorem dX12_greedily_8 : decode cX12_greedily 8 = .ok (.iload_n 3, 1) := by decide +kernel
theorem dX12_greedily_9 : decode cX12_greedily 9 = .ok (.ifCond .ne 15, 3) := by decide +kernel
theorem dX12_greedily_12 : decode cX12_greedily 12 = .ok (.iload_n 2, 1) := by decide +kernel
theorem dX12_greedily_13 : decode cX12_greedily 13 = .ok (.iconst 0, 1) := by decide +kernel
theorem dX12_greedily_14 : decode cX12_greedily 14 = .ok (.iconst 1, 1) := by decide +kernel
theorem dX12_greedily_15 : decode cX12_greedily 15 = .ok (.invokestatic 86, 3) := by decide +kernel
theorem dX12_greedily_18 : decode cX12_greedily 18 = .ok (.ifCond .ne 6, 3) := by decide +kernel
theorem dX12_greedily_21 : decode cX12_greedily 21 = .ok (.bipush (-2), 2) := by decide +kernel
theorem dX12_greedily_23 : decode cX12_greedily 23 = .ok (.istore_n 3, 1) := by decide +kernel
theorem dX12_greedily_24 : decode cX12_greedily 24 = .ok (.iload_n 3, 1) := by decide +kernel
theorem dX12_greedily_25 : decode cX12_greedily 25 = .ok (.ifCond .eq 9, 3) := by decide +kernel
theorem dX12_greedily_28 : decode cX12_greedily 28 = .ok (.aload_n 0, 1) := by decide +kernel
theorem dX12_greedily_29 : decode cX12_greedily 29 = .ok (.iload_n 3, 1) := by decide +kernel
theorem dX12_greedily_30 : decode cX12_greedily 30 = .ok (.invokevirtual 75, 3) := by decide +kernel
theorem dX12_greedily_33 : decode cX12_greedily 33 = .ok (.ireturn, 1) := by decide +kernel
theorem dX12_greedily_34 : decode cX12_greedily 34 = .ok (.aload_n 0, 1) := by decide +kernel
theorem dX12_greedily_35 : decode cX12_greedily 35 = .ok (.invokevirtual 264, 3) := by decide +kernel
theorem dX12_greedily_38 : decode cX12_greedily 38 = .ok (.iconst 0, 1) := by decide +kernel
theorem dX12_greedily_39 : decode cX12_greedily 39 = .ok (.istore 4, 2) := by decide +kernel
theorem dX12_greedily_41 : decode cX12_greedily 41 = .ok (.bipush (-9), 2) := by decide +kernel
theorem dX12_greedily_43 : decode cX12_greedily 43 = .ok (.istore 5, 2) := by decide +kernel
theorem dX12_greedily_45 : decode cX12_greedily 45 = .ok (.iconst 0, 1) := by decide +kernel
theorem dX12_greedily_46 : decode cX12_greedily 46 = .ok (.istore 6, 2) := by decide +kernel
theorem dX12_greedily_48 : decode cX12_greedily 48 = .ok (.iload 6, 2) := by decide +kernel
theorem dX12_greedily_50 : decode cX12_greedily 50 = .ok (.iload_n 1, 1) := by decide +kernel
theorem dX12_greedily_51 : decode cX12_greedily 51 = .ok (.if_icmp .ge 44, 3) := by decide +kernel
theorem dX12_greedily_54 : decode cX12_greedily 54 = .ok (.aload_n 0, 1) := by decide +kernel
theorem dX12_greedily_55 : decode cX12_greedily 55 = .ok (.getfield 62, 3) := by decide +kernel
theorem dX12_greedily_58 : decode cX12_greedily 58 = .ok (.ifCond .le 37, 3) := by decide +kernel
theorem dX12_greedily_61 : decode cX12_greedily 61 = .ok (.aload_n 0, 1) := by decide +kernel
theorem dX12_greedily_62 : decode cX12_greedily 62 = .ok (.invokevirtual 267, 3) := by decide +kernel
theorem dX12_greedily_65 : decode cX12_greedily 65 = .ok (.istore 5, 2) := by decide +kernel
theorem dX12_greedily_67 : decode cX12_greedily 67 = .ok (.iload 4, 2) := by decide +kernel
theorem dX12_greedily_69 : decode cX12_greedily 69 = .ok (.aload_n 0, 1) := by decide +kernel
theorem dX12_greedily_70 : decode cX12_greedily 70 = .ok (.iload 5, 2) := by decide +kernel
theorem dX12_greedily_72 : decode cX12_greedily 72 = .ok (.invokevirtual 261, 3) := by decide +kernel
theorem dX12_greedily_75 : decode cX12_greedily 75 = .ok (.iadd, 1) := by decide +kernel
theorem dX12_greedily_76 : decode cX12_greedily 76 = .ok (.istore 4, 2) := by decide +kernel
theorem dX12_greedily_78 : decode cX12_greedily 78 = .ok (.aload_n 0, 1) := by decide +kernel
theorem dX12_greedily_79 : decode cX12_greedily 79 = .ok (.getfield 59, 3) := by decide +kernel
theorem dX12_greedily_82 : decode cX12_greedily 82 = .ok (.iload 5, 2) := by decide +kernel
theorem dX12_greedily_84 : decode cX12_greedily 84 = .ok (.dup2, 1) := by decide +kernel
theorem dX12_greedily_85 : decode cX12_greedily 85 = .ok (.iaload, 1) := by decide +kernel
theorem dX12_greedily_86 : decode cX12_greedily 86 = .ok (.iconst 1, 1) := by decide +kernel
theorem dX12_greedily_87 : decode cX12_greedily 87 = .ok (.iadd, 1) := by decide +kernel
theorem dX12_greedily_88 : decode cX12_greedily 88 = .ok (.iastore, 1) := by decide +kernel
theorem dX12_greedily_89 : decode cX12_greedily 89 = .ok (.iinc 6 1, 3) := by decide +kernel
theorem dX12_greedily_92 : decode cX12_greedily 92 = .ok (.goto (-44), 3) := by decide +kernel
theorem dX12_greedily_95 : decode cX12_greedily 95 = .ok (.iload_n 2, 1) := by decide +kernel
theorem dX12_greedily_96 : decode cX12_greedily 96 = .ok (.ifCond .ne 8, 3) := by decide +kernel
theorem dX12_greedily_99 : decode cX12_greedily 99 = .ok (.iload 4, 2) := by decide +kernel
theorem dX12_greedily_101 : decode cX12_greedily 101 = .ok (.goto 5, 3) := by decide +kernel
theorem dX12_greedily_104 : decode cX12_greedily 104 = .ok (.iload 5, 2) := by decide +kernel
theorem dX12_greedily_106 : decode cX12_greedily 106 = .ok (.ireturn, 1) := by decide +kernel
set_option maxRecDepth 100000 in
set_option maxHeartbeats 4000000 in
theorem c_X12_greedily {l : Launch} {G : Gx} (hap : k_ap G shR.length) (v1 : Int32) (v2 : Int32) (M0 : Mem) (r : Int32 × Mem) (hf : f_X12_greedily v1 v2 M0 = some r) : k_Met l yX12_greedily cX12_greedily 7 (some .int) 5 113 G shR [.ref (G.2.1 0), .int v1, .int v2] M0 (k_Qi G shR r.1 r.2) := by
  refine k_Met_of (by decide) hap (Nat.le_of_ble_eq_true rfl) ?_
  intro p e s m args below meth c C hr hlk
  have C : Cx p s m args c cX12_greedily RX12 7 G shR := C
  have k_b95 : ∀ (v2 : Int32) (v4 : Int32) (v5 : Int32) (M : Mem), f_X12_greedily_b95 v2 v4 v5 M = some r → K p l e (k_rm 5 113) s m args below meth c 7 G shR (MQ below (k_Qi G shR r.1 r.2) args s 0 0 (k_A G shR.length)) 95 [(2, .int v2), (4, .int v4), (5, .int v5)] [] M := by
    intro v2 v4 v5 M hf
    unfold f_X12_greedily_b95 at hf
    refine k_iload_n C dX12_greedily_95 0 rfl ?_
    rcases ite_g hf with ⟨c6, hf⟩ | ⟨c6, hf⟩
    · refine k_if_ne_f C dX12_greedily_96 (tgt := 104) (by decide) c6 ?_
      refine k_iload C dX12_greedily_99 1 rfl ?_
      refine k_goto C dX12_greedily_101 (tgt := 106) (by decide) ?_
      exact k_iret C hr hlk (prf hf) (prs hf) dX12_greedily_106
    · refine k_if_ne_t C dX12_greedily_96 (tgt := 104) (by decide) c6 ?_
      refine k_iload C dX12_greedily_104 2 rfl ?_
      exact k_iret C hr hlk (prf hf) (prs hf) dX12_greedily_106
  have k_b48 : ∀ (n48 : Nat) (v1 : Int32) (v2 : Int32) (v4 : Int32) (v5 : Int32) (v6 : Int32) (M : Mem), f_X12_greedily_b48 n48 v1 v2 v4 v5 v6 M = some r → K p l e (k_rm 5 113) s m args below meth c 7 G shR (MQ below (k_Qi G shR r.1 r.2) args s 0 0 (k_A G shR.length)) 48 [(0, .ref (G.2.1 0)), (1, .int v1), (2, .int v2), (4, .int v4), (5, .int v5), (6, .int v6)] [] M := by
    intro n48
    induction n48 with
    | zero => intro v1 v2 v4 v5 v6 M hf; simp [f_X12_greedily_b48] at hf
    | succ n48 ih48 =>
      intro v1 v2 v4 v5 v6 M hf
      unfold f_X12_greedily_b48 at hf
      refine k_iload C dX12_greedily_48 5 rfl ?_
      refine k_iload_n C dX12_greedily_50 1 rfl ?_
      rcases ite_g hf with ⟨c5, hf⟩ | ⟨c5, hf⟩
      · refine k_icmp_ge_t C dX12_greedily_51 (tgt := 95) (by decide) c5 ?_
        refine k_lv [2, 3, 4] rfl ?_
        exact k_b95 v2 v4 v5 M hf
      · refine k_icmp_ge_f C dX12_greedily_51 (tgt := 95) (by decide) c5 ?_
        refine k_aload_n C dX12_greedily_54 0 rfl ?_
        refine k_geti C shR_0 (j := 5) rfl FL_X12_62 dX12_greedily_55 ?_
        rcases ite_g hf with ⟨c8, hf⟩ | ⟨c8, hf⟩
        · refine k_if_le_t C dX12_greedily_58 (tgt := 95) (by decide) c8 ?_
          refine k_lv [2, 3, 4] rfl ?_
          exact k_b95 v2 v4 v5 M hf
        · refine k_if_le_f C dX12_greedily_58 (tgt := 95) (by decide) c8 ?_
          refine k_aload_n C dX12_greedily_61 0 rfl ?_
          obtain ⟨t9, ht9, hf⟩ := bnd hf
          refine k_callVi C (As := []) (c_X12_leastWithMore hap M t9 ht9) ML_X12_leastWithMore wd_1720 shR_0 rfl rfl rfl ⟨Nat.le_of_ble_eq_true rfl, Nat.le_of_ble_eq_true rfl⟩ (Nat.le_of_ble_eq_true rfl) dX12_greedily_62 ?_
          refine k_istore C dX12_greedily_65 (by decide) [1, 2, 3, 4, 0, 5] (lv' := [(0, .ref (G.2.1 0)), (1, .int v1), (2, .int v2), (4, .int v4), (5, .int t9), (6, .int v6)]) rfl ?_
          refine k_iload C dX12_greedily_67 3 rfl ?_
          refine k_aload_n C dX12_greedily_69 0 rfl ?_
          refine k_iload C dX12_greedily_70 4 rfl ?_
          obtain ⟨t10, ht10, hf⟩ := bnd hf
          refine k_callVi C (As := [.int t9]) (c_X12_dueWithMore hap t9 M t10 ht10) ML_X12_dueWithMore wd_1724 shR_0 rfl rfl rfl ⟨Nat.le_of_ble_eq_true rfl, Nat.le_of_ble_eq_true rfl⟩ (Nat.le_of_ble_eq_true rfl) dX12_greedily_72 ?_
          refine k_iadd C dX12_greedily_75 ?_
          refine k_istore C dX12_greedily_76 (by decide) [1, 2, 3, 0, 4, 5] (lv' := [(0, .ref (G.2.1 0)), (1, .int v1), (2, .int v2), (4, .int (v4 + t10)), (5, .int t9), (6, .int v6)]) rfl ?_
          refine k_aload_n C dX12_greedily_78 0 rfl ?_
          refine k_getr C shR_0 (j := 28) rfl FL_X12_59 dX12_greedily_79 ?_
          refine k_iload C dX12_greedily_82 4 rfl ?_
          refine k_dup2 C dX12_greedily_84 rfl rfl ?_
          obtain ⟨t11, ht11, hf⟩ := bnd hf
          refine k_iald C shR_17 ht11 dX12_greedily_85 ?_
          refine k_iconst C dX12_greedily_86 (v := (1 : Int32)) rfl ?_
          refine k_iadd C dX12_greedily_87 ?_
          obtain ⟨M12, hM12, hf⟩ := bnd hf
          refine k_iast C shR_17 hM12 dX12_greedily_88 ?_
          refine k_iinc C dX12_greedily_89 5 rfl (v := (v6 + (1 : Int32))) rfl (by decide) [1, 2, 3, 4, 5, 0] (lv' := [(0, .ref (G.2.1 0)), (1, .int v1), (2, .int v2), (4, .int (v4 + t10)), (5, .int t9), (6, .int (v6 + (1 : Int32)))]) rfl ?_
          refine k_goto C dX12_greedily_92 (tgt := 48) (by decide) ?_
          exact ih48 v1 v2 (v4 + t10) t9 (v6 + (1 : Int32)) M12 hf
  have k_b24 : ∀ (v1 : Int32) (v2 : Int32) (v3 : Int32) (M : Mem), f_X12_greedily_b24 v1 v2 v3 M = some r → K p l e (k_rm 5 113) s m args below meth c 7 G shR (MQ below (k_Qi G shR r.1 r.2) args s 0 0 (k_A G shR.length)) 24 [(0, .ref (G.2.1 0)), (1, .int v1), (2, .int v2), (3, .int v3)] [] M := by
    intro v1 v2 v3 M hf
    unfold f_X12_greedily_b24 at hf
    refine k_iload_n C dX12_greedily_24 3 rfl ?_
    rcases ite_g hf with ⟨c2, hf⟩ | ⟨c2, hf⟩
    · refine k_if_eq_t C dX12_greedily_25 (tgt := 34) (by decide) c2 ?_
      refine k_aload_n C dX12_greedily_34 0 rfl ?_
      obtain ⟨M3, hM3, hf⟩ := bnd hf
      refine k_callVv C (As := []) (c_X12_noMore hap M M3 hM3) ML_X12_noMore wd_1716 shR_0 rfl rfl rfl ⟨Nat.le_of_ble_eq_true rfl, Nat.le_of_ble_eq_true rfl⟩ (Nat.le_of_ble_eq_true rfl) dX12_greedily_35 ?_
      refine k_iconst C dX12_greedily_38 (v := (0 : Int32)) rfl ?_
      refine k_istore C dX12_greedily_39 (by decide) [1, 2, 3, 0] (lv' := [(0, .ref (G.2.1 0)), (1, .int v1), (2, .int v2), (4, .int (0 : Int32))]) rfl ?_
      refine k_bipush C dX12_greedily_41 (v := (-9 : Int32)) rfl ?_
      refine k_istore C dX12_greedily_43 (by decide) [1, 2, 3, 4, 0] (lv' := [(0, .ref (G.2.1 0)), (1, .int v1), (2, .int v2), (4, .int (0 : Int32)), (5, .int (-9 : Int32))]) rfl ?_
      refine k_iconst C dX12_greedily_45 (v := (0 : Int32)) rfl ?_
      refine k_istore C dX12_greedily_46 (by decide) [1, 2, 3, 4, 5, 0] (lv' := [(0, .ref (G.2.1 0)), (1, .int v1), (2, .int v2), (4, .int (0 : Int32)), (5, .int (-9 : Int32)), (6, .int (0 : Int32))]) rfl ?_
      exact k_b48 FU v1 v2 (0 : Int32) (-9 : Int32) (0 : Int32) M3 hf
    · refine k_if_eq_f C dX12_greedily_25 (tgt := 34) (by decide) c2 ?_
      refine k_aload_n C dX12_greedily_28 0 rfl ?_
      refine k_iload_n C dX12_greedily_29 3 rfl ?_
      obtain ⟨⟨t13, M13⟩, ht13, hf⟩ := bnd hf
      replace hf := bp_s hf
      refine k_callVi C (As := [.int v3]) (c_X12_no hap v3 M (t13, M13) ht13) ML_X12_no wd_1369 shR_0 rfl rfl rfl ⟨Nat.le_of_ble_eq_true rfl, Nat.le_of_ble_eq_true rfl⟩ (Nat.le_of_ble_eq_true rfl) dX12_greedily_30 ?_
      exact k_iret C hr hlk (prf hf) (prs hf) dX12_greedily_33
  unfold f_X12_greedily at hf
  refine k_lv (lv' := [(0, .ref (G.2.1 0)), (1, .int v1), (2, .int v2)]) [0, 1, 2] rfl ?_
  refine k_iload_n C dX12_greedily_0 1 rfl ?_
  refine k_iconst C dX12_greedily_1 (v := (0 : Int32)) rfl ?_
  refine k_bipush C dX12_greedily_2 (v := (12 : Int32)) rfl ?_
  refine k_callSi C (As := [.int v1, .int (0 : Int32), .int (12 : Int32)]) (c_X12_bound hap v1 (0 : Int32) (12 : Int32) M0 _ rfl) MS_X12_bound wd_1366 rfl rfl ⟨Nat.le_of_ble_eq_true rfl, Nat.le_of_ble_eq_true rfl⟩ (Nat.le_of_ble_eq_true rfl) dX12_greedily_4 ?_
  refine k_istore_n C dX12_greedily_7 (by decide) [1, 2, 3, 0] (lv' := [(0, .ref (G.2.1 0)), (1, .int v1), (2, .int v2), (3, .int (f_X12_bound v1 (0 : Int32) (12 : Int32)))]) rfl ?_
  refine k_iload_n C dX12_greedily_8 3 rfl ?_
  rcases ite_g hf with ⟨c1, hf⟩ | ⟨c1, hf⟩
  · refine k_if_ne_f C dX12_greedily_9 (tgt := 24) (by decide) c1 ?_
    refine k_iload_n C dX12_greedily_12 2 rfl ?_
    refine k_iconst C dX12_greedily_13 (v := (0 : Int32)) rfl ?_
    refine k_iconst C dX12_greedily_14 (v := (1 : Int32)) rfl ?_
    refine k_callSi C (As := [.int v2, .int (0 : Int32), .int (1 : Int32)]) (c_X12_isIn hap v2 (0 : Int32) (1 : Int32) M0 _ rfl) MS_X12_isIn wd_1393 rfl rfl ⟨Nat.le_of_ble_eq_true rfl, Nat.le_of_ble_eq_true rfl⟩ (Nat.le_of_ble_eq_true rfl) dX12_greedily_15 ?_
    rcases ite_g hf with ⟨c14, hf⟩ | ⟨c14, hf⟩
    · refine k_if_ne_f C dX12_greedily_18 (tgt := 24) (by decide) c14 ?_
      refine k_bipush C dX12_greedily_21 (v := (-2 : Int32)) rfl ?_
      refine k_istore_n C dX12_greedily_23 (by decide) [1, 2, 3, 0] (lv' := [(0, .ref (G.2.1 0)), (1, .int v1), (2, .int v2), (3, .int (-2 : Int32))]) rfl ?_
      exact k_b24 v1 v2 (-2 : Int32) M0 hf
    · refine k_if_ne_t C dX12_greedily_18 (tgt := 24) (by decide) c14 ?_
      exact k_b24 v1 v2 (f_X12_bound v1 (0 : Int32) (12 : Int32)) M0 hf
  · refine k_if_ne_t C dX12_greedily_9 (tgt := 24) (by decide) c1 ?_
    exact k_b24 v1 v2 (f_X12_bound v1 (0 : Int32) (12 : Int32)) M0 hf
theorem dX12_quota_0 : decode cX12_quota 0 = .ok (.iload_n 1, 1) := by decide +kernel
theorem dX12_quota_1 : decode cX12_quota 1 = .ok (.iconst 0, 1) := by decide +kernel
theorem dX12_quota_2 : decode cX12_quota 2 = .ok (.sipush 999, 3) := by decide +kernel
theorem dX12_quota_5 : decode cX12_quota 5 = .ok (.invokestatic 68, 3) := by decide +kernel
theorem dX12_quota_8 : decode cX12_quota 8 = .ok (.istore_n 2, 1) := by decide +kernel
theorem dX12_quota_9 : decode cX12_quota 9 = .ok (.iload_n 2, 1) := by decide +kernel
theorem dX12_quota_10 : decode cX12_quota 10 = .ok (.ifCond .eq 9, 3) := by decide +kernel
theorem dX12_quota_13 : decode cX12_quota 13 = .ok (.aload_n 0, 1) := by decide +kernel
theorem dX12_quota_14 : decode cX12_quota 14 = .ok (.iload_n 2, 1) := by decide +kernel
theorem dX12_quota_15 : decode cX12_quota 15 = .ok (.invokevirtual 75, 3) := by decide +kernel
theorem dX12_quota_18 : decode cX12_quota 18 = .ok (.ireturn, 1) := by decide +kernel
theorem dX12_quota_19 : decode cX12_quota 19 = .ok (.aload_n 0, 1) := by decide +kernel
theorem dX12_quota_20 : decode cX12_quota 20 = .ok (.invokevirtual 264, 3) := by decide +kernel
theorem dX12_quota_23 : decode cX12_quota 23 = .ok (.iconst 0, 1) := by decide +kernel
theorem dX12_quota_24 : decode cX12_quota 24 = .ok (.istore_n 3, 1) := by decide +kernel
theorem dX12_quota_25 : decode cX12_quota 25 = .ok (.iconst 0, 1) := by decide +kernel
theorem dX12_quota_26 : decode cX12_quota 26 = .ok (.istore 4, 2) := by decide +kernel
theorem dX12_quota_28 : decode cX12_quota 28 = .ok (.iload 4, 2) := by decide +kernel
theorem dX12_quota_30 : decode cX12_quota 30 = .ok (.bipush 60, 2) := by decide +kernel
theorem dX12_quota_32 : decode cX12_quota 32 = .ok (.if_icmp .ge 50, 3) := by decide +kernel
theorem dX12_quota_35 : decode cX12_quota 35 = .ok (.aload_n 0, 1) := by decide +kernel
theorem dX12_quota_36 : decode cX12_quota 36 = .ok (.getfield 62, 3) := by decide +kernel
theorem dX12_quota_39 : decode cX12_quota 39 = .ok (.ifCond .le 43, 3) := by decide +kernel
theorem dX12_quota_42 : decode cX12_quota 42 = .ok (.aload_n 0, 1) := by decide +kernel
theorem dX12_quota_43 : decode cX12_quota 43 = .ok (.invokevirtual 267, 3) := by decide +kernel
theorem dX12_quota_46 : decode cX12_quota 46 = .ok (.istore 5, 2) := by decide +kernel
theorem dX12_quota_48 : decode cX12_quota 48 = .ok (.iload_n 3, 1) := by decide +kernel
theorem dX12_quota_49 : decode cX12_quota 49 = .ok (.aload_n 0, 1) := by decide +kernel
theorem dX12_quota_50 : decode cX12_quota 50 = .ok (.iload 5, 2) := by decide +kernel
theorem dX12_quota_52 : decode cX12_quota 52 = .ok (.invokevirtual 261, 3) := by decide +kernel
theorem dX12_quota_55 : decode cX12_quota 55 = .ok (.iadd, 1) := by decide +kernel
theorem dX12_quota_56 : decode cX12_quota 56 = .ok (.istore_n 3, 1) := by decide +kernel
theorem dX12_quota_57 : decode cX12_quota 57 = .ok (.aload_n 0, 1) := by decide +kernel
theorem dX12_quota_58 : decode cX12_quota 58 = .ok (.getfield 59, 3) := by decide +kernel
theorem dX12_quota_61 : decode cX12_quota 61 = .ok (.iload 5, 2) := by decide +kernel
theorem dX12_quota_63 : decode cX12_quota 63 = .ok (.dup2, 1) := by decide +kernel
theorem dX12_quota_64 : decode cX12_quota 64 = .ok (.iaload, 1) := by decide +kernel
theorem dX12_quota_65 : decode cX12_quota 65 = .ok (.iconst 1, 1) := by decide +kernel
theorem dX12_quota_66 : decode cX12_quota 66 = .ok (.iadd, 1) := by decide +kernel
theorem dX12_quota_67 : decode cX12_quota 67 = .ok (.iastore, 1) := by decide +kernel
theorem dX12_quota_68 : decode cX12_quota 68 = .ok (.iload_n 3, 1) := by decide +kernel
theorem dX12_quota_69 : decode cX12_quota 69 = .ok (.iload_n 1, 1) := by decide +kernel
theorem dX12_quota_70 : decode cX12_quota 70 = .ok (.if_icmp .le 6, 3) := by decide +kernel
theorem dX12_quota_73 : decode cX12_quota 73 = .ok (.iload 4, 2) := by decide +kernel
theorem dX12_quota_75 : decode cX12_quota 75 = .ok (.ireturn, 1) := by decide +kernel
theorem dX12_quota_76 : decode cX12_quota 76 = .ok (.iinc 4 1, 3) := by decide +kernel
theorem dX12_quota_79 : decode cX12_quota 79 = .ok (.goto (-51), 3) := by decide +kernel
theorem dX12_quota_82 : decode cX12_quota 82 = .ok (.bipush 60, 2) := by decide +kernel
theorem dX12_quota_84 : decode cX12_quota 84 = .ok (.ireturn, 1) := by decide +kernel
set_option maxRecDepth 100000 in
set_option maxHeartbeats 4000000 in
theorem c_X12_quota {l : Launch} {G : Gx} (hap : k_ap G shR.length) (v1 : Int32) (M0 : Mem) (r : Int32 × Mem) (hf : f_X12_quota v1 M0 = some r) : k_Met l yX12_quota cX12_quota 6 (some .int) 5 113 G shR [.ref (G.2.1 0), .int v1] M0 (k_Qi G shR r.1 r.2) := by
  refine k_Met_of (by decide) hap (Nat.le_of_ble_eq_true rfl) ?_
  intro p e s m args below meth c C hr hlk
  have C : Cx p s m args c cX12_quota RX12 6 G shR := C
  have k_b28 : ∀ (n28 : Nat) (v1 : Int32) (v3 : Int32) (v4 : Int32) (M : Mem), f_X12_quota_b28 n28 v1 v3 v4 M = some r → K p l e (k_rm 5 113) s m args below meth c 6 G shR (MQ below (k_Qi G shR r.1 r.2) args s 0 0 (k_A G shR.length)) 28 [(0, .ref (G.2.1 0)), (1, .int v1), (3, .int v3), (4, .int v4)] [] M := by
    intro n28
    induction n28 with
    | zero => intro v1 v3 v4 M hf; simp [f_X12_quota_b28] at hf
    | succ n28 ih28 =>
      intro v1 v3 v4 M hf
      unfold f_X12_quota_b28 at hf
      refine k_iload C dX12_quota_28 3 rfl ?_
      refine k_bipush C dX12_quota_30 (v := (60 : Int32)) rfl ?_
      rcases ite_g hf with ⟨c3, hf⟩ | ⟨c3, hf⟩
      · refine k_icmp_ge_t C dX12_quota_32 (tgt := 82) (by decide) c3 ?_
        refine k_bipush C dX12_quota_82 (v := (60 : Int32)) rfl ?_
        exact k_iret C hr hlk (prf hf) (prs hf) dX12_quota_84
      · refine k_icmp_ge_f C dX12_quota_32 (tgt := 82) (by decide) c3 ?_
        refine k_aload_n C dX12_quota_35 0 rfl ?_
        refine k_geti C shR_0 (j := 5) rfl FL_X12_62 dX12_quota_36 ?_
        rcases ite_g hf with ⟨c4, hf⟩ | ⟨c4, hf⟩
        · refine k_if_le_t C dX12_quota_39 (tgt := 82) (by decide) c4 ?_
          refine k_bipush C dX12_quota_82 (v := (60 : Int32)) rfl ?_
          exact k_iret C hr hlk (prf hf) (prs hf) dX12_quota_84
        · refine k_if_le_f C dX12_quota_39 (tgt := 82) (by decide) c4 ?_
          refine k_aload_n C dX12_quota_42 0 rfl ?_
          obtain ⟨t5, ht5, hf⟩ := bnd hf
          refine k_callVi C (As := []) (c_X12_leastWithMore hap M t5 ht5) ML_X12_leastWithMore wd_1720 shR_0 rfl rfl rfl ⟨Nat.le_of_ble_eq_true rfl, Nat.le_of_ble_eq_true rfl⟩ (Nat.le_of_ble_eq_true rfl) dX12_quota_43 ?_
          refine k_istore C dX12_quota_46 (by decide) [1, 2, 3, 4, 0] (lv' := [(0, .ref (G.2.1 0)), (1, .int v1), (3, .int v3), (4, .int v4), (5, .int t5)]) rfl ?_
          refine k_iload_n C dX12_quota_48 2 rfl ?_
          refine k_aload_n C dX12_quota_49 0 rfl ?_
          refine k_iload C dX12_quota_50 4 rfl ?_
          obtain ⟨t6, ht6, hf⟩ := bnd hf
          refine k_callVi C (As := [.int t5]) (c_X12_dueWithMore hap t5 M t6 ht6) ML_X12_dueWithMore wd_1724 shR_0 rfl rfl rfl ⟨Nat.le_of_ble_eq_true rfl, Nat.le_of_ble_eq_true rfl⟩ (Nat.le_of_ble_eq_true rfl) dX12_quota_52 ?_
          refine k_iadd C dX12_quota_55 ?_
          refine k_istore_n C dX12_quota_56 (by decide) [1, 2, 0, 3, 4] (lv' := [(0, .ref (G.2.1 0)), (1, .int v1), (3, .int (v3 + t6)), (4, .int v4), (5, .int t5)]) rfl ?_
          refine k_aload_n C dX12_quota_57 0 rfl ?_
          refine k_getr C shR_0 (j := 28) rfl FL_X12_59 dX12_quota_58 ?_
          refine k_iload C dX12_quota_61 4 rfl ?_
          refine k_dup2 C dX12_quota_63 rfl rfl ?_
          obtain ⟨t7, ht7, hf⟩ := bnd hf
          refine k_iald C shR_17 ht7 dX12_quota_64 ?_
          refine k_iconst C dX12_quota_65 (v := (1 : Int32)) rfl ?_
          refine k_iadd C dX12_quota_66 ?_
          obtain ⟨M8, hM8, hf⟩ := bnd hf
          refine k_iast C shR_17 hM8 dX12_quota_67 ?_
          refine k_iload_n C dX12_quota_68 2 rfl ?_
          refine k_iload_n C dX12_quota_69 1 rfl ?_
          rcases ite_g hf with ⟨c9, hf⟩ | ⟨c9, hf⟩
          · refine k_icmp_le_t C dX12_quota_70 (tgt := 76) (by decide) c9 ?_
            refine k_iinc C dX12_quota_76 3 rfl (v := (v4 + (1 : Int32))) rfl (by decide) [1, 2, 3, 0] (lv' := [(0, .ref (G.2.1 0)), (1, .int v1), (3, .int (v3 + t6)), (4, .int (v4 + (1 : Int32)))]) rfl ?_
            refine k_goto C dX12_quota_79 (tgt := 28) (by decide) ?_
            exact ih28 v1 (v3 + t6) (v4 + (1 : Int32)) M8 hf
          · refine k_icmp_le_f C dX12_quota_70 (tgt := 76) (by decide) c9 ?_
            refine k_iload C dX12_quota_73 3 rfl ?_
            exact k_iret C hr hlk (prf hf) (prs hf) dX12_quota_75
  unfold f_X12_quota at hf
  refine k_lv (lv' := [(0, .ref (G.2.1 0)), (1, .int v1)]) [0, 1] rfl ?_
  refine k_iload_n C dX12_quota_0 1 rfl ?_
  refine k_iconst C dX12_quota_1 (v := (0 : Int32)) rfl ?_
  refine k_sipush C dX12_quota_2 (v := (999 : Int32)) rfl ?_
  refine k_callSi C (As := [.int v1, .int (0 : Int32), .int (999 : Int32)]) (c_X12_bound hap v1 (0 : Int32) (999 : Int32) M0 _ rfl) MS_X12_bound wd_1366 rfl rfl ⟨Nat.le_of_ble_eq_true rfl, Nat.le_of_ble_eq_true rfl⟩ (Nat.le_of_ble_eq_true rfl) dX12_quota_5 ?_
  refine k_istore_n C dX12_quota_8 (by decide) [1, 2, 0] (lv' := [(0, .ref (G.2.1 0)), (1, .int v1), (2, .int (f_X12_bound v1 (0 : Int32) (999 : Int32)))]) rfl ?_
  refine k_iload_n C dX12_quota_9 2 rfl ?_
  rcases ite_g hf with ⟨c1, hf⟩ | ⟨c1, hf⟩
  · refine k_if_eq_t C dX12_quota_10 (tgt := 19) (by decide) c1 ?_
    refine k_aload_n C dX12_quota_19 0 rfl ?_
    obtain ⟨M2, hM2, hf⟩ := bnd hf
    refine k_callVv C (As := []) (c_X12_noMore hap M0 M2 hM2) ML_X12_noMore wd_1716 shR_0 rfl rfl rfl ⟨Nat.le_of_ble_eq_true rfl, Nat.le_of_ble_eq_true rfl⟩ (Nat.le_of_ble_eq_true rfl) dX12_quota_20 ?_
    refine k_iconst C dX12_quota_23 (v := (0 : Int32)) rfl ?_
    refine k_istore_n C dX12_quota_24 (by decide) [1, 2, 0] (lv' := [(0, .ref (G.2.1 0)), (1, .int v1), (3, .int (0 : Int32))]) rfl ?_
    refine k_iconst C dX12_quota_25 (v := (0 : Int32)) rfl ?_
    refine k_istore C dX12_quota_26 (by decide) [1, 2, 3, 0] (lv' := [(0, .ref (G.2.1 0)), (1, .int v1), (3, .int (0 : Int32)), (4, .int (0 : Int32))]) rfl ?_
    exact k_b28 FU v1 (0 : Int32) (0 : Int32) M2 hf
  · refine k_if_eq_f C dX12_quota_10 (tgt := 19) (by decide) c1 ?_
    refine k_aload_n C dX12_quota_13 0 rfl ?_
    refine k_iload_n C dX12_quota_14 2 rfl ?_
    obtain ⟨⟨t10, M10⟩, ht10, hf⟩ := bnd hf
    replace hf := bp_s hf
    refine k_callVi C (As := [.int (f_X12_bound v1 (0 : Int32) (999 : Int32))]) (c_X12_no hap (f_X12_bound v1 (0 : Int32) (999 : Int32)) M0 (t10, M10) ht10) ML_X12_no wd_1369 shR_0 rfl rfl rfl ⟨Nat.le_of_ble_eq_true rfl, Nat.le_of_ble_eq_true rfl⟩ (Nat.le_of_ble_eq_true rfl) dX12_quota_15 ?_
    exact k_iret C hr hlk (prf hf) (prs hf) dX12_quota_18
theorem dX12_dueOfPair_0 : decode cX12_dueOfPair 0 = .ok (.aload_n 0, 1) := by decide +kernel
theorem dX12_dueOfPair_1 : decode cX12_dueOfPair 1 = .ok (.iload_n 1, 1) := by decide +kernel
theorem dX12_dueOfPair_2 : decode cX12_dueOfPair 2 = .ok (.iload_n 2, 1) := by decide +kernel
theorem dX12_dueOfPair_3 : decode cX12_dueOfPair 3 = .ok (.invokevirtual 154, 3) := by decide +kernel
theorem dX12_dueOfPair_6 : decode cX12_dueOfPair 6 = .ok (.ifCond .eq 7, 3) := by decide +kernel
theorem dX12_dueOfPair_9 : decode cX12_dueOfPair 9 = .ok (.iconst 2, 1) := by decide +kernel
theorem dX12_dueOfPair_10 : decode cX12_dueOfPair 10 = .ok (.goto 4, 3) := by decide +kernel
theorem dX12_dueOfPair_13 : decode cX12_dueOfPair 13 = .ok (.iconst 1, 1) := by decide +kernel
theorem dX12_dueOfPair_14 : decode cX12_dueOfPair 14 = .ok (.istore 4, 2) := by decide +kernel
theorem dX12_dueOfPair_16 : decode cX12_dueOfPair 16 = .ok (.iconst 0, 1) := by decide +kernel
theorem dX12_dueOfPair_17 : decode cX12_dueOfPair 17 = .ok (.istore 5, 2) := by decide +kernel
theorem dX12_dueOfPair_19 : decode cX12_dueOfPair 19 = .ok (.iconst 0, 1) := by decide +kernel
theorem dX12_dueOfPair_20 : decode cX12_dueOfPair 20 = .ok (.istore 6, 2) := by decide +kernel
theorem dX12_dueOfPair_22 : decode cX12_dueOfPair 22 = .ok (.iload 6, 2) := by decide +kernel
theorem dX12_dueOfPair_24 : decode cX12_dueOfPair 24 = .ok (.iload_n 3, 1) := by decide +kernel
theorem dX12_dueOfPair_25 : decode cX12_dueOfPair 25 = .ok (.if_icmp .ge 40, 3) := by decide +kernel
theorem dX12_dueOfPair_28 : decode cX12_dueOfPair 28 = .ok (.iload 5, 2) := by decide +kernel
theorem dX12_dueOfPair_30 : decode cX12_dueOfPair 30 = .ok (.aload_n 0, 1) := by decide +kernel
theorem dX12_dueOfPair_31 : decode cX12_dueOfPair 31 = .ok (.iload_n 1, 1) := by decide +kernel
theorem dX12_dueOfPair_32 : decode cX12_dueOfPair 32 = .ok (.iload 4, 2) := by decide +kernel
theorem dX12_dueOfPair_34 : decode cX12_dueOfPair 34 = .ok (.iload 6, 2) := by decide +kernel
theorem dX12_dueOfPair_36 : decode cX12_dueOfPair 36 = .ok (.imul, 1) := by decide +kernel
theorem dX12_dueOfPair_37 : decode cX12_dueOfPair 37 = .ok (.invokevirtual 161, 3) := by decide +kernel
theorem dX12_dueOfPair_40 : decode cX12_dueOfPair 40 = .ok (.aload_n 0, 1) := by decide +kernel
theorem dX12_dueOfPair_41 : decode cX12_dueOfPair 41 = .ok (.iload_n 2, 1) := by decide +kernel
theorem dX12_dueOfPair_42 : decode cX12_dueOfPair 42 = .ok (.iload 4, 2) := by decide +kernel
theorem dX12_dueOfPair_44 : decode cX12_dueOfPair 44 = .ok (.iload 6, 2) := by decide +kernel
theorem dX12_dueOfPair_46 : decode cX12_dueOfPair 46 = .ok (.imul, 1) := by decide +kernel
theorem dX12_dueOfPair_47 : decode cX12_dueOfPair 47 = .ok (.iload 4, 2) := by decide +kernel
theorem dX12_dueOfPair_49 : decode cX12_dueOfPair 49 = .ok (.iadd, 1) := by decide +kernel
theorem dX12_dueOfPair_50 : decode cX12_dueOfPair 50 = .ok (.iconst 1, 1) := by decide +kernel
theorem dX12_dueOfPair_51 : decode cX12_dueOfPair 51 = .ok (.isub, 1) := by decide +kernel
theorem dX12_dueOfPair_52 : decode cX12_dueOfPair 52 = .ok (.invokevirtual 161, 3) := by decide +kernel
theorem dX12_dueOfPair_55 : decode cX12_dueOfPair 55 = .ok (.iadd, 1) := by decide +kernel
theorem dX12_dueOfPair_56 : decode cX12_dueOfPair 56 = .ok (.iadd, 1) := by decide +kernel
theorem dX12_dueOfPair_57 : decode cX12_dueOfPair 57 = .ok (.istore 5, 2) := by decide +kernel
theorem dX12_dueOfPair_59 : decode cX12_dueOfPair 59 = .ok (.iinc 6 1, 3) := by decide +kernel
theorem dX12_dueOfPair_62 : decode cX12_dueOfPair 62 = .ok (.goto (-40), 3) := by decide +kernel
theorem dX12_dueOfPair_65 : decode cX12_dueOfPair 65 = .ok (.iload 5, 2) := by decide +kernel
theorem dX12_dueOfPair_67 : decode cX12_dueOfPair 67 = .ok (.ireturn, 1) := by decide +kernel
set_option maxRecDepth 100000 in
set_option maxHeartbeats 4000000 in
theorem c_X12_dueOfPair {l : Launch} {G : Gx} (hap : k_ap G shR.length) (v1 : Int32) (v2 : Int32) (v3 : Int32) (M0 : Mem) (r : Int32) (hf : f_X12_dueOfPair v1 v2 v3 M0 = some r) : k_Met l yX12_dueOfPair cX12_dueOfPair 7 (some .int) 2 44 G shR [.ref (G.2.1 0), .int v1, .int v2, .int v3] M0 (k_Qi G shR r M0) := by
  refine k_Met_of (by decide) hap (Nat.le_of_ble_eq_true rfl) ?_
  intro p e s m args below meth c C hr hlk
  have C : Cx p s m args c cX12_dueOfPair RX12 7 G shR := C
  have k_b22 : ∀ (n22 : Nat) (v1 : Int32) (v2 : Int32) (v3 : Int32) (v4 : Int32) (v5 : Int32) (v6 : Int32), f_X12_dueOfPair_b22 M0 n22 v1 v2 v3 v4 v5 v6 = some r → K p l e (k_rm 2 44) s m args below meth c 7 G shR (MQ below (k_Qi G shR r M0) args s 0 0 (k_A G shR.length)) 22 [(0, .ref (G.2.1 0)), (1, .int v1), (2, .int v2), (3, .int v3), (4, .int v4), (5, .int v5), (6, .int v6)] [] M0 := by
    intro n22
    induction n22 with
    | zero => intro v1 v2 v3 v4 v5 v6 hf; simp [f_X12_dueOfPair_b22] at hf
    | succ n22 ih22 =>
      intro v1 v2 v3 v4 v5 v6 hf
      unfold f_X12_dueOfPair_b22 at hf
      refine k_iload C dX12_dueOfPair_22 6 rfl ?_
      refine k_iload_n C dX12_dueOfPair_24 3 rfl ?_
      rcases ite_g hf with ⟨c3, hf⟩ | ⟨c3, hf⟩
      · refine k_icmp_ge_t C dX12_dueOfPair_25 (tgt := 65) (by decide) c3 ?_
        refine k_iload C dX12_dueOfPair_65 5 rfl ?_
        exact k_iret C hr hlk (Option.some.inj hf) rfl dX12_dueOfPair_67
      · refine k_icmp_ge_f C dX12_dueOfPair_25 (tgt := 65) (by decide) c3 ?_
        refine k_iload C dX12_dueOfPair_28 5 rfl ?_
        refine k_aload_n C dX12_dueOfPair_30 0 rfl ?_
        refine k_iload_n C dX12_dueOfPair_31 1 rfl ?_
        refine k_iload C dX12_dueOfPair_32 4 rfl ?_
        refine k_iload C dX12_dueOfPair_34 6 rfl ?_
        refine k_imul C dX12_dueOfPair_36 ?_
        obtain ⟨t4, ht4, hf⟩ := bnd hf
        refine k_callVi C (As := [.int v1, .int (v4 * v6)]) (c_X12_dueOf hap v1 (v4 * v6) M0 t4 ht4) ML_X12_dueOf wd_1466 shR_0 rfl rfl rfl ⟨Nat.le_of_ble_eq_true rfl, Nat.le_of_ble_eq_true rfl⟩ (Nat.le_of_ble_eq_true rfl) dX12_dueOfPair_37 ?_
        refine k_aload_n C dX12_dueOfPair_40 0 rfl ?_
        refine k_iload_n C dX12_dueOfPair_41 2 rfl ?_
        refine k_iload C dX12_dueOfPair_42 4 rfl ?_
        refine k_iload C dX12_dueOfPair_44 6 rfl ?_
        refine k_imul C dX12_dueOfPair_46 ?_
        refine k_iload C dX12_dueOfPair_47 4 rfl ?_
        refine k_iadd C dX12_dueOfPair_49 ?_
        refine k_iconst C dX12_dueOfPair_50 (v := (1 : Int32)) rfl ?_
        refine k_isub C dX12_dueOfPair_51 ?_
        obtain ⟨t5, ht5, hf⟩ := bnd hf
        refine k_callVi C (As := [.int v2, .int (((v4 * v6) + v4) - (1 : Int32))]) (c_X12_dueOf hap v2 (((v4 * v6) + v4) - (1 : Int32)) M0 t5 ht5) ML_X12_dueOf wd_1466 shR_0 rfl rfl rfl ⟨Nat.le_of_ble_eq_true rfl, Nat.le_of_ble_eq_true rfl⟩ (Nat.le_of_ble_eq_true rfl) dX12_dueOfPair_52 ?_
        refine k_iadd C dX12_dueOfPair_55 ?_
        refine k_iadd C dX12_dueOfPair_56 ?_
        refine k_istore C dX12_dueOfPair_57 (by decide) [1, 2, 3, 4, 5, 0, 6] (lv' := [(0, .ref (G.2.1 0)), (1, .int v1), (2, .int v2), (3, .int v3), (4, .int v4), (5, .int (v5 + (t4 + t5))), (6, .int v6)]) rfl ?_
        refine k_iinc C dX12_dueOfPair_59 6 rfl (v := (v6 + (1 : Int32))) rfl (by decide) [1, 2, 3, 4, 5, 6, 0] (lv' := [(0, .ref (G.2.1 0)), (1, .int v1), (2, .int v2), (3, .int v3), (4, .int v4), (5, .int (v5 + (t4 + t5))), (6, .int (v6 + (1 : Int32)))]) rfl ?_
        refine k_goto C dX12_dueOfPair_62 (tgt := 22) (by decide) ?_
        exact ih22 v1 v2 v3 v4 (v5 + (t4 + t5)) (v6 + (1 : Int32)) hf
  unfold f_X12_dueOfPair at hf
  refine k_lv (lv' := [(0, .ref (G.2.1 0)), (1, .int v1), (2, .int v2), (3, .int v3)]) [0, 1, 2, 3] rfl ?_
  refine k_aload_n C dX12_dueOfPair_0 0 rfl ?_
  refine k_iload_n C dX12_dueOfPair_1 1 rfl ?_
  refine k_iload_n C dX12_dueOfPair_2 2 rfl ?_
  obtain ⟨t1, ht1, hf⟩ := bnd hf
  refine k_callVi C (As := [.int v1, .int v2]) (c_X12_areSame hap v1 v2 M0 t1 ht1) ML_X12_areSame wd_1459 shR_0 rfl rfl rfl ⟨Nat.le_of_ble_eq_true rfl, Nat.le_of_ble_eq_true rfl⟩ (Nat.le_of_ble_eq_true rfl) dX12_dueOfPair_3 ?_
  have hj6 : K p l e (k_rm 2 44) s m args below meth c 7 G shR (MQ below (k_Qi G shR r M0) args s 0 0 (k_A G shR.length)) 14 [(0, .ref (G.2.1 0)), (1, .int v1), (2, .int v2), (3, .int v3)] [.int (if t1 = 0 then (1 : Int32) else (2 : Int32))] M0 := by
    refine k_istore C dX12_dueOfPair_14 (by decide) [1, 2, 3, 4, 0] (lv' := [(0, .ref (G.2.1 0)), (1, .int v1), (2, .int v2), (3, .int v3), (4, .int (if t1 = 0 then (1 : Int32) else (2 : Int32)))]) rfl ?_
    refine k_iconst C dX12_dueOfPair_16 (v := (0 : Int32)) rfl ?_
    refine k_istore C dX12_dueOfPair_17 (by decide) [1, 2, 3, 4, 5, 0] (lv' := [(0, .ref (G.2.1 0)), (1, .int v1), (2, .int v2), (3, .int v3), (4, .int (if t1 = 0 then (1 : Int32) else (2 : Int32))), (5, .int (0 : Int32))]) rfl ?_
    refine k_iconst C dX12_dueOfPair_19 (v := (0 : Int32)) rfl ?_
    refine k_istore C dX12_dueOfPair_20 (by decide) [1, 2, 3, 4, 5, 6, 0] (lv' := [(0, .ref (G.2.1 0)), (1, .int v1), (2, .int v2), (3, .int v3), (4, .int (if t1 = 0 then (1 : Int32) else (2 : Int32))), (5, .int (0 : Int32)), (6, .int (0 : Int32))]) rfl ?_
    exact k_b22 FU v1 v2 v3 (if t1 = 0 then (1 : Int32) else (2 : Int32)) (0 : Int32) (0 : Int32) hf
  by_cases c7 : t1 = 0
  · refine k_if_eq_t C dX12_dueOfPair_6 (tgt := 13) (by decide) c7 ?_
    refine k_iconst C dX12_dueOfPair_13 (v := (1 : Int32)) rfl ?_
    exact k_val (by rw [if_pos c7]) hj6
  · refine k_if_eq_f C dX12_dueOfPair_6 (tgt := 13) (by decide) c7 ?_
    refine k_iconst C dX12_dueOfPair_9 (v := (2 : Int32)) rfl ?_
    refine k_goto C dX12_dueOfPair_10 (tgt := 14) (by decide) ?_
    exact k_val (by rw [if_neg c7]) hj6
theorem dX12_pair_0 : decode cX12_pair 0 = .ok (.iload_n 1, 1) := by decide +kernel
theorem dX12_pair_1 : decode cX12_pair 1 = .ok (.iconst 0, 1) := by decide +kernel
theorem dX12_pair_2 : decode cX12_pair 2 = .ok (.bipush 6, 2) := by decide +kernel
theorem dX12_pair_4 : decode cX12_pair 4 = .ok (.invokestatic 68, 3) := by decide +kernel
theorem dX12_pair_7 : decode cX12_pair 7 = .ok (.istore_n 3, 1) := by decide +kernel
theorem dX12_pair_8 : decode cX12_pair 8 = .ok (.iload_n 3, 1) := by decide +kernel
theorem dX12_pair_9 : decode cX12_pair 9 = .ok (.ifCond .ne 15, 3) := by decide +kernel
theorem dX12_pair_12 : decode cX12_pair 12 = .ok (.iload_n 2, 1) := by decide +kernel
theorem dX12_pair_13 : decode cX12_pair 13 = .ok (.iconst 0, 1) := by decide +kernel
theorem dX12_pair_14 : decode cX12_pair 14 = .ok (.iconst 1, 1) := by decide +kernel
theorem dX12_pair_15 : decode cX12_pair 15 = .ok (.invokestatic 86, 3) := by decide +kernel
theorem dX12_pair_18 : decode cX12_pair 18 = .ok (.ifCond .ne 6, 3) := by decide +kernel
theorem dX12_pair_21 : decode cX12_pair 21 = .ok (.bipush (-2), 2) := by decide +kernel
theorem dX12_pair_23 : decode cX12_pair 23 = .ok (.istore_n 3, 1) := by decide +kernel
theorem dX12_pair_24 : decode cX12_pair 24 = .ok (.iload_n 3, 1) := by decide +kernel
theorem dX12_pair_25 : decode cX12_pair 25 = .ok (.ifCond .eq 9, 3) := by decide +kernel
theorem dX12_pair_28 : decode cX12_pair 28 = .ok (.aload_n 0, 1) := by decide +kernel
theorem dX12_pair_29 : decode cX12_pair 29 = .ok (.iload_n 3, 1) := by decide +kernel
theorem dX12_pair_30 : decode cX12_pair 30 = .ok (.invokevirtual 75, 3) := by decide +kernel
theorem dX12_pair_33 : decode cX12_pair 33 = .ok (.ireturn, 1) := by decide +kernel
theorem dX12_pair_34 : decode cX12_pair 34 = .ok (.bipush (-9), 2) := by decide +kernel
theorem dX12_pair_36 : decode cX12_pair 36 = .ok (.istore 4, 2) := by decide +kernel
theorem dX12_pair_38 : decode cX12_pair 38 = .ok (.bipush (-9), 2) := by decide +kernel
theorem dX12_pair_40 : decode cX12_pair 40 = .ok (.istore 5, 2) := by decide +kernel
theorem dX12_pair_42 : decode cX12_pair 42 = .ok (.iconst 0, 1) := by decide +kernel
theorem dX12_pair_43 : decode cX12_pair 43 = .ok (.istore 6, 2) := by decide +kernel
theorem dX12_pair_45 : decode cX12_pair 45 = .ok (.iload 6, 2) := by decide +kernel
theorem dX12_pair_47 : decode cX12_pair 47 = .ok (.aload_n 0, 1) := by decide +kernel
theorem dX12_pair_48 : decode cX12_pair 48 = .ok (.getfield 62, 3) := by decide +kernel
theorem dX12_pair_51 : decode cX12_pair 51 = .ok (.if_icmp .ge 70, 3) := by decide +kernel
theorem dX12_pair_54 : decode cX12_pair 54 = .ok (.iload 6, 2) := by decide +kernel
theorem dX12_pair_56 : decode cX12_pair 56 = .ok (.iconst 1, 1) := by decide +kernel
theorem dX12_pair_57 : decode cX12_pair 57 = .ok (.iadd, 1) := by decide +kernel
theorem dX12_pair_58 : decode cX12_pair 58 = .ok (.istore 7, 2) := by decide +kernel
theorem dX12_pair_60 : decode cX12_pair 60 = .ok (.iload 7, 2) := by decide +kernel
theorem dX12_pair_62 : decode cX12_pair 62 = .ok (.aload_n 0, 1) := by decide +kernel
theorem dX12_pair_63 : decode cX12_pair 63 = .ok (.getfield 62, 3) := by decide +kernel
theorem dX12_pair_66 : decode cX12_pair 66 = .ok (.if_icmp .ge 49, 3) := by decide +kernel
theorem dX12_pair_69 : decode cX12_pair 69 = .ok (.aload_n 0, 1) := by decide +kernel
theorem dX12_pair_70 : decode cX12_pair 70 = .ok (.iload 6, 2) := by decide +kernel
theorem dX12_pair_72 : decode cX12_pair 72 = .ok (.iload 7, 2) := by decide +kernel
theorem dX12_pair_74 : decode cX12_pair 74 = .ok (.iload_n 1, 1) := by decide +kernel
theorem dX12_pair_75 : decode cX12_pair 75 = .ok (.invokevirtual 270, 3) := by decide +kernel
theorem dX12_pair_78 : decode cX12_pair 78 = .ok (.istore 8, 2) := by decide +kernel
theorem dX12_pair_80 : decode cX12_pair 80 = .ok (.iload 4, 2) := by decide +kernel
theorem dX12_pair_82 : decode cX12_pair 82 = .ok (.ifCond .lt 13, 3) := by decide +kernel
theorem dX12_pair_85 : decode cX12_pair 85 = .ok (.iload 8, 2) := by decide +kernel
theorem dX12_pair_87 : decode cX12_pair 87 = .ok (.iload 5, 2) := by decide +kernel
theorem dX12_pair_89 : decode cX12_pair 89 = .ok (.if_icmp .lt 6, 3) := by decide +kernel
theorem dX12_pair_92 : decode cX12_pair 92 = .ok (.goto 17, 3) := by decide +kernel
theorem dX12_pair_95 : decode cX12_pair 95 = .ok (.bipush 10, 2) := by decide +kernel
theorem dX12_pair_97 : decode cX12_pair 97 = .ok (.iload 6, 2) := by decide +kernel
theorem dX12_pair_99 : decode cX12_pair 99 = .ok (.imul, 1) := by decide +kernel
theorem dX12_pair_100 : decode cX12_pair 100 = .ok (.iload 7, 2) := by decide +kernel
theorem dX12_pair_102 : decode cX12_pair 102 = .ok (.iadd, 1) := by decide +kernel
theorem dX12_pair_103 : decode cX12_pair 103 = .ok (.istore 4, 2) := by decide +kernel
theorem dX12_pair_105 : decode cX12_pair 105 = .ok (.iload 8, 2) := by decide +kernel
theorem dX12_pair_107 : decode cX12_pair 107 = .ok (.istore 5, 2) := by decide +kernel
theorem dX12_pair_109 : decode cX12_pair 109 = .ok (.iinc 7 1, 3) := by decide +kernel
theorem dX12_pair_112 : decode cX12_pair 112 = .ok (.goto (-52), 3) := by decide +kernel
theorem dX12_pair_115 : decode cX12_pair 115 = .ok (.iinc 6 1, 3) := by decide +kernel
theorem dX12_pair_118 : decode cX12_pair 118 = .ok (.goto (-73), 3) := by decide +kernel
theorem dX12_pair_121 : decode cX12_pair 121 = .ok (.iload_n 2, 1) := by decide +kernel
theorem dX12_pair_122 : decode cX12_pair 122 = .ok (.ifCond .ne 8, 3) := by decide +kernel
theorem dX12_pair_125 : decode cX12_pair 125 = .ok (.iload 4, 2) := by decide +kernel
theorem dX12_pair_127 : decode cX12_pair 127 = .ok (.goto 5, 3) := by decide +kernel
theorem dX12_pair_130 : decode cX12_pair 130 = .ok (.iload 5, 2) := by decide +kernel
theorem dX12_pair_132 : decode cX12_pair 132 = .ok (.ireturn, 1) := by decide +kernel
set_option maxRecDepth 100000 in
set_option maxHeartbeats 4000000 in
theorem c_X12_pair {l : Launch} {G : Gx} (hap : k_ap G shR.length) (v1 : Int32) (v2 : Int32) (M0 : Mem) (r : Int32 × Mem) (hf : f_X12_pair v1 v2 M0 = some r) : k_Met l yX12_pair cX12_pair 9 (some .int) 3 70 G shR [.ref (G.2.1 0), .int v1, .int v2] M0 (k_Qi G shR r.1 r.2) := by
  refine k_Met_of (by decide) hap (Nat.le_of_ble_eq_true rfl) ?_
  intro p e s m args below meth c C hr hlk
  have C : Cx p s m args c cX12_pair RX12 9 G shR := C
  have k_b45 : ∀ (n45 : Nat) (v1 : Int32) (v2 : Int32) (v4 : Int32) (v5 : Int32) (v6 : Int32) (M : Mem), f_X12_pair_b45 n45 v1 v2 v4 v5 v6 M = some r → K p l e (k_rm 3 70) s m args below meth c 9 G shR (MQ below (k_Qi G shR r.1 r.2) args s 0 0 (k_A G shR.length)) 45 [(0, .ref (G.2.1 0)), (1, .int v1), (2, .int v2), (4, .int v4), (5, .int v5), (6, .int v6)] [] M := by
    intro n45
    induction n45 with
    | zero => intro v1 v2 v4 v5 v6 M hf; simp [f_X12_pair_b45] at hf
    | succ n45 ih45 =>
      have k_b60 : ∀ (n60 : Nat) (v1 : Int32) (v2 : Int32) (v4 : Int32) (v5 : Int32) (v6 : Int32) (v7 : Int32) (M : Mem), f_X12_pair_b60 (f_X12_pair_b45 n45) n60 v1 v2 v4 v5 v6 v7 M = some r → K p l e (k_rm 3 70) s m args below meth c 9 G shR (MQ below (k_Qi G shR r.1 r.2) args s 0 0 (k_A G shR.length)) 60 [(0, .ref (G.2.1 0)), (1, .int v1), (2, .int v2), (4, .int v4), (5, .int v5), (6, .int v6), (7, .int v7)] [] M := by
        intro n60
        induction n60 with
        | zero => intro v1 v2 v4 v5 v6 v7 M hf; simp [f_X12_pair_b60] at hf
        | succ n60 ih60 =>
          intro v1 v2 v4 v5 v6 v7 M hf
          unfold f_X12_pair_b60 at hf
          refine k_iload C dX12_pair_60 6 rfl ?_
          refine k_aload_n C dX12_pair_62 0 rfl ?_
          refine k_geti C shR_0 (j := 5) rfl FL_X12_62 dX12_pair_63 ?_
          rcases ite_g hf with ⟨c6, hf⟩ | ⟨c6, hf⟩
          · refine k_icmp_ge_t C dX12_pair_66 (tgt := 115) (by decide) c6 ?_
            refine k_iinc C dX12_pair_115 5 rfl (v := (v6 + (1 : Int32))) rfl (by decide) [1, 2, 3, 4, 5, 0] (lv' := [(0, .ref (G.2.1 0)), (1, .int v1), (2, .int v2), (4, .int v4), (5, .int v5), (6, .int (v6 + (1 : Int32)))]) rfl ?_
            refine k_goto C dX12_pair_118 (tgt := 45) (by decide) ?_
            exact ih45 v1 v2 v4 v5 (v6 + (1 : Int32)) M hf
          · refine k_icmp_ge_f C dX12_pair_66 (tgt := 115) (by decide) c6 ?_
            refine k_aload_n C dX12_pair_69 0 rfl ?_
            refine k_iload C dX12_pair_70 5 rfl ?_
            refine k_iload C dX12_pair_72 6 rfl ?_
            refine k_iload_n C dX12_pair_74 1 rfl ?_
            obtain ⟨t7, ht7, hf⟩ := bnd hf
            refine k_callVi C (As := [.int v6, .int v7, .int v1]) (c_X12_dueOfPair hap v6 v7 v1 M t7 ht7) ML_X12_dueOfPair wd_1736 shR_0 rfl rfl rfl ⟨Nat.le_of_ble_eq_true rfl, Nat.le_of_ble_eq_true rfl⟩ (Nat.le_of_ble_eq_true rfl) dX12_pair_75 ?_
            refine k_istore C dX12_pair_78 (by decide) [1, 2, 3, 4, 5, 6, 7, 0] (lv' := [(0, .ref (G.2.1 0)), (1, .int v1), (2, .int v2), (4, .int v4), (5, .int v5), (6, .int v6), (7, .int v7), (8, .int t7)]) rfl ?_
            refine k_iload C dX12_pair_80 3 rfl ?_
            rcases ite_g hf with ⟨c8, hf⟩ | ⟨c8, hf⟩
            · refine k_if_lt_t C dX12_pair_82 (tgt := 95) (by decide) c8 ?_
              refine k_bipush C dX12_pair_95 (v := (10 : Int32)) rfl ?_
              refine k_iload C dX12_pair_97 5 rfl ?_
              refine k_imul C dX12_pair_99 ?_
              refine k_iload C dX12_pair_100 6 rfl ?_
              refine k_iadd C dX12_pair_102 ?_
              refine k_istore C dX12_pair_103 (by decide) [1, 2, 3, 0, 5, 6, 7] (lv' := [(0, .ref (G.2.1 0)), (1, .int v1), (2, .int v2), (4, .int (((10 : Int32) * v6) + v7)), (6, .int v6), (7, .int v7), (8, .int t7)]) rfl ?_
              refine k_iload C dX12_pair_105 6 rfl ?_
              refine k_istore C dX12_pair_107 (by decide) [1, 2, 3, 4, 0, 5, 6] (lv' := [(0, .ref (G.2.1 0)), (1, .int v1), (2, .int v2), (4, .int (((10 : Int32) * v6) + v7)), (5, .int t7), (6, .int v6), (7, .int v7)]) rfl ?_
              refine k_iinc C dX12_pair_109 6 rfl (v := (v7 + (1 : Int32))) rfl (by decide) [1, 2, 3, 4, 5, 6, 0] (lv' := [(0, .ref (G.2.1 0)), (1, .int v1), (2, .int v2), (4, .int (((10 : Int32) * v6) + v7)), (5, .int t7), (6, .int v6), (7, .int (v7 + (1 : Int32)))]) rfl ?_
              refine k_goto C dX12_pair_112 (tgt := 60) (by decide) ?_
              exact ih60 v1 v2 (((10 : Int32) * v6) + v7) t7 v6 (v7 + (1 : Int32)) M hf
            · refine k_if_lt_f C dX12_pair_82 (tgt := 95) (by decide) c8 ?_
              refine k_iload C dX12_pair_85 7 rfl ?_
              refine k_iload C dX12_pair_87 4 rfl ?_
              rcases ite_g hf with ⟨c9, hf⟩ | ⟨c9, hf⟩
              · refine k_icmp_lt_t C dX12_pair_89 (tgt := 95) (by decide) c9 ?_
                refine k_bipush C dX12_pair_95 (v := (10 : Int32)) rfl ?_
                refine k_iload C dX12_pair_97 5 rfl ?_
                refine k_imul C dX12_pair_99 ?_
                refine k_iload C dX12_pair_100 6 rfl ?_
                refine k_iadd C dX12_pair_102 ?_
                refine k_istore C dX12_pair_103 (by decide) [1, 2, 3, 0, 5, 6, 7] (lv' := [(0, .ref (G.2.1 0)), (1, .int v1), (2, .int v2), (4, .int (((10 : Int32) * v6) + v7)), (6, .int v6), (7, .int v7), (8, .int t7)]) rfl ?_
                refine k_iload C dX12_pair_105 6 rfl ?_
                refine k_istore C dX12_pair_107 (by decide) [1, 2, 3, 4, 0, 5, 6] (lv' := [(0, .ref (G.2.1 0)), (1, .int v1), (2, .int v2), (4, .int (((10 : Int32) * v6) + v7)), (5, .int t7), (6, .int v6), (7, .int v7)]) rfl ?_
                refine k_iinc C dX12_pair_109 6 rfl (v := (v7 + (1 : Int32))) rfl (by decide) [1, 2, 3, 4, 5, 6, 0] (lv' := [(0, .ref (G.2.1 0)), (1, .int v1), (2, .int v2), (4, .int (((10 : Int32) * v6) + v7)), (5, .int t7), (6, .int v6), (7, .int (v7 + (1 : Int32)))]) rfl ?_
                refine k_goto C dX12_pair_112 (tgt := 60) (by decide) ?_
                exact ih60 v1 v2 (((10 : Int32) * v6) + v7) t7 v6 (v7 + (1 : Int32)) M hf
              · refine k_icmp_lt_f C dX12_pair_89 (tgt := 95) (by decide) c9 ?_
                refine k_goto C dX12_pair_92 (tgt := 109) (by decide) ?_
                refine k_iinc C dX12_pair_109 6 rfl (v := (v7 + (1 : Int32))) rfl (by decide) [1, 2, 3, 4, 5, 6, 0] (lv' := [(0, .ref (G.2.1 0)), (1, .int v1), (2, .int v2), (4, .int v4), (5, .int v5), (6, .int v6), (7, .int (v7 + (1 : Int32)))]) rfl ?_
                refine k_goto C dX12_pair_112 (tgt := 60) (by decide) ?_
                exact ih60 v1 v2 v4 v5 v6 (v7 + (1 : Int32)) M hf
      intro v1 v2 v4 v5 v6 M hf
      unfold f_X12_pair_b45 at hf
      refine k_iload C dX12_pair_45 5 rfl ?_
      refine k_aload_n C dX12_pair_47 0 rfl ?_
      refine k_geti C shR_0 (j := 5) rfl FL_X12_62 dX12_pair_48 ?_
      rcases ite_g hf with ⟨c3, hf⟩ | ⟨c3, hf⟩
      · refine k_icmp_ge_t C dX12_pair_51 (tgt := 121) (by decide) c3 ?_
        refine k_iload_n C dX12_pair_121 2 rfl ?_
        rcases ite_g hf with ⟨c4, hf⟩ | ⟨c4, hf⟩
        · refine k_if_ne_f C dX12_pair_122 (tgt := 130) (by decide) c4 ?_
          refine k_iload C dX12_pair_125 3 rfl ?_
          refine k_goto C dX12_pair_127 (tgt := 132) (by decide) ?_
          exact k_iret C hr hlk (prf hf) (prs hf) dX12_pair_132
        · refine k_if_ne_t C dX12_pair_122 (tgt := 130) (by decide) c4 ?_
          refine k_iload C dX12_pair_130 4 rfl ?_
          exact k_iret C hr hlk (prf hf) (prs hf) dX12_pair_132
      · refine k_icmp_ge_f C dX12_pair_51 (tgt := 121) (by decide) c3 ?_
        refine k_iload C dX12_pair_54 5 rfl ?_
        refine k_iconst C dX12_pair_56 (v := (1 : Int32)) rfl ?_
        refine k_iadd C dX12_pair_57 ?_
        refine k_istore C dX12_pair_58 (by decide) [1, 2, 3, 4, 5, 6, 0] (lv' := [(0, .ref (G.2.1 0)), (1, .int v1), (2, .int v2), (4, .int v4), (5, .int v5), (6, .int v6), (7, .int (v6 + (1 : Int32)))]) rfl ?_
        exact k_b60 FU v1 v2 v4 v5 v6 (v6 + (1 : Int32)) M hf
  have k_b24 : ∀ (v1 : Int32) (v2 : Int32) (v3 : Int32) (M : Mem), f_X12_pair_b24 v1 v2 v3 M = some r → K p l e (k_rm 3 70) s m args below meth c 9 G shR (MQ below (k_Qi G shR r.1 r.2) args s 0 0 (k_A G shR.length)) 24 [(0, .ref (G.2.1 0)), (1, .int v1), (2, .int v2), (3, .int v3)] [] M := by
    intro v1 v2 v3 M hf
    unfold f_X12_pair_b24 at hf
    refine k_iload_n C dX12_pair_24 3 rfl ?_
    rcases ite_g hf with ⟨c2, hf⟩ | ⟨c2, hf⟩
    · refine k_if_eq_t C dX12_pair_25 (tgt := 34) (by decide) c2 ?_
      refine k_bipush C dX12_pair_34 (v := (-9 : Int32)) rfl ?_
      refine k_istore C dX12_pair_36 (by decide) [1, 2, 3, 0] (lv' := [(0, .ref (G.2.1 0)), (1, .int v1), (2, .int v2), (4, .int (-9 : Int32))]) rfl ?_
      refine k_bipush C dX12_pair_38 (v := (-9 : Int32)) rfl ?_
      refine k_istore C dX12_pair_40 (by decide) [1, 2, 3, 4, 0] (lv' := [(0, .ref (G.2.1 0)), (1, .int v1), (2, .int v2), (4, .int (-9 : Int32)), (5, .int (-9 : Int32))]) rfl ?_
      refine k_iconst C dX12_pair_42 (v := (0 : Int32)) rfl ?_
      refine k_istore C dX12_pair_43 (by decide) [1, 2, 3, 4, 5, 0] (lv' := [(0, .ref (G.2.1 0)), (1, .int v1), (2, .int v2), (4, .int (-9 : Int32)), (5, .int (-9 : Int32)), (6, .int (0 : Int32))]) rfl ?_
      exact k_b45 FU v1 v2 (-9 : Int32) (-9 : Int32) (0 : Int32) M hf
    · refine k_if_eq_f C dX12_pair_25 (tgt := 34) (by decide) c2 ?_
      refine k_aload_n C dX12_pair_28 0 rfl ?_
      refine k_iload_n C dX12_pair_29 3 rfl ?_
      obtain ⟨⟨t10, M10⟩, ht10, hf⟩ := bnd hf
      replace hf := bp_s hf
      refine k_callVi C (As := [.int v3]) (c_X12_no hap v3 M (t10, M10) ht10) ML_X12_no wd_1369 shR_0 rfl rfl rfl ⟨Nat.le_of_ble_eq_true rfl, Nat.le_of_ble_eq_true rfl⟩ (Nat.le_of_ble_eq_true rfl) dX12_pair_30 ?_
      exact k_iret C hr hlk (prf hf) (prs hf) dX12_pair_33
  unfold f_X12_pair at hf
  refine k_lv (lv' := [(0, .ref (G.2.1 0)), (1, .int v1), (2, .int v2)]) [0, 1, 2] rfl ?_
  refine k_iload_n C dX12_pair_0 1 rfl ?_
  refine k_iconst C dX12_pair_1 (v := (0 : Int32)) rfl ?_
  refine k_bipush C dX12_pair_2 (v := (6 : Int32)) rfl ?_
  refine k_callSi C (As := [.int v1, .int (0 : Int32), .int (6 : Int32)]) (c_X12_bound hap v1 (0 : Int32) (6 : Int32) M0 _ rfl) MS_X12_bound wd_1366 rfl rfl ⟨Nat.le_of_ble_eq_true rfl, Nat.le_of_ble_eq_true rfl⟩ (Nat.le_of_ble_eq_true rfl) dX12_pair_4 ?_
  refine k_istore_n C dX12_pair_7 (by decide) [1, 2, 3, 0] (lv' := [(0, .ref (G.2.1 0)), (1, .int v1), (2, .int v2), (3, .int (f_X12_bound v1 (0 : Int32) (6 : Int32)))]) rfl ?_
  refine k_iload_n C dX12_pair_8 3 rfl ?_
  rcases ite_g hf with ⟨c1, hf⟩ | ⟨c1, hf⟩
  · refine k_if_ne_f C dX12_pair_9 (tgt := 24) (by decide) c1 ?_
    refine k_iload_n C dX12_pair_12 2 rfl ?_
    refine k_iconst C dX12_pair_13 (v := (0 : Int32)) rfl ?_
    refine k_iconst C dX12_pair_14 (v := (1 : Int32)) rfl ?_
    refine k_callSi C (As := [.int v2, .int (0 : Int32), .int (1 : Int32)]) (c_X12_isIn hap v2 (0 : Int32) (1 : Int32) M0 _ rfl) MS_X12_isIn wd_1393 rfl rfl ⟨Nat.le_of_ble_eq_true rfl, Nat.le_of_ble_eq_true rfl⟩ (Nat.le_of_ble_eq_true rfl) dX12_pair_15 ?_
    rcases ite_g hf with ⟨c11, hf⟩ | ⟨c11, hf⟩
    · refine k_if_ne_f C dX12_pair_18 (tgt := 24) (by decide) c11 ?_
      refine k_bipush C dX12_pair_21 (v := (-2 : Int32)) rfl ?_
      refine k_istore_n C dX12_pair_23 (by decide) [1, 2, 3, 0] (lv' := [(0, .ref (G.2.1 0)), (1, .int v1), (2, .int v2), (3, .int (-2 : Int32))]) rfl ?_
      exact k_b24 v1 v2 (-2 : Int32) M0 hf
    · refine k_if_ne_t C dX12_pair_18 (tgt := 24) (by decide) c11 ?_
      exact k_b24 v1 v2 (f_X12_bound v1 (0 : Int32) (6 : Int32)) M0 hf
  · refine k_if_ne_t C dX12_pair_9 (tgt := 24) (by decide) c1 ?_
    exact k_b24 v1 v2 (f_X12_bound v1 (0 : Int32) (6 : Int32)) M0 hf
theorem dX12_apartOf_0 : decode cX12_apartOf 0 = .ok (.iconst 0, 1) := by decide +kernel
theorem dX12_apartOf_1 : decode cX12_apartOf 1 = .ok (.istore_n 2, 1) := by decide +kernel
theorem dX12_apartOf_2 : decode cX12_apartOf 2 = .ok (.iconst 0, 1) := by decide +kernel
theorem dX12_apartOf_3 : decode cX12_apartOf 3 = .ok (.istore_n 3, 1) := by decide +kernel
theorem dX12_apartOf_4 : decode cX12_apartOf 4 = .ok (.iload_n 3, 1) := by decide +kernel
theorem dX12_apartOf_5 : decode cX12_apartOf 5 = .ok (.aload_n 0, 1) := by decide +kernel
theorem dX12_apartOf_6 : decode cX12_apartOf 6 = .ok (.getfield 62, 3) := by decide +kernel
theorem dX12_apartOf_9 : decode cX12_apartOf 9 = .ok (.if_icmp .ge 28, 3) := by decide +kernel
theorem dX12_apartOf_12 : decode cX12_apartOf 12 = .ok (.iload_n 2, 1) := by decide +kernel
theorem dX12_apartOf_13 : decode cX12_apartOf 13 = .ok (.aload_n 0, 1) := by decide +kernel
theorem dX12_apartOf_14 : decode cX12_apartOf 14 = .ok (.getfield 19, 3) := by decide +kernel
theorem dX12_apartOf_17 : decode cX12_apartOf 17 = .ok (.iload_n 3, 1) := by decide +kernel
theorem dX12_apartOf_18 : decode cX12_apartOf 18 = .ok (.iaload, 1) := by decide +kernel
theorem dX12_apartOf_19 : decode cX12_apartOf 19 = .ok (.aload_n 0, 1) := by decide +kernel
theorem dX12_apartOf_20 : decode cX12_apartOf 20 = .ok (.getfield 19, 3) := by decide +kernel
theorem dX12_apartOf_23 : decode cX12_apartOf 23 = .ok (.iload_n 1, 1) := by decide +kernel
theorem dX12_apartOf_24 : decode cX12_apartOf 24 = .ok (.iaload, 1) := by decide +kernel
theorem dX12_apartOf_25 : decode cX12_apartOf 25 = .ok (.ixor, 1) := by decide +kernel
theorem dX12_apartOf_26 : decode cX12_apartOf 26 = .ok (.invokestatic 151, 3) := by decide +kernel
theorem dX12_apartOf_29 : decode cX12_apartOf 29 = .ok (.iadd, 1) := by decide +kernel
theorem dX12_apartOf_30 : decode cX12_apartOf 30 = .ok (.istore_n 2, 1) := by decide +kernel
theorem dX12_apartOf_31 : decode cX12_apartOf 31 = .ok (.iinc 3 1, 3) := by decide +kernel
theorem dX12_apartOf_34 : decode cX12_apartOf 34 = .ok (.goto (-30), 3) := by decide +kernel
theorem dX12_apartOf_37 : decode cX12_apartOf 37 = .ok (.iload_n 2, 1) := by decide +kernel
theorem dX12_apartOf_38 : decode cX12_apartOf 38 = .ok (.ireturn, 1) := by decide +kernel
set_option maxRecDepth 100000 in
set_option maxHeartbeats 4000000 in
theorem c_X12_apartOf {l : Launch} {G : Gx} (hap : k_ap G shR.length) (v1 : Int32) (M0 : Mem) (r : Int32) (hf : f_X12_apartOf v1 M0 = some r) : k_Met l yX12_apartOf cX12_apartOf 4 (some .int) 1 22 G shR [.ref (G.2.1 0), .int v1] M0 (k_Qi G shR r M0) := by
  refine k_Met_of (by decide) hap (Nat.le_of_ble_eq_true rfl) ?_
  intro p e s m args below meth c C hr hlk
  have C : Cx p s m args c cX12_apartOf RX12 4 G shR := C
  have k_b4 : ∀ (n4 : Nat) (v1 : Int32) (v2 : Int32) (v3 : Int32), f_X12_apartOf_b4 M0 n4 v1 v2 v3 = some r → K p l e (k_rm 1 22) s m args below meth c 4 G shR (MQ below (k_Qi G shR r M0) args s 0 0 (k_A G shR.length)) 4 [(0, .ref (G.2.1 0)), (1, .int v1), (2, .int v2), (3, .int v3)] [] M0 := by
    intro n4
    induction n4 with
    | zero => intro v1 v2 v3 hf; simp [f_X12_apartOf_b4] at hf
    | succ n4 ih4 =>
      intro v1 v2 v3 hf
      unfold f_X12_apartOf_b4 at hf
      refine k_iload_n C dX12_apartOf_4 3 rfl ?_
      refine k_aload_n C dX12_apartOf_5 0 rfl ?_
      refine k_geti C shR_0 (j := 5) rfl FL_X12_62 dX12_apartOf_6 ?_
      rcases ite_g hf with ⟨c1, hf⟩ | ⟨c1, hf⟩
      · refine k_icmp_ge_t C dX12_apartOf_9 (tgt := 37) (by decide) c1 ?_
        refine k_iload_n C dX12_apartOf_37 2 rfl ?_
        exact k_iret C hr hlk (Option.some.inj hf) rfl dX12_apartOf_38
      · refine k_icmp_ge_f C dX12_apartOf_9 (tgt := 37) (by decide) c1 ?_
        refine k_iload_n C dX12_apartOf_12 2 rfl ?_
        refine k_aload_n C dX12_apartOf_13 0 rfl ?_
        refine k_getr C shR_0 (j := 3) rfl FL_X12_19 dX12_apartOf_14 ?_
        refine k_iload_n C dX12_apartOf_17 3 rfl ?_
        obtain ⟨t2, ht2, hf⟩ := bnd hf
        refine k_iald C shR_4 ht2 dX12_apartOf_18 ?_
        refine k_aload_n C dX12_apartOf_19 0 rfl ?_
        refine k_getr C shR_0 (j := 3) rfl FL_X12_19 dX12_apartOf_20 ?_
        refine k_iload_n C dX12_apartOf_23 1 rfl ?_
        obtain ⟨t3, ht3, hf⟩ := bnd hf
        refine k_iald C shR_4 ht3 dX12_apartOf_24 ?_
        refine k_ixor C dX12_apartOf_25 ?_
        obtain ⟨t4, ht4, hf⟩ := bnd hf
        refine k_callSi C (As := [.int (t2 ^^^ t3)]) (c_X12_bits hap (t2 ^^^ t3) M0 t4 ht4) MS_X12_bits wd_1463 rfl rfl ⟨Nat.le_of_ble_eq_true rfl, Nat.le_of_ble_eq_true rfl⟩ (Nat.le_of_ble_eq_true rfl) dX12_apartOf_26 ?_
        refine k_iadd C dX12_apartOf_29 ?_
        refine k_istore_n C dX12_apartOf_30 (by decide) [1, 2, 0, 3] (lv' := [(0, .ref (G.2.1 0)), (1, .int v1), (2, .int (v2 + t4)), (3, .int v3)]) rfl ?_
        refine k_iinc C dX12_apartOf_31 3 rfl (v := (v3 + (1 : Int32))) rfl (by decide) [1, 2, 3, 0] (lv' := [(0, .ref (G.2.1 0)), (1, .int v1), (2, .int (v2 + t4)), (3, .int (v3 + (1 : Int32)))]) rfl ?_
        refine k_goto C dX12_apartOf_34 (tgt := 4) (by decide) ?_
        exact ih4 v1 (v2 + t4) (v3 + (1 : Int32)) hf
  unfold f_X12_apartOf at hf
  refine k_lv (lv' := [(0, .ref (G.2.1 0)), (1, .int v1)]) [0, 1] rfl ?_
  refine k_iconst C dX12_apartOf_0 (v := (0 : Int32)) rfl ?_
  refine k_istore_n C dX12_apartOf_1 (by decide) [1, 2, 0] (lv' := [(0, .ref (G.2.1 0)), (1, .int v1), (2, .int (0 : Int32))]) rfl ?_
  refine k_iconst C dX12_apartOf_2 (v := (0 : Int32)) rfl ?_
  refine k_istore_n C dX12_apartOf_3 (by decide) [1, 2, 3, 0] (lv' := [(0, .ref (G.2.1 0)), (1, .int v1), (2, .int (0 : Int32)), (3, .int (0 : Int32))]) rfl ?_
  exact k_b4 FU v1 (0 : Int32) (0 : Int32) hf
theorem dX12_radius_0 : decode cX12_radius 0 = .ok (.iload_n 1, 1) := by decide +kernel
theorem dX12_radius_1 : decode cX12_radius 1 = .ok (.iconst 0, 1) := by decide +kernel
theorem dX12_radius_2 : decode cX12_radius 2 = .ok (.iconst 1, 1) := by decide +kernel
theorem dX12_radius_3 : decode cX12_radius 3 = .ok (.invokestatic 86, 3) := by decide +kernel
theorem dX12_radius_6 : decode cX12_radius 6 = .ok (.ifCond .ne 10, 3) := by decide +kernel
theorem dX12_radius_9 : decode cX12_radius 9 = .ok (.aload_n 0, 1) := by decide +kernel
theorem dX12_radius_10 : decode cX12_radius 10 = .ok (.bipush (-2), 2) := by decide +kernel
theorem dX12_radius_12 : decode cX12_radius 12 = .ok (.invokevirtual 75, 3) := by decide +kernel
theorem dX12_radius_15 : decode cX12_radius 15 = .ok (.ireturn, 1) := by decide +kernel
theorem dX12_radius_16 : decode cX12_radius 16 = .ok (.iconst 0, 1) := by decide +kernel
theorem dX12_radius_17 : decode cX12_radius 17 = .ok (.istore_n 2, 1) := by decide +kernel
theorem dX12_radius_18 : decode cX12_radius 18 = .ok (.bipush (-9), 2) := by decide +kernel
theorem dX12_radius_20 : decode cX12_radius 20 = .ok (.istore_n 3, 1) := by decide +kernel
theorem dX12_radius_21 : decode cX12_radius 21 = .ok (.iconst 0, 1) := by decide +kernel
theorem dX12_radius_22 : decode cX12_radius 22 = .ok (.istore 4, 2) := by decide +kernel
theorem dX12_radius_24 : decode cX12_radius 24 = .ok (.iload 4, 2) := by decide +kernel
theorem dX12_radius_26 : decode cX12_radius 26 = .ok (.aload_n 0, 1) := by decide +kernel
theorem dX12_radius_27 : decode cX12_radius 27 = .ok (.getfield 62, 3) := by decide +kernel
theorem dX12_radius_30 : decode cX12_radius 30 = .ok (.if_icmp .ge 91, 3) := by decide +kernel
theorem dX12_radius_33 : decode cX12_radius 33 = .ok (.iload_n 3, 1) := by decide +kernel
theorem dX12_radius_34 : decode cX12_radius 34 = .ok (.ifCond .lt 17, 3) := by decide +kernel
theorem dX12_radius_37 : decode cX12_radius 37 = .ok (.aload_n 0, 1) := by decide +kernel
theorem dX12_radius_38 : decode cX12_radius 38 = .ok (.iload 4, 2) := by decide +kernel
theorem dX12_radius_40 : decode cX12_radius 40 = .ok (.invokevirtual 273, 3) := by decide +kernel
theorem dX12_radius_43 : decode cX12_radius 43 = .ok (.aload_n 0, 1) := by decide +kernel
theorem dX12_radius_44 : decode cX12_radius 44 = .ok (.iload_n 3, 1) := by decide +kernel
theorem dX12_radius_45 : decode cX12_radius 45 = .ok (.invokevirtual 273, 3) := by decide +kernel
theorem dX12_radius_48 : decode cX12_radius 48 = .ok (.if_icmp .ge 6, 3) := by decide +kernel
theorem dX12_radius_51 : decode cX12_radius 51 = .ok (.iload 4, 2) := by decide +kernel
theorem dX12_radius_53 : decode cX12_radius 53 = .ok (.istore_n 3, 1) := by decide +kernel
theorem dX12_radius_54 : decode cX12_radius 54 = .ok (.iconst 0, 1) := by decide +kernel
theorem dX12_radius_55 : decode cX12_radius 55 = .ok (.istore 5, 2) := by decide +kernel
theorem dX12_radius_57 : decode cX12_radius 57 = .ok (.iload 5, 2) := by decide +kernel
theorem dX12_radius_59 : decode cX12_radius 59 = .ok (.iload 4, 2) := by decide +kernel
theorem dX12_radius_61 : decode cX12_radius 61 = .ok (.if_icmp .ge 54, 3) := by decide +kernel
theorem dX12_radius_64 : decode cX12_radius 64 = .ok (.aload_n 0, 1) := by decide +kernel
theorem dX12_radius_65 : decode cX12_radius 65 = .ok (.getfield 19, 3) := by decide +kernel
theorem dX12_radius_68 : decode cX12_radius 68 = .ok (.iload 4, 2) := by decide +kernel
theorem dX12_radius_70 : decode cX12_radius 70 = .ok (.iaload, 1) := by decide +kernel
theorem dX12_radius_71 : decode cX12_radius 71 = .ok (.aload_n 0, 1) := by decide +kernel
theorem dX12_radius_72 : decode cX12_radius 72 = .ok (.getfield 19, 3) := by decide +kernel
theorem dX12_radius_75 : decode cX12_radius 75 = .ok (.iload 5, 2) := by decide +kernel
theorem dX12_radius_77 : decode cX12_radius 77 = .ok (.iaload, 1) := by decide +kernel
theorem dX12_radius_78 : decode cX12_radius 78 = .ok (.ixor, 1) := by decide +kernel
theorem dX12_radius_79 : decode cX12_radius 79 = .ok (.invokestatic 151, 3) := by decide +kernel
theorem dX12_radius_82 : decode cX12_radius 82 = .ok (.iload_n 2, 1) := by decide +kernel
theorem dX12_radius_83 : decode cX12_radius 83 = .ok (.if_icmp .le 24, 3) := by decide +kernel
theorem dX12_radius_86 : decode cX12_radius 86 = .ok (.aload_n 0, 1) := by decide +kernel
theorem dX12_radius_87 : decode cX12_radius 87 = .ok (.getfield 19, 3) := by decide +kernel
theorem dX12_radius_90 : decode cX12_radius 90 = .ok (.iload 4, 2) := by decide +kernel
theorem dX12_radius_92 : decode cX12_radius 92 = .ok (.iaload, 1) := by decide +kernel
theorem dX12_radius_93 : decode cX12_radius 93 = .ok (.aload_n 0, 1) := by decide +kernel
theorem dX12_radius_94 : decode cX12_radius 94 = .ok (.getfield 19, 3) := by decide +kernel
theorem dX12_radius_97 : decode cX12_radius 97 = .ok (.iload 5, 2) := by decide +kernel
theorem dX12_radius_99 : decode cX12_radius 99 = .ok (.iaload, 1) := by decide +kernel
theorem dX12_radius_100 : decode cX12_radius 100 = .ok (.ixor, 1) := by decide +kernel
theorem dX12_radius_101 : decode cX12_radius 101 = .ok (.invokestatic 151, 3) := by decide +kernel
theorem dX12_radius_104 : decode cX12_radius 104 = .ok (.goto 4, 3) := by decide +kernel
theorem dX12_radius_107 : decode cX12_radius 107 = .ok (.iload_n 2, 1) := by decide +kernel
theorem dX12_radius_108 : decode cX12_radius 108 = .ok (.istore_n 2, 1) := by decide +kernel
theorem dX12_radius_109 : decode cX12_radius 109 = .ok (.iinc 5 1, 3) := by decide +kernel
theorem dX12_radius_112 : decode cX12_radius 112 = .ok (.goto (-55), 3) := by decide +kernel
theorem dX12_radius_115 : decode cX12_radius 115 = .ok (.iinc 4 1, 3) := by decide +kernel
theorem dX12_radius_118 : decode cX12_radius 118 = .ok (.goto (-94), 3) := by decide +kernel
theorem dX12_radius_121 : decode cX12_radius 121 = .ok (.iload_n 1, 1) := by decide +kernel
theorem dX12_radius_122 : decode cX12_radius 122 = .ok (.ifCond .ne 7, 3) := by decide +kernel
theorem dX12_radius_125 : decode cX12_radius 125 = .ok (.iload_n 2, 1) := by decide +kernel
theorem dX12_radius_126 : decode cX12_radius 126 = .ok (.goto 4, 3) := by decide +kernel
theorem dX12_radius_129 : decode cX12_radius 129 = .ok (.iload_n 3, 1) := by decide +kernel
theorem dX12_radius_130 : decode cX12_radius 130 = .ok (.ireturn, 1) := by decide +kernel
set_option maxRecDepth 100000 in
set_option maxHeartbeats 4000000 in
theorem c_X12_radius {l : Launch} {G : Gx} (hap : k_ap G shR.length) (v1 : Int32) (M0 : Mem) (r : Int32 × Mem) (hf : f_X12_radius v1 M0 = some r) : k_Met l yX12_radius cX12_radius 6 (some .int) 2 45 G shR [.ref (G.2.1 0), .int v1] M0 (k_Qi G shR r.1 r.2) := by
  refine k_Met_of (by decide) hap (Nat.le_of_ble_eq_true rfl) ?_
  intro p e s m args below meth c C hr hlk
  have C : Cx p s m args c cX12_radius RX12 6 G shR := C
  have k_b24 : ∀ (n24 : Nat) (v1 : Int32) (v2 : Int32) (v3 : Int32) (v4 : Int32) (M : Mem), f_X12_radius_b24 n24 v1 v2 v3 v4 M = some r → K p l e (k_rm 2 45) s m args below meth c 6 G shR (MQ below (k_Qi G shR r.1 r.2) args s 0 0 (k_A G shR.length)) 24 [(0, .ref (G.2.1 0)), (1, .int v1), (2, .int v2), (3, .int v3), (4, .int v4)] [] M := by
    intro n24
    induction n24 with
    | zero => intro v1 v2 v3 v4 M hf; simp [f_X12_radius_b24] at hf
    | succ n24 ih24 =>
      have k_b57 : ∀ (n57 : Nat) (v1 : Int32) (v2 : Int32) (v3 : Int32) (v4 : Int32) (v5 : Int32) (M : Mem), f_X12_radius_b57 (f_X12_radius_b24 n24) n57 v1 v2 v3 v4 v5 M = some r → K p l e (k_rm 2 45) s m args below meth c 6 G shR (MQ below (k_Qi G shR r.1 r.2) args s 0 0 (k_A G shR.length)) 57 [(0, .ref (G.2.1 0)), (1, .int v1), (2, .int v2), (3, .int v3), (4, .int v4), (5, .int v5)] [] M := by
        intro n57
        induction n57 with
        | zero => intro v1 v2 v3 v4 v5 M hf; simp [f_X12_radius_b57] at hf
        | succ n57 ih57 =>
          intro v1 v2 v3 v4 v5 M hf
          unfold f_X12_radius_b57 at hf
          refine k_iload C dX12_radius_57 5 rfl ?_
          refine k_iload C dX12_radius_59 4 rfl ?_
          rcases ite_g hf with ⟨c5, hf⟩ | ⟨c5, hf⟩
          · refine k_icmp_ge_t C dX12_radius_61 (tgt := 115) (by decide) c5 ?_
            refine k_iinc C dX12_radius_115 4 rfl (v := (v4 + (1 : Int32))) rfl (by decide) [1, 2, 3, 4, 0] (lv' := [(0, .ref (G.2.1 0)), (1, .int v1), (2, .int v2), (3, .int v3), (4, .int (v4 + (1 : Int32)))]) rfl ?_
            refine k_goto C dX12_radius_118 (tgt := 24) (by decide) ?_
            exact ih24 v1 v2 v3 (v4 + (1 : Int32)) M hf
          · refine k_icmp_ge_f C dX12_radius_61 (tgt := 115) (by decide) c5 ?_
            refine k_aload_n C dX12_radius_64 0 rfl ?_
            refine k_getr C shR_0 (j := 3) rfl FL_X12_19 dX12_radius_65 ?_
            refine k_iload C dX12_radius_68 4 rfl ?_
            obtain ⟨t6, ht6, hf⟩ := bnd hf
            refine k_iald C shR_4 ht6 dX12_radius_70 ?_
            refine k_aload_n C dX12_radius_71 0 rfl ?_
            refine k_getr C shR_0 (j := 3) rfl FL_X12_19 dX12_radius_72 ?_
            refine k_iload C dX12_radius_75 5 rfl ?_
            obtain ⟨t7, ht7, hf⟩ := bnd hf
            refine k_iald C shR_4 ht7 dX12_radius_77 ?_
            refine k_ixor C dX12_radius_78 ?_
            obtain ⟨t8, ht8, hf⟩ := bnd hf
            refine k_callSi C (As := [.int (t6 ^^^ t7)]) (c_X12_bits hap (t6 ^^^ t7) M t8 ht8) MS_X12_bits wd_1463 rfl rfl ⟨Nat.le_of_ble_eq_true rfl, Nat.le_of_ble_eq_true rfl⟩ (Nat.le_of_ble_eq_true rfl) dX12_radius_79 ?_
            refine k_iload_n C dX12_radius_82 2 rfl ?_
            rcases ite_g hf with ⟨c9, hf⟩ | ⟨c9, hf⟩
            · refine k_icmp_le_t C dX12_radius_83 (tgt := 107) (by decide) c9 ?_
              refine k_iload_n C dX12_radius_107 2 rfl ?_
              refine k_istore_n C dX12_radius_108 (by decide) [1, 2, 0, 3, 4, 5] (lv' := [(0, .ref (G.2.1 0)), (1, .int v1), (2, .int v2), (3, .int v3), (4, .int v4), (5, .int v5)]) rfl ?_
              refine k_iinc C dX12_radius_109 5 rfl (v := (v5 + (1 : Int32))) rfl (by decide) [1, 2, 3, 4, 5, 0] (lv' := [(0, .ref (G.2.1 0)), (1, .int v1), (2, .int v2), (3, .int v3), (4, .int v4), (5, .int (v5 + (1 : Int32)))]) rfl ?_
              refine k_goto C dX12_radius_112 (tgt := 57) (by decide) ?_
              exact ih57 v1 v2 v3 v4 (v5 + (1 : Int32)) M hf
            · refine k_icmp_le_f C dX12_radius_83 (tgt := 107) (by decide) c9 ?_
              refine k_aload_n C dX12_radius_86 0 rfl ?_
              refine k_getr C shR_0 (j := 3) rfl FL_X12_19 dX12_radius_87 ?_
              refine k_iload C dX12_radius_90 4 rfl ?_
              obtain ⟨t10, ht10, hf⟩ := bnd hf
              refine k_iald C shR_4 ht10 dX12_radius_92 ?_
              refine k_aload_n C dX12_radius_93 0 rfl ?_
              refine k_getr C shR_0 (j := 3) rfl FL_X12_19 dX12_radius_94 ?_
              refine k_iload C dX12_radius_97 5 rfl ?_
              obtain ⟨t11, ht11, hf⟩ := bnd hf
              refine k_iald C shR_4 ht11 dX12_radius_99 ?_
              refine k_ixor C dX12_radius_100 ?_
              obtain ⟨t12, ht12, hf⟩ := bnd hf
              refine k_callSi C (As := [.int (t10 ^^^ t11)]) (c_X12_bits hap (t10 ^^^ t11) M t12 ht12) MS_X12_bits wd_1463 rfl rfl ⟨Nat.le_of_ble_eq_true rfl, Nat.le_of_ble_eq_true rfl⟩ (Nat.le_of_ble_eq_true rfl) dX12_radius_101 ?_
              refine k_goto C dX12_radius_104 (tgt := 108) (by decide) ?_
              refine k_istore_n C dX12_radius_108 (by decide) [1, 2, 0, 3, 4, 5] (lv' := [(0, .ref (G.2.1 0)), (1, .int v1), (2, .int t12), (3, .int v3), (4, .int v4), (5, .int v5)]) rfl ?_
              refine k_iinc C dX12_radius_109 5 rfl (v := (v5 + (1 : Int32))) rfl (by decide) [1, 2, 3, 4, 5, 0] (lv' := [(0, .ref (G.2.1 0)), (1, .int v1), (2, .int t12), (3, .int v3), (4, .int v4), (5, .int (v5 + (1 : Int32)))]) rfl ?_
              refine k_goto C dX12_radius_112 (tgt := 57) (by decide) ?_
              exact ih57 v1 t12 v3 v4 (v5 + (1 : Int32)) M hf
      intro v1 v2 v3 v4 M hf
      unfold f_X12_radius_b24 at hf
      refine k_iload C dX12_radius_24 4 rfl ?_
      refine k_aload_n C dX12_radius_26 0 rfl ?_
      refine k_geti C shR_0 (j := 5) rfl FL_X12_62 dX12_radius_27 ?_
      rcases ite_g hf with ⟨c2, hf⟩ | ⟨c2, hf⟩
      · refine k_icmp_ge_t C dX12_radius_30 (tgt := 121) (by decide) c2 ?_
        refine k_iload_n C dX12_radius_121 1 rfl ?_
        rcases ite_g hf with ⟨c3, hf⟩ | ⟨c3, hf⟩
        · refine k_if_ne_f C dX12_radius_122 (tgt := 129) (by decide) c3 ?_
          refine k_iload_n C dX12_radius_125 2 rfl ?_
          refine k_goto C dX12_radius_126 (tgt := 130) (by decide) ?_
          exact k_iret C hr hlk (prf hf) (prs hf) dX12_radius_130
        · refine k_if_ne_t C dX12_radius_122 (tgt := 129) (by decide) c3 ?_
          refine k_iload_n C dX12_radius_129 3 rfl ?_
          exact k_iret C hr hlk (prf hf) (prs hf) dX12_radius_130
      · refine k_icmp_ge_f C dX12_radius_30 (tgt := 121) (by decide) c2 ?_
        refine k_iload_n C dX12_radius_33 3 rfl ?_
        rcases ite_g hf with ⟨c4, hf⟩ | ⟨c4, hf⟩
        · refine k_if_lt_t C dX12_radius_34 (tgt := 51) (by decide) c4 ?_
          refine k_iload C dX12_radius_51 4 rfl ?_
          refine k_istore_n C dX12_radius_53 (by decide) [1, 2, 3, 0, 4] (lv' := [(0, .ref (G.2.1 0)), (1, .int v1), (2, .int v2), (3, .int v4), (4, .int v4)]) rfl ?_
          refine k_iconst C dX12_radius_54 (v := (0 : Int32)) rfl ?_
          refine k_istore C dX12_radius_55 (by decide) [1, 2, 3, 4, 5, 0] (lv' := [(0, .ref (G.2.1 0)), (1, .int v1), (2, .int v2), (3, .int v4), (4, .int v4), (5, .int (0 : Int32))]) rfl ?_
          exact k_b57 FU v1 v2 v4 v4 (0 : Int32) M hf
        · refine k_if_lt_f C dX12_radius_34 (tgt := 51) (by decide) c4 ?_
          refine k_aload_n C dX12_radius_37 0 rfl ?_
          refine k_iload C dX12_radius_38 4 rfl ?_
          obtain ⟨t13, ht13, hf⟩ := bnd hf
          refine k_callVi C (As := [.int v4]) (c_X12_apartOf hap v4 M t13 ht13) ML_X12_apartOf wd_1744 shR_0 rfl rfl rfl ⟨Nat.le_of_ble_eq_true rfl, Nat.le_of_ble_eq_true rfl⟩ (Nat.le_of_ble_eq_true rfl) dX12_radius_40 ?_
          refine k_aload_n C dX12_radius_43 0 rfl ?_
          refine k_iload_n C dX12_radius_44 3 rfl ?_
          obtain ⟨t14, ht14, hf⟩ := bnd hf
          refine k_callVi C (As := [.int v3]) (c_X12_apartOf hap v3 M t14 ht14) ML_X12_apartOf wd_1744 shR_0 rfl rfl rfl ⟨Nat.le_of_ble_eq_true rfl, Nat.le_of_ble_eq_true rfl⟩ (Nat.le_of_ble_eq_true rfl) dX12_radius_45 ?_
          rcases ite_g hf with ⟨c15, hf⟩ | ⟨c15, hf⟩
          · refine k_icmp_ge_t C dX12_radius_48 (tgt := 54) (by decide) c15 ?_
            refine k_iconst C dX12_radius_54 (v := (0 : Int32)) rfl ?_
            refine k_istore C dX12_radius_55 (by decide) [1, 2, 3, 4, 5, 0] (lv' := [(0, .ref (G.2.1 0)), (1, .int v1), (2, .int v2), (3, .int v3), (4, .int v4), (5, .int (0 : Int32))]) rfl ?_
            exact k_b57 FU v1 v2 v3 v4 (0 : Int32) M hf
          · refine k_icmp_ge_f C dX12_radius_48 (tgt := 54) (by decide) c15 ?_
            refine k_iload C dX12_radius_51 4 rfl ?_
            refine k_istore_n C dX12_radius_53 (by decide) [1, 2, 3, 0, 4] (lv' := [(0, .ref (G.2.1 0)), (1, .int v1), (2, .int v2), (3, .int v4), (4, .int v4)]) rfl ?_
            refine k_iconst C dX12_radius_54 (v := (0 : Int32)) rfl ?_
            refine k_istore C dX12_radius_55 (by decide) [1, 2, 3, 4, 5, 0] (lv' := [(0, .ref (G.2.1 0)), (1, .int v1), (2, .int v2), (3, .int v4), (4, .int v4), (5, .int (0 : Int32))]) rfl ?_
            exact k_b57 FU v1 v2 v4 v4 (0 : Int32) M hf
  unfold f_X12_radius at hf
  refine k_lv (lv' := [(0, .ref (G.2.1 0)), (1, .int v1)]) [0, 1] rfl ?_
  refine k_iload_n C dX12_radius_0 1 rfl ?_
  refine k_iconst C dX12_radius_1 (v := (0 : Int32)) rfl ?_
  refine k_iconst C dX12_radius_2 (v := (1 : Int32)) rfl ?_
  refine k_callSi C (As := [.int v1, .int (0 : Int32), .int (1 : Int32)]) (c_X12_isIn hap v1 (0 : Int32) (1 : Int32) M0 _ rfl) MS_X12_isIn wd_1393 rfl rfl ⟨Nat.le_of_ble_eq_true rfl, Nat.le_of_ble_eq_true rfl⟩ (Nat.le_of_ble_eq_true rfl) dX12_radius_3 ?_
  rcases ite_g hf with ⟨c1, hf⟩ | ⟨c1, hf⟩
  · refine k_if_ne_f C dX12_radius_6 (tgt := 16) (by decide) c1 ?_
    refine k_aload_n C dX12_radius_9 0 rfl ?_
    refine k_bipush C dX12_radius_10 (v := (-2 : Int32)) rfl ?_
    obtain ⟨⟨t16, M16⟩, ht16, hf⟩ := bnd hf
    replace hf := bp_s hf
    refine k_callVi C (As := [.int (-2 : Int32)]) (c_X12_no hap (-2 : Int32) M0 (t16, M16) ht16) ML_X12_no wd_1369 shR_0 rfl rfl rfl ⟨Nat.le_of_ble_eq_true rfl, Nat.le_of_ble_eq_true rfl⟩ (Nat.le_of_ble_eq_true rfl) dX12_radius_12 ?_
    exact k_iret C hr hlk (prf hf) (prs hf) dX12_radius_15
  · refine k_if_ne_t C dX12_radius_6 (tgt := 16) (by decide) c1 ?_
    refine k_iconst C dX12_radius_16 (v := (0 : Int32)) rfl ?_
    refine k_istore_n C dX12_radius_17 (by decide) [1, 2, 0] (lv' := [(0, .ref (G.2.1 0)), (1, .int v1), (2, .int (0 : Int32))]) rfl ?_
    refine k_bipush C dX12_radius_18 (v := (-9 : Int32)) rfl ?_
    refine k_istore_n C dX12_radius_20 (by decide) [1, 2, 3, 0] (lv' := [(0, .ref (G.2.1 0)), (1, .int v1), (2, .int (0 : Int32)), (3, .int (-9 : Int32))]) rfl ?_
    refine k_iconst C dX12_radius_21 (v := (0 : Int32)) rfl ?_
    refine k_istore C dX12_radius_22 (by decide) [1, 2, 3, 4, 0] (lv' := [(0, .ref (G.2.1 0)), (1, .int v1), (2, .int (0 : Int32)), (3, .int (-9 : Int32)), (4, .int (0 : Int32))]) rfl ?_
    exact k_b24 FU v1 (0 : Int32) (-9 : Int32) (0 : Int32) M0 hf
theorem dX12_majority_0 : decode cX12_majority 0 = .ok (.iconst 0, 1) := by decide +kernel
theorem dX12_majority_1 : decode cX12_majority 1 = .ok (.istore_n 1, 1) := by decide +kernel
theorem dX12_majority_2 : decode cX12_majority 2 = .ok (.iconst 0, 1) := by decide +kernel
theorem dX12_majority_3 : decode cX12_majority 3 = .ok (.istore_n 2, 1) := by decide +kernel
theorem dX12_majority_4 : decode cX12_majority 4 = .ok (.iload_n 2, 1) := by decide +kernel
theorem dX12_majority_5 : decode cX12_majority 5 = .ok (.bipush 8, 2) := by decide +kernel
theorem dX12_majority_7 : decode cX12_majority 7 = .ok (.if_icmp .ge 63, 3) := by decide +kernel
theorem dX12_majority_10 : decode cX12_majority 10 = .ok (.iconst 0, 1) := by decide +kernel
theorem dX12_majority_11 : decode cX12_majority 11 = .ok (.istore_n 3, 1) := by decide +kernel
theorem dX12_majority_12 : decode cX12_majority 12 = .ok (.iconst 0, 1) := by decide +kernel
theorem dX12_majority_13 : decode cX12_majority 13 = .ok (.istore 4, 2) := by decide +kernel
theorem dX12_majority_15 : decode cX12_majority 15 = .ok (.iload 4, 2) := by decide +kernel
theorem dX12_majority_17 : decode cX12_majority 17 = .ok (.aload_n 0, 1) := by decide +kernel
theorem dX12_majority_18 : decode cX12_majority 18 = .ok (.getfield 62, 3) := by decide +kernel
theorem dX12_majority_21 : decode cX12_majority 21 = .ok (.if_icmp .ge 23, 3) := by decide +kernel
theorem dX12_majority_24 : decode cX12_majority 24 = .ok (.iload_n 3, 1) := by decide +kernel
theorem dX12_majority_25 : decode cX12_majority 25 = .ok (.aload_n 0, 1) := by decide +kernel
theorem dX12_majority_26 : decode cX12_majority 26 = .ok (.getfield 19, 3) := by decide +kernel
theorem dX12_majority_29 : decode cX12_majority 29 = .ok (.iload 4, 2) := by decide +kernel
theorem dX12_majority_31 : decode cX12_majority 31 = .ok (.iaload, 1) := by decide +kernel
theorem dX12_majority_32 : decode cX12_majority 32 = .ok (.iload_n 2, 1) := by decide +kernel
theorem dX12_majority_33 : decode cX12_majority 33 = .ok (.ishr, 1) := by decide +kernel
theorem dX12_majority_34 : decode cX12_majority 34 = .ok (.iconst 1, 1) := by decide +kernel
theorem dX12_majority_35 : decode cX12_majority 35 = .ok (.iand, 1) := by decide +kernel
theorem dX12_majority_36 : decode cX12_majority 36 = .ok (.iadd, 1) := by decide +kernel
theorem dX12_majority_37 : decode cX12_majority 37 = .ok (.istore_n 3, 1) := by decide +kernel
theorem dX12_majority_38 : decode cX12_majority 38 = .ok (.iinc 4 1, 3) := by decide +kernel
theorem dX12_majority_41 : decode cX12_majority 41 = .ok (.goto (-26), 3) := by decide +kernel
theorem dX12_majority_44 : decode cX12_majority 44 = .ok (.iload_n 1, 1) := by decide +kernel
theorem dX12_majority_45 : decode cX12_majority 45 = .ok (.iconst 2, 1) := by decide +kernel
theorem dX12_majority_46 : decode cX12_majority 46 = .ok (.iload_n 3, 1) := by decide +kernel
theorem dX12_majority_47 : decode cX12_majority 47 = .ok (.imul, 1) := by decide +kernel
theorem dX12_majority_48 : decode cX12_majority 48 = .ok (.aload_n 0, 1) := by decide +kernel
theorem dX12_majority_49 : decode cX12_majority 49 = .ok (.getfield 62, 3) := by decide +kernel
theorem dX12_majority_52 : decode cX12_majority 52 = .ok (.if_icmp .le 9, 3) := by decide +kernel
theorem dX12_majority_55 : decode cX12_majority 55 = .ok (.iconst 1, 1) := by decide +kernel
theorem dX12_majority_56 : decode cX12_majority 56 = .ok (.iload_n 2, 1) := by decide +kernel
theorem dX12_majority_57 : decode cX12_majority 57 = .ok (.ishl, 1) := by decide +kernel
theorem dX12_majority_58 : decode cX12_majority 58 = .ok (.goto 4, 3) := by decide +kernel
theorem dX12_majority_61 : decode cX12_majority 61 = .ok (.iconst 0, 1) := by decide +kernel
theorem dX12_majority_62 : decode cX12_majority 62 = .ok (.ior, 1) := by decide +kernel
theorem dX12_majority_63 : decode cX12_majority 63 = .ok (.istore_n 1, 1) := by decide +kernel
theorem dX12_majority_64 : decode cX12_majority 64 = .ok (.iinc 2 1, 3) := by decide +kernel
theorem dX12_majority_67 : decode cX12_majority 67 = .ok (.goto (-63), 3) := by decide +kernel
theorem dX12_majority_70 : decode cX12_majority 70 = .ok (.iload_n 1, 1) := by decide +kernel
theorem dX12_majority_71 : decode cX12_majority 71 = .ok (.ireturn, 1) := by decide +kernel
set_option maxRecDepth 100000 in
set_option maxHeartbeats 4000000 in
theorem c_X12_majority {l : Launch} {G : Gx} (hap : k_ap G shR.length) (M0 : Mem) (r : Int32) (hf : f_X12_majority M0 = some r) : k_Met l yX12_majority cX12_majority 5 (some .int) 0 0 G shR [.ref (G.2.1 0)] M0 (k_Qi G shR r M0) := by
  refine k_Met_of (by decide) hap (Nat.le_of_ble_eq_true rfl) ?_
  intro p e s m args below meth c C hr hlk
  have C : Cx p s m args c cX12_majority RX12 5 G shR := C
  have k_b4 : ∀ (n4 : Nat) (v1 : Int32) (v2 : Int32), f_X12_majority_b4 M0 n4 v1 v2 = some r → K p l e (k_rm 0 0) s m args below meth c 5 G shR (MQ below (k_Qi G shR r M0) args s 0 0 (k_A G shR.length)) 4 [(0, .ref (G.2.1 0)), (1, .int v1), (2, .int v2)] [] M0 := by
    intro n4
    induction n4 with
    | zero => intro v1 v2 hf; simp [f_X12_majority_b4] at hf
    | succ n4 ih4 =>
      have k_b15 : ∀ (n15 : Nat) (v1 : Int32) (v2 : Int32) (v3 : Int32) (v4 : Int32), f_X12_majority_b15 M0 (f_X12_majority_b4 M0 n4) n15 v1 v2 v3 v4 = some r → K p l e (k_rm 0 0) s m args below meth c 5 G shR (MQ below (k_Qi G shR r M0) args s 0 0 (k_A G shR.length)) 15 [(0, .ref (G.2.1 0)), (1, .int v1), (2, .int v2), (3, .int v3), (4, .int v4)] [] M0 := by
        intro n15
        induction n15 with
        | zero => intro v1 v2 v3 v4 hf; simp [f_X12_majority_b15] at hf
        | succ n15 ih15 =>
          intro v1 v2 v3 v4 hf
          unfold f_X12_majority_b15 at hf
          refine k_iload C dX12_majority_15 4 rfl ?_
          refine k_aload_n C dX12_majority_17 0 rfl ?_
          refine k_geti C shR_0 (j := 5) rfl FL_X12_62 dX12_majority_18 ?_
          rcases ite_g hf with ⟨c2, hf⟩ | ⟨c2, hf⟩
          · refine k_icmp_ge_t C dX12_majority_21 (tgt := 44) (by decide) c2 ?_
            refine k_iload_n C dX12_majority_44 1 rfl ?_
            refine k_iconst C dX12_majority_45 (v := (2 : Int32)) rfl ?_
            refine k_iload_n C dX12_majority_46 3 rfl ?_
            refine k_imul C dX12_majority_47 ?_
            refine k_aload_n C dX12_majority_48 0 rfl ?_
            refine k_geti C shR_0 (j := 5) rfl FL_X12_62 dX12_majority_49 ?_
            have hj3 : K p l e (k_rm 0 0) s m args below meth c 5 G shR (MQ below (k_Qi G shR r M0) args s 0 0 (k_A G shR.length)) 62 [(0, .ref (G.2.1 0)), (1, .int v1), (2, .int v2), (3, .int v3), (4, .int v4)] [.int (if ((2 : Int32) * v3) ≤ (M0.1 0 5) then (0 : Int32) else (jshl (1 : Int32) v2)), .int v1] M0 := by
              refine k_ior C dX12_majority_62 ?_
              refine k_istore_n C dX12_majority_63 (by decide) [1, 0, 2] (lv' := [(0, .ref (G.2.1 0)), (1, .int (v1 ||| (if ((2 : Int32) * v3) ≤ (M0.1 0 5) then (0 : Int32) else (jshl (1 : Int32) v2)))), (2, .int v2)]) rfl ?_
              refine k_iinc C dX12_majority_64 2 rfl (v := (v2 + (1 : Int32))) rfl (by decide) [1, 2, 0] (lv' := [(0, .ref (G.2.1 0)), (1, .int (v1 ||| (if ((2 : Int32) * v3) ≤ (M0.1 0 5) then (0 : Int32) else (jshl (1 : Int32) v2)))), (2, .int (v2 + (1 : Int32)))]) rfl ?_
              refine k_goto C dX12_majority_67 (tgt := 4) (by decide) ?_
              exact ih4 (v1 ||| (if ((2 : Int32) * v3) ≤ (M0.1 0 5) then (0 : Int32) else (jshl (1 : Int32) v2))) (v2 + (1 : Int32)) hf
            by_cases c4 : ((2 : Int32) * v3) ≤ (M0.1 0 5)
            · refine k_icmp_le_t C dX12_majority_52 (tgt := 61) (by decide) c4 ?_
              refine k_iconst C dX12_majority_61 (v := (0 : Int32)) rfl ?_
              exact k_val (by rw [if_pos c4]) hj3
            · refine k_icmp_le_f C dX12_majority_52 (tgt := 61) (by decide) c4 ?_
              refine k_iconst C dX12_majority_55 (v := (1 : Int32)) rfl ?_
              refine k_iload_n C dX12_majority_56 2 rfl ?_
              refine k_ishlJ C dX12_majority_57 ?_
              refine k_goto C dX12_majority_58 (tgt := 62) (by decide) ?_
              exact k_val (by rw [if_neg c4]) hj3
          · refine k_icmp_ge_f C dX12_majority_21 (tgt := 44) (by decide) c2 ?_
            refine k_iload_n C dX12_majority_24 3 rfl ?_
            refine k_aload_n C dX12_majority_25 0 rfl ?_
            refine k_getr C shR_0 (j := 3) rfl FL_X12_19 dX12_majority_26 ?_
            refine k_iload C dX12_majority_29 4 rfl ?_
            obtain ⟨t5, ht5, hf⟩ := bnd hf
            refine k_iald C shR_4 ht5 dX12_majority_31 ?_
            refine k_iload_n C dX12_majority_32 2 rfl ?_
            refine k_ishrJ C dX12_majority_33 ?_
            refine k_iconst C dX12_majority_34 (v := (1 : Int32)) rfl ?_
            refine k_iand C dX12_majority_35 ?_
            refine k_iadd C dX12_majority_36 ?_
            refine k_istore_n C dX12_majority_37 (by decide) [1, 2, 3, 0, 4] (lv' := [(0, .ref (G.2.1 0)), (1, .int v1), (2, .int v2), (3, .int (v3 + ((jshr t5 v2) &&& (1 : Int32)))), (4, .int v4)]) rfl ?_
            refine k_iinc C dX12_majority_38 4 rfl (v := (v4 + (1 : Int32))) rfl (by decide) [1, 2, 3, 4, 0] (lv' := [(0, .ref (G.2.1 0)), (1, .int v1), (2, .int v2), (3, .int (v3 + ((jshr t5 v2) &&& (1 : Int32)))), (4, .int (v4 + (1 : Int32)))]) rfl ?_
            refine k_goto C dX12_majority_41 (tgt := 15) (by decide) ?_
            exact ih15 v1 v2 (v3 + ((jshr t5 v2) &&& (1 : Int32))) (v4 + (1 : Int32)) hf
      intro v1 v2 hf
      unfold f_X12_majority_b4 at hf
      refine k_iload_n C dX12_majority_4 2 rfl ?_
      refine k_bipush C dX12_majority_5 (v := (8 : Int32)) rfl ?_
      rcases ite_g hf with ⟨c1, hf⟩ | ⟨c1, hf⟩
      · refine k_icmp_ge_t C dX12_majority_7 (tgt := 70) (by decide) c1 ?_
        refine k_iload_n C dX12_majority_70 1 rfl ?_
        exact k_iret C hr hlk (Option.some.inj hf) rfl dX12_majority_71
      · refine k_icmp_ge_f C dX12_majority_7 (tgt := 70) (by decide) c1 ?_
        refine k_iconst C dX12_majority_10 (v := (0 : Int32)) rfl ?_
        refine k_istore_n C dX12_majority_11 (by decide) [1, 2, 3, 0] (lv' := [(0, .ref (G.2.1 0)), (1, .int v1), (2, .int v2), (3, .int (0 : Int32))]) rfl ?_
        refine k_iconst C dX12_majority_12 (v := (0 : Int32)) rfl ?_
        refine k_istore C dX12_majority_13 (by decide) [1, 2, 3, 4, 0] (lv' := [(0, .ref (G.2.1 0)), (1, .int v1), (2, .int v2), (3, .int (0 : Int32)), (4, .int (0 : Int32))]) rfl ?_
        exact k_b15 FU v1 v2 (0 : Int32) (0 : Int32) hf
  unfold f_X12_majority at hf
  refine k_lv (lv' := [(0, .ref (G.2.1 0))]) [0] rfl ?_
  refine k_iconst C dX12_majority_0 (v := (0 : Int32)) rfl ?_
  refine k_istore_n C dX12_majority_1 (by decide) [1, 0] (lv' := [(0, .ref (G.2.1 0)), (1, .int (0 : Int32))]) rfl ?_
  refine k_iconst C dX12_majority_2 (v := (0 : Int32)) rfl ?_
  refine k_istore_n C dX12_majority_3 (by decide) [1, 2, 0] (lv' := [(0, .ref (G.2.1 0)), (1, .int (0 : Int32)), (2, .int (0 : Int32))]) rfl ?_
  exact k_b4 FU (0 : Int32) (0 : Int32) hf
theorem dX12_dueOfKind_0 : decode cX12_dueOfKind 0 = .ok (.iconst 0, 1) := by decide +kernel
theorem dX12_dueOfKind_1 : decode cX12_dueOfKind 1 = .ok (.istore_n 2, 1) := by decide +kernel
theorem dX12_dueOfKind_2 : decode cX12_dueOfKind 2 = .ok (.iconst 0, 1) := by decide +kernel
theorem dX12_dueOfKind_3 : decode cX12_dueOfKind 3 = .ok (.istore_n 3, 1) := by decide +kernel
theorem dX12_dueOfKind_4 : decode cX12_dueOfKind 4 = .ok (.iload_n 3, 1) := by decide +kernel
theorem dX12_dueOfKind_5 : decode cX12_dueOfKind 5 = .ok (.aload_n 0, 1) := by decide +kernel
theorem dX12_dueOfKind_6 : decode cX12_dueOfKind 6 = .ok (.getfield 108, 3) := by decide +kernel
theorem dX12_dueOfKind_9 : decode cX12_dueOfKind 9 = .ok (.if_icmp .ge 36, 3) := by decide +kernel
theorem dX12_dueOfKind_12 : decode cX12_dueOfKind 12 = .ok (.iload_n 2, 1) := by decide +kernel
theorem dX12_dueOfKind_13 : decode cX12_dueOfKind 13 = .ok (.aload_n 0, 1) := by decide +kernel
theorem dX12_dueOfKind_14 : decode cX12_dueOfKind 14 = .ok (.getfield 13, 3) := by decide +kernel
theorem dX12_dueOfKind_17 : decode cX12_dueOfKind 17 = .ok (.aload_n 0, 1) := by decide +kernel
theorem dX12_dueOfKind_18 : decode cX12_dueOfKind 18 = .ok (.getfield 22, 3) := by decide +kernel
theorem dX12_dueOfKind_21 : decode cX12_dueOfKind 21 = .ok (.iload_n 3, 1) := by decide +kernel
theorem dX12_dueOfKind_22 : decode cX12_dueOfKind 22 = .ok (.iaload, 1) := by decide +kernel
theorem dX12_dueOfKind_23 : decode cX12_dueOfKind 23 = .ok (.iaload, 1) := by decide +kernel
theorem dX12_dueOfKind_24 : decode cX12_dueOfKind 24 = .ok (.iload_n 1, 1) := by decide +kernel
theorem dX12_dueOfKind_25 : decode cX12_dueOfKind 25 = .ok (.if_icmp .ne 11, 3) := by decide +kernel
theorem dX12_dueOfKind_28 : decode cX12_dueOfKind 28 = .ok (.aload_n 0, 1) := by decide +kernel
theorem dX12_dueOfKind_29 : decode cX12_dueOfKind 29 = .ok (.iload_n 3, 1) := by decide +kernel
theorem dX12_dueOfKind_30 : decode cX12_dueOfKind 30 = .ok (.invokevirtual 164, 3) := by decide +kernel
theorem dX12_dueOfKind_33 : decode cX12_dueOfKind 33 = .ok (.goto 4, 3) := by decide +kernel
theorem dX12_dueOfKind_36 : decode cX12_dueOfKind 36 = .ok (.iconst 0, 1) := by decide +kernel
theorem dX12_dueOfKind_37 : decode cX12_dueOfKind 37 = .ok (.iadd, 1) := by decide +kernel
theorem dX12_dueOfKind_38 : decode cX12_dueOfKind 38 = .ok (.istore_n 2, 1) := by decide +kernel
theorem dX12_dueOfKind_39 : decode cX12_dueOfKind 39 = .ok (.iinc 3 1, 3) := by decide +kernel
theorem dX12_dueOfKind_42 : decode cX12_dueOfKind 42 = .ok (.goto (-38), 3) := by decide +kernel
theorem dX12_dueOfKind_45 : decode cX12_dueOfKind 45 = .ok (.iload_n 2, 1) := by decide +kernel
theorem dX12_dueOfKind_46 : decode cX12_dueOfKind 46 = .ok (.ireturn, 1) := by decide +kernel
set_option maxRecDepth 100000 in
set_option maxHeartbeats 4000000 in
theorem c_X12_dueOfKind {l : Launch} {G : Gx} (hap : k_ap G shR.length) (v1 : Int32) (M0 : Mem) (r : Int32) (hf : f_X12_dueOfKind v1 M0 = some r) : k_Met l yX12_dueOfKind cX12_dueOfKind 4 (some .int) 4 89 G shR [.ref (G.2.1 0), .int v1] M0 (k_Qi G shR r M0) := by
  refine k_Met_of (by decide) hap (Nat.le_of_ble_eq_true rfl) ?_
  intro p e s m args below meth c C hr hlk
  have C : Cx p s m args c cX12_dueOfKind RX12 4 G shR := C
  have k_b4 : ∀ (n4 : Nat) (v1 : Int32) (v2 : Int32) (v3 : Int32), f_X12_dueOfKind_b4 M0 n4 v1 v2 v3 = some r → K p l e (k_rm 4 89) s m args below meth c 4 G shR (MQ below (k_Qi G shR r M0) args s 0 0 (k_A G shR.length)) 4 [(0, .ref (G.2.1 0)), (1, .int v1), (2, .int v2), (3, .int v3)] [] M0 := by
    intro n4
    induction n4 with
    | zero => intro v1 v2 v3 hf; simp [f_X12_dueOfKind_b4] at hf
    | succ n4 ih4 =>
      intro v1 v2 v3 hf
      unfold f_X12_dueOfKind_b4 at hf
      refine k_iload_n C dX12_dueOfKind_4 3 rfl ?_
      refine k_aload_n C dX12_dueOfKind_5 0 rfl ?_
      refine k_geti C shR_0 (j := 6) rfl FL_X12_108 dX12_dueOfKind_6 ?_
      rcases ite_g hf with ⟨c1, hf⟩ | ⟨c1, hf⟩
      · refine k_icmp_ge_t C dX12_dueOfKind_9 (tgt := 45) (by decide) c1 ?_
        refine k_iload_n C dX12_dueOfKind_45 2 rfl ?_
        exact k_iret C hr hlk (Option.some.inj hf) rfl dX12_dueOfKind_46
      · refine k_icmp_ge_f C dX12_dueOfKind_9 (tgt := 45) (by decide) c1 ?_
        refine k_iload_n C dX12_dueOfKind_12 2 rfl ?_
        refine k_aload_n C dX12_dueOfKind_13 0 rfl ?_
        refine k_getr C shR_0 (j := 1) rfl FL_X12_13 dX12_dueOfKind_14 ?_
        refine k_aload_n C dX12_dueOfKind_17 0 rfl ?_
        refine k_getr C shR_0 (j := 4) rfl FL_X12_22 dX12_dueOfKind_18 ?_
        refine k_iload_n C dX12_dueOfKind_21 3 rfl ?_
        obtain ⟨t2, ht2, hf⟩ := bnd hf
        refine k_iald C shR_5 ht2 dX12_dueOfKind_22 ?_
        obtain ⟨t3, ht3, hf⟩ := bnd hf
        refine k_iald C shR_2 ht3 dX12_dueOfKind_23 ?_
        refine k_iload_n C dX12_dueOfKind_24 1 rfl ?_
        rcases ite_g hf with ⟨c5, hf⟩ | ⟨c5, hf⟩
        · refine k_icmp_ne_f C dX12_dueOfKind_25 (tgt := 36) (by decide) c5 ?_
          refine k_aload_n C dX12_dueOfKind_28 0 rfl ?_
          refine k_iload_n C dX12_dueOfKind_29 3 rfl ?_
          obtain ⟨t6, ht6, hf⟩ := bnd hf
          refine k_callVi C (As := [.int v3]) (c_X12_dueAt hap v3 M0 t6 ht6) ML_X12_dueAt wd_1451 shR_0 rfl rfl rfl ⟨Nat.le_of_ble_eq_true rfl, Nat.le_of_ble_eq_true rfl⟩ (Nat.le_of_ble_eq_true rfl) dX12_dueOfKind_30 ?_
          refine k_goto C dX12_dueOfKind_33 (tgt := 37) (by decide) ?_
          refine k_iadd C dX12_dueOfKind_37 ?_
          refine k_istore_n C dX12_dueOfKind_38 (by decide) [1, 2, 0, 3] (lv' := [(0, .ref (G.2.1 0)), (1, .int v1), (2, .int (v2 + t6)), (3, .int v3)]) rfl ?_
          refine k_iinc C dX12_dueOfKind_39 3 rfl (v := (v3 + (1 : Int32))) rfl (by decide) [1, 2, 3, 0] (lv' := [(0, .ref (G.2.1 0)), (1, .int v1), (2, .int (v2 + t6)), (3, .int (v3 + (1 : Int32)))]) rfl ?_
          refine k_goto C dX12_dueOfKind_42 (tgt := 4) (by decide) ?_
          exact ih4 v1 (v2 + t6) (v3 + (1 : Int32)) hf
        · refine k_icmp_ne_t C dX12_dueOfKind_25 (tgt := 36) (by decide) c5 ?_
          refine k_iconst C dX12_dueOfKind_36 (v := (0 : Int32)) rfl ?_
          refine k_iadd C dX12_dueOfKind_37 ?_
          refine k_istore_n C dX12_dueOfKind_38 (by decide) [1, 2, 0, 3] (lv' := [(0, .ref (G.2.1 0)), (1, .int v1), (2, .int (v2 + (0 : Int32))), (3, .int v3)]) rfl ?_
          refine k_iinc C dX12_dueOfKind_39 3 rfl (v := (v3 + (1 : Int32))) rfl (by decide) [1, 2, 3, 0] (lv' := [(0, .ref (G.2.1 0)), (1, .int v1), (2, .int (v2 + (0 : Int32))), (3, .int (v3 + (1 : Int32)))]) rfl ?_
          refine k_goto C dX12_dueOfKind_42 (tgt := 4) (by decide) ?_
          exact ih4 v1 (v2 + (0 : Int32)) (v3 + (1 : Int32)) hf
  unfold f_X12_dueOfKind at hf
  refine k_lv (lv' := [(0, .ref (G.2.1 0)), (1, .int v1)]) [0, 1] rfl ?_
  refine k_iconst C dX12_dueOfKind_0 (v := (0 : Int32)) rfl ?_
  refine k_istore_n C dX12_dueOfKind_1 (by decide) [1, 2, 0] (lv' := [(0, .ref (G.2.1 0)), (1, .int v1), (2, .int (0 : Int32))]) rfl ?_
  refine k_iconst C dX12_dueOfKind_2 (v := (0 : Int32)) rfl ?_
  refine k_istore_n C dX12_dueOfKind_3 (by decide) [1, 2, 3, 0] (lv' := [(0, .ref (G.2.1 0)), (1, .int v1), (2, .int (0 : Int32)), (3, .int (0 : Int32))]) rfl ?_
  exact k_b4 FU v1 (0 : Int32) (0 : Int32) hf
theorem dX12_byKind_0 : decode cX12_byKind 0 = .ok (.iload_n 1, 1) := by decide +kernel
theorem dX12_byKind_1 : decode cX12_byKind 1 = .ok (.iconst (-1), 1) := by decide +kernel
theorem dX12_byKind_2 : decode cX12_byKind 2 = .ok (.iconst 5, 1) := by decide +kernel
theorem dX12_byKind_3 : decode cX12_byKind 3 = .ok (.invokestatic 86, 3) := by decide +kernel
theorem dX12_byKind_6 : decode cX12_byKind 6 = .ok (.ifCond .ne 10, 3) := by decide +kernel
theorem dX12_byKind_9 : decode cX12_byKind 9 = .ok (.aload_n 0, 1) := by decide +kernel
theorem dX12_byKind_10 : decode cX12_byKind 10 = .ok (.bipush (-2), 2) := by decide +kernel
theorem dX12_byKind_12 : decode cX12_byKind 12 = .ok (.invokevirtual 75, 3) := by decide +kernel
theorem dX12_byKind_15 : decode cX12_byKind 15 = .ok (.ireturn, 1) := by decide +kernel
theorem dX12_byKind_16 : decode cX12_byKind 16 = .ok (.iload_n 1, 1) := by decide +kernel
theorem dX12_byKind_17 : decode cX12_byKind 17 = .ok (.ifCond .lt 9, 3) := by decide +kernel
theorem dX12_byKind_20 : decode cX12_byKind 20 = .ok (.aload_n 0, 1) := by decide +kernel
theorem dX12_byKind_21 : decode cX12_byKind 21 = .ok (.iload_n 1, 1) := by decide +kernel
theorem dX12_byKind_22 : decode cX12_byKind 22 = .ok (.invokevirtual 276, 3) := by decide +kernel
theorem dX12_byKind_25 : decode cX12_byKind 25 = .ok (.ireturn, 1) := by decide +kernel
theorem dX12_byKind_26 : decode cX12_byKind 26 = .ok (.iconst 0, 1) := by decide +kernel
theorem dX12_byKind_27 : decode cX12_byKind 27 = .ok (.istore_n 2, 1) := by decide +kernel
theorem dX12_byKind_28 : decode cX12_byKind 28 = .ok (.iconst 1, 1) := by decide +kernel
theorem dX12_byKind_29 : decode cX12_byKind 29 = .ok (.istore_n 3, 1) := by decide +kernel
theorem dX12_byKind_30 : decode cX12_byKind 30 = .ok (.iload_n 3, 1) := by decide +kernel
theorem dX12_byKind_31 : decode cX12_byKind 31 = .ok (.bipush 6, 2) := by decide +kernel
theorem dX12_byKind_33 : decode cX12_byKind 33 = .ok (.if_icmp .ge 28, 3) := by decide +kernel
theorem dX12_byKind_36 : decode cX12_byKind 36 = .ok (.aload_n 0, 1) := by decide +kernel
theorem dX12_byKind_37 : decode cX12_byKind 37 = .ok (.iload_n 3, 1) := by decide +kernel
theorem dX12_byKind_38 : decode cX12_byKind 38 = .ok (.invokevirtual 276, 3) := by decide +kernel
theorem dX12_byKind_41 : decode cX12_byKind 41 = .ok (.aload_n 0, 1) := by decide +kernel
theorem dX12_byKind_42 : decode cX12_byKind 42 = .ok (.iload_n 2, 1) := by decide +kernel
theorem dX12_byKind_43 : decode cX12_byKind 43 = .ok (.invokevirtual 276, 3) := by decide +kernel
theorem dX12_byKind_46 : decode cX12_byKind 46 = .ok (.if_icmp .le 7, 3) := by decide +kernel
theorem dX12_byKind_49 : decode cX12_byKind 49 = .ok (.iload_n 3, 1) := by decide +kernel
theorem dX12_byKind_50 : decode cX12_byKind 50 = .ok (.goto 4, 3) := by decide +kernel
theorem dX12_byKind_53 : decode cX12_byKind 53 = .ok (.iload_n 2, 1) := by decide +kernel
theorem dX12_byKind_54 : decode cX12_byKind 54 = .ok (.istore_n 2, 1) := by decide +kernel
theorem dX12_byKind_55 : decode cX12_byKind 55 = .ok (.iinc 3 1, 3) := by decide +kernel
theorem dX12_byKind_58 : decode cX12_byKind 58 = .ok (.goto (-28), 3) := by decide +kernel
theorem dX12_byKind_61 : decode cX12_byKind 61 = .ok (.aload_n 0, 1) := by decide +kernel
theorem dX12_byKind_62 : decode cX12_byKind 62 = .ok (.getfield 108, 3) := by decide +kernel
theorem dX12_byKind_65 : decode cX12_byKind 65 = .ok (.ifCond .ne 8, 3) := by decide +kernel
theorem dX12_byKind_68 : decode cX12_byKind 68 = .ok (.bipush (-9), 2) := by decide +kernel
theorem dX12_byKind_70 : decode cX12_byKind 70 = .ok (.goto 4, 3) := by decide +kernel
theorem dX12_byKind_73 : decode cX12_byKind 73 = .ok (.iload_n 2, 1) := by decide +kernel
theorem dX12_byKind_74 : decode cX12_byKind 74 = .ok (.ireturn, 1) := by decide +kernel
set_option maxRecDepth 100000 in
set_option maxHeartbeats 4000000 in
theorem c_X12_byKind {l : Launch} {G : Gx} (hap : k_ap G shR.length) (v1 : Int32) (M0 : Mem) (r : Int32 × Mem) (hf : f_X12_byKind v1 M0 = some r) : k_Met l yX12_byKind cX12_byKind 4 (some .int) 5 112 G shR [.ref (G.2.1 0), .int v1] M0 (k_Qi G shR r.1 r.2) := by
  refine k_Met_of (by decide) hap (Nat.le_of_ble_eq_true rfl) ?_
  intro p e s m args below meth c C hr hlk
  have C : Cx p s m args c cX12_byKind RX12 4 G shR := C
  have k_b30 : ∀ (n30 : Nat) (v2 : Int32) (v3 : Int32) (M : Mem), f_X12_byKind_b30 n30 v2 v3 M = some r → K p l e (k_rm 5 112) s m args below meth c 4 G shR (MQ below (k_Qi G shR r.1 r.2) args s 0 0 (k_A G shR.length)) 30 [(0, .ref (G.2.1 0)), (2, .int v2), (3, .int v3)] [] M := by
    intro n30
    induction n30 with
    | zero => intro v2 v3 M hf; simp [f_X12_byKind_b30] at hf
    | succ n30 ih30 =>
      intro v2 v3 M hf
      unfold f_X12_byKind_b30 at hf
      refine k_iload_n C dX12_byKind_30 2 rfl ?_
      refine k_bipush C dX12_byKind_31 (v := (6 : Int32)) rfl ?_
      rcases ite_g hf with ⟨c4, hf⟩ | ⟨c4, hf⟩
      · refine k_icmp_ge_t C dX12_byKind_33 (tgt := 61) (by decide) c4 ?_
        refine k_aload_n C dX12_byKind_61 0 rfl ?_
        refine k_geti C shR_0 (j := 6) rfl FL_X12_108 dX12_byKind_62 ?_
        rcases ite_g hf with ⟨c5, hf⟩ | ⟨c5, hf⟩
        · refine k_if_ne_f C dX12_byKind_65 (tgt := 73) (by decide) c5 ?_
          refine k_bipush C dX12_byKind_68 (v := (-9 : Int32)) rfl ?_
          refine k_goto C dX12_byKind_70 (tgt := 74) (by decide) ?_
          exact k_iret C hr hlk (prf hf) (prs hf) dX12_byKind_74
        · refine k_if_ne_t C dX12_byKind_65 (tgt := 73) (by decide) c5 ?_
          refine k_iload_n C dX12_byKind_73 1 rfl ?_
          exact k_iret C hr hlk (prf hf) (prs hf) dX12_byKind_74
      · refine k_icmp_ge_f C dX12_byKind_33 (tgt := 61) (by decide) c4 ?_
        refine k_aload_n C dX12_byKind_36 0 rfl ?_
        refine k_iload_n C dX12_byKind_37 2 rfl ?_
        obtain ⟨t6, ht6, hf⟩ := bnd hf
        refine k_callVi C (As := [.int v3]) (c_X12_dueOfKind hap v3 M t6 ht6) ML_X12_dueOfKind wd_1756 shR_0 rfl rfl rfl ⟨Nat.le_of_ble_eq_true rfl, Nat.le_of_ble_eq_true rfl⟩ (Nat.le_of_ble_eq_true rfl) dX12_byKind_38 ?_
        refine k_aload_n C dX12_byKind_41 0 rfl ?_
        refine k_iload_n C dX12_byKind_42 1 rfl ?_
        obtain ⟨t7, ht7, hf⟩ := bnd hf
        refine k_callVi C (As := [.int v2]) (c_X12_dueOfKind hap v2 M t7 ht7) ML_X12_dueOfKind wd_1756 shR_0 rfl rfl rfl ⟨Nat.le_of_ble_eq_true rfl, Nat.le_of_ble_eq_true rfl⟩ (Nat.le_of_ble_eq_true rfl) dX12_byKind_43 ?_
        have hj8 : K p l e (k_rm 5 112) s m args below meth c 4 G shR (MQ below (k_Qi G shR r.1 r.2) args s 0 0 (k_A G shR.length)) 54 [(0, .ref (G.2.1 0)), (2, .int v2), (3, .int v3)] [.int (if t6 ≤ t7 then v2 else v3)] M := by
          refine k_istore_n C dX12_byKind_54 (by decide) [1, 0, 2] (lv' := [(0, .ref (G.2.1 0)), (2, .int (if t6 ≤ t7 then v2 else v3)), (3, .int v3)]) rfl ?_
          refine k_iinc C dX12_byKind_55 2 rfl (v := (v3 + (1 : Int32))) rfl (by decide) [1, 2, 0] (lv' := [(0, .ref (G.2.1 0)), (2, .int (if t6 ≤ t7 then v2 else v3)), (3, .int (v3 + (1 : Int32)))]) rfl ?_
          refine k_goto C dX12_byKind_58 (tgt := 30) (by decide) ?_
          exact ih30 (if t6 ≤ t7 then v2 else v3) (v3 + (1 : Int32)) M hf
        by_cases c9 : t6 ≤ t7
        · refine k_icmp_le_t C dX12_byKind_46 (tgt := 53) (by decide) c9 ?_
          refine k_iload_n C dX12_byKind_53 1 rfl ?_
          exact k_val (by rw [if_pos c9]) hj8
        · refine k_icmp_le_f C dX12_byKind_46 (tgt := 53) (by decide) c9 ?_
          refine k_iload_n C dX12_byKind_49 2 rfl ?_
          refine k_goto C dX12_byKind_50 (tgt := 54) (by decide) ?_
          exact k_val (by rw [if_neg c9]) hj8
  unfold f_X12_byKind at hf
  refine k_lv (lv' := [(0, .ref (G.2.1 0)), (1, .int v1)]) [0, 1] rfl ?_
  refine k_iload_n C dX12_byKind_0 1 rfl ?_
  refine k_iconst C dX12_byKind_1 (v := (-1 : Int32)) rfl ?_
  refine k_iconst C dX12_byKind_2 (v := (5 : Int32)) rfl ?_
  refine k_callSi C (As := [.int v1, .int (-1 : Int32), .int (5 : Int32)]) (c_X12_isIn hap v1 (-1 : Int32) (5 : Int32) M0 _ rfl) MS_X12_isIn wd_1393 rfl rfl ⟨Nat.le_of_ble_eq_true rfl, Nat.le_of_ble_eq_true rfl⟩ (Nat.le_of_ble_eq_true rfl) dX12_byKind_3 ?_
  rcases ite_g hf with ⟨c1, hf⟩ | ⟨c1, hf⟩
  · refine k_if_ne_f C dX12_byKind_6 (tgt := 16) (by decide) c1 ?_
    refine k_aload_n C dX12_byKind_9 0 rfl ?_
    refine k_bipush C dX12_byKind_10 (v := (-2 : Int32)) rfl ?_
    obtain ⟨⟨t11, M11⟩, ht11, hf⟩ := bnd hf
    replace hf := bp_s hf
    refine k_callVi C (As := [.int (-2 : Int32)]) (c_X12_no hap (-2 : Int32) M0 (t11, M11) ht11) ML_X12_no wd_1369 shR_0 rfl rfl rfl ⟨Nat.le_of_ble_eq_true rfl, Nat.le_of_ble_eq_true rfl⟩ (Nat.le_of_ble_eq_true rfl) dX12_byKind_12 ?_
    exact k_iret C hr hlk (prf hf) (prs hf) dX12_byKind_15
  · refine k_if_ne_t C dX12_byKind_6 (tgt := 16) (by decide) c1 ?_
    refine k_iload_n C dX12_byKind_16 1 rfl ?_
    rcases ite_g hf with ⟨c2, hf⟩ | ⟨c2, hf⟩
    · refine k_if_lt_t C dX12_byKind_17 (tgt := 26) (by decide) c2 ?_
      refine k_iconst C dX12_byKind_26 (v := (0 : Int32)) rfl ?_
      refine k_istore_n C dX12_byKind_27 (by decide) [1, 0] (lv' := [(0, .ref (G.2.1 0)), (2, .int (0 : Int32))]) rfl ?_
      refine k_iconst C dX12_byKind_28 (v := (1 : Int32)) rfl ?_
      refine k_istore_n C dX12_byKind_29 (by decide) [1, 2, 0] (lv' := [(0, .ref (G.2.1 0)), (2, .int (0 : Int32)), (3, .int (1 : Int32))]) rfl ?_
      exact k_b30 FU (0 : Int32) (1 : Int32) M0 hf
    · refine k_if_lt_f C dX12_byKind_17 (tgt := 26) (by decide) c2 ?_
      refine k_aload_n C dX12_byKind_20 0 rfl ?_
      refine k_iload_n C dX12_byKind_21 1 rfl ?_
      obtain ⟨t10, ht10, hf⟩ := bnd hf
      refine k_callVi C (As := [.int v1]) (c_X12_dueOfKind hap v1 M0 t10 ht10) ML_X12_dueOfKind wd_1756 shR_0 rfl rfl rfl ⟨Nat.le_of_ble_eq_true rfl, Nat.le_of_ble_eq_true rfl⟩ (Nat.le_of_ble_eq_true rfl) dX12_byKind_22 ?_
      exact k_iret C hr hlk (prf hf) (prs hf) dX12_byKind_25
theorem dX12_dueWithout_0 : decode cX12_dueWithout 0 = .ok (.aload_n 0, 1) := by decide +kernel
theorem dX12_dueWithout_1 : decode cX12_dueWithout 1 = .ok (.invokevirtual 199, 3) := by decide +kernel
theorem dX12_dueWithout_4 : decode cX12_dueWithout 4 = .ok (.iconst 0, 1) := by decide +kernel
theorem dX12_dueWithout_5 : decode cX12_dueWithout 5 = .ok (.istore_n 2, 1) := by decide +kernel
theorem dX12_dueWithout_6 : decode cX12_dueWithout 6 = .ok (.iconst 0, 1) := by decide +kernel
theorem dX12_dueWithout_7 : decode cX12_dueWithout 7 = .ok (.istore_n 3, 1) := by decide +kernel
theorem dX12_dueWithout_8 : decode cX12_dueWithout 8 = .ok (.iload_n 3, 1) := by decide +kernel
theorem dX12_dueWithout_9 : decode cX12_dueWithout 9 = .ok (.aload_n 0, 1) := by decide +kernel
theorem dX12_dueWithout_10 : decode cX12_dueWithout 10 = .ok (.getfield 108, 3) := by decide +kernel
theorem dX12_dueWithout_13 : decode cX12_dueWithout 13 = .ok (.if_icmp .ge 39, 3) := by decide +kernel
theorem dX12_dueWithout_16 : decode cX12_dueWithout 16 = .ok (.aload_n 0, 1) := by decide +kernel
theorem dX12_dueWithout_17 : decode cX12_dueWithout 17 = .ok (.getfield 22, 3) := by decide +kernel
theorem dX12_dueWithout_20 : decode cX12_dueWithout 20 = .ok (.iload_n 2, 1) := by decide +kernel
theorem dX12_dueWithout_21 : decode cX12_dueWithout 21 = .ok (.aload_n 0, 1) := by decide +kernel
theorem dX12_dueWithout_22 : decode cX12_dueWithout 22 = .ok (.getfield 22, 3) := by decide +kernel
theorem dX12_dueWithout_25 : decode cX12_dueWithout 25 = .ok (.iload_n 3, 1) := by decide +kernel
theorem dX12_dueWithout_26 : decode cX12_dueWithout 26 = .ok (.iaload, 1) := by decide +kernel
theorem dX12_dueWithout_27 : decode cX12_dueWithout 27 = .ok (.iastore, 1) := by decide +kernel
theorem dX12_dueWithout_28 : decode cX12_dueWithout 28 = .ok (.iload_n 2, 1) := by decide +kernel
theorem dX12_dueWithout_29 : decode cX12_dueWithout 29 = .ok (.aload_n 0, 1) := by decide +kernel
theorem dX12_dueWithout_30 : decode cX12_dueWithout 30 = .ok (.getfield 22, 3) := by decide +kernel
theorem dX12_dueWithout_33 : decode cX12_dueWithout 33 = .ok (.iload_n 3, 1) := by decide +kernel
theorem dX12_dueWithout_34 : decode cX12_dueWithout 34 = .ok (.iaload, 1) := by decide +kernel
theorem dX12_dueWithout_35 : decode cX12_dueWithout 35 = .ok (.iload_n 1, 1) := by decide +kernel
theorem dX12_dueWithout_36 : decode cX12_dueWithout 36 = .ok (.if_icmp .ne 7, 3) := by decide +kernel
theorem dX12_dueWithout_39 : decode cX12_dueWithout 39 = .ok (.iconst 0, 1) := by decide +kernel
theorem dX12_dueWithout_40 : decode cX12_dueWithout 40 = .ok (.goto 4, 3) := by decide +kernel
theorem dX12_dueWithout_43 : decode cX12_dueWithout 43 = .ok (.iconst 1, 1) := by decide +kernel
theorem dX12_dueWithout_44 : decode cX12_dueWithout 44 = .ok (.iadd, 1) := by decide +kernel
theorem dX12_dueWithout_45 : decode cX12_dueWithout 45 = .ok (.istore_n 2, 1) := by decide +kernel
theorem dX12_dueWithout_46 : decode cX12_dueWithout 46 = .ok (.iinc 3 1, 3) := by decide +kernel
theorem dX12_dueWithout_49 : decode cX12_dueWithout 49 = .ok (.goto (-41), 3) := by decide +kernel
theorem dX12_dueWithout_52 : decode cX12_dueWithout 52 = .ok (.aload_n 0, 1) := by decide +kernel
theorem dX12_dueWithout_53 : decode cX12_dueWithout 53 = .ok (.iload_n 2, 1) := by decide +kernel
theorem dX12_dueWithout_54 : decode cX12_dueWithout 54 = .ok (.putfield 108, 3) := by decide +kernel
theorem dX12_dueWithout_57 : decode cX12_dueWithout 57 = .ok (.aload_n 0, 1) := by decide +kernel
theorem dX12_dueWithout_58 : decode cX12_dueWithout 58 = .ok (.invokevirtual 173, 3) := by decide +kernel
theorem dX12_dueWithout_61 : decode cX12_dueWithout 61 = .ok (.istore_n 3, 1) := by decide +kernel
theorem dX12_dueWithout_62 : decode cX12_dueWithout 62 = .ok (.aload_n 0, 1) := by decide +kernel
theorem dX12_dueWithout_63 : decode cX12_dueWithout 63 = .ok (.invokevirtual 205, 3) := by decide +kernel
theorem dX12_dueWithout_66 : decode cX12_dueWithout 66 = .ok (.iload_n 3, 1) := by decide +kernel
theorem dX12_dueWithout_67 : decode cX12_dueWithout 67 = .ok (.ireturn, 1) := by decide +kernel
set_option maxRecDepth 100000 in
set_option maxHeartbeats 4000000 in
theorem c_X12_dueWithout {l : Launch} {G : Gx} (hap : k_ap G shR.length) (v1 : Int32) (M0 : Mem) (r : Int32 × Mem) (hf : f_X12_dueWithout v1 M0 = some r) : k_Met l yX12_dueWithout cX12_dueWithout 4 (some .int) 5 111 G shR [.ref (G.2.1 0), .int v1] M0 (k_Qi G shR r.1 r.2) := by
  refine k_Met_of (by decide) hap (Nat.le_of_ble_eq_true rfl) ?_
  intro p e s m args below meth c C hr hlk
  have C : Cx p s m args c cX12_dueWithout RX12 4 G shR := C
  have k_b8 : ∀ (n8 : Nat) (v1 : Int32) (v2 : Int32) (v3 : Int32) (M : Mem), f_X12_dueWithout_b8 n8 v1 v2 v3 M = some r → K p l e (k_rm 5 111) s m args below meth c 4 G shR (MQ below (k_Qi G shR r.1 r.2) args s 0 0 (k_A G shR.length)) 8 [(0, .ref (G.2.1 0)), (1, .int v1), (2, .int v2), (3, .int v3)] [] M := by
    intro n8
    induction n8 with
    | zero => intro v1 v2 v3 M hf; simp [f_X12_dueWithout_b8] at hf
    | succ n8 ih8 =>
      intro v1 v2 v3 M hf
      unfold f_X12_dueWithout_b8 at hf
      refine k_iload_n C dX12_dueWithout_8 3 rfl ?_
      refine k_aload_n C dX12_dueWithout_9 0 rfl ?_
      refine k_geti C shR_0 (j := 6) rfl FL_X12_108 dX12_dueWithout_10 ?_
      rcases ite_g hf with ⟨c2, hf⟩ | ⟨c2, hf⟩
      · refine k_icmp_ge_t C dX12_dueWithout_13 (tgt := 52) (by decide) c2 ?_
        refine k_aload_n C dX12_dueWithout_52 0 rfl ?_
        refine k_iload_n C dX12_dueWithout_53 2 rfl ?_
        refine k_put C shR_0 (j := 6) rfl FL_X12_108 FW_X12_6 dX12_dueWithout_54 ?_
        refine k_aload_n C dX12_dueWithout_57 0 rfl ?_
        obtain ⟨t3, ht3, hf⟩ := bnd hf
        refine k_callVi C (As := []) (c_X12_all hap (wI M 0 6 v2) t3 ht3) ML_X12_all wd_1502 shR_0 rfl rfl rfl ⟨Nat.le_of_ble_eq_true rfl, Nat.le_of_ble_eq_true rfl⟩ (Nat.le_of_ble_eq_true rfl) dX12_dueWithout_58 ?_
        refine k_istore_n C dX12_dueWithout_61 (by decide) [1, 0] (lv' := [(0, .ref (G.2.1 0)), (3, .int t3)]) rfl ?_
        refine k_aload_n C dX12_dueWithout_62 0 rfl ?_
        obtain ⟨M4, hM4, hf⟩ := bnd hf
        refine k_callVv C (As := []) (c_X12_forgets hap (wI M 0 6 v2) M4 hM4) ML_X12_forgets wd_1574 shR_0 rfl rfl rfl ⟨Nat.le_of_ble_eq_true rfl, Nat.le_of_ble_eq_true rfl⟩ (Nat.le_of_ble_eq_true rfl) dX12_dueWithout_63 ?_
        refine k_iload_n C dX12_dueWithout_66 1 rfl ?_
        exact k_iret C hr hlk (prf hf) (prs hf) dX12_dueWithout_67
      · refine k_icmp_ge_f C dX12_dueWithout_13 (tgt := 52) (by decide) c2 ?_
        refine k_aload_n C dX12_dueWithout_16 0 rfl ?_
        refine k_getr C shR_0 (j := 4) rfl FL_X12_22 dX12_dueWithout_17 ?_
        refine k_iload_n C dX12_dueWithout_20 2 rfl ?_
        refine k_aload_n C dX12_dueWithout_21 0 rfl ?_
        refine k_getr C shR_0 (j := 4) rfl FL_X12_22 dX12_dueWithout_22 ?_
        refine k_iload_n C dX12_dueWithout_25 3 rfl ?_
        obtain ⟨t5, ht5, hf⟩ := bnd hf
        refine k_iald C shR_5 ht5 dX12_dueWithout_26 ?_
        obtain ⟨M6, hM6, hf⟩ := bnd hf
        refine k_iast C shR_5 hM6 dX12_dueWithout_27 ?_
        refine k_iload_n C dX12_dueWithout_28 2 rfl ?_
        refine k_aload_n C dX12_dueWithout_29 0 rfl ?_
        refine k_getr C shR_0 (j := 4) rfl FL_X12_22 dX12_dueWithout_30 ?_
        refine k_iload_n C dX12_dueWithout_33 3 rfl ?_
        obtain ⟨t7, ht7, hf⟩ := bnd hf
        refine k_iald C shR_5 ht7 dX12_dueWithout_34 ?_
        refine k_iload_n C dX12_dueWithout_35 1 rfl ?_
        have hj8 : K p l e (k_rm 5 111) s m args below meth c 4 G shR (MQ below (k_Qi G shR r.1 r.2) args s 0 0 (k_A G shR.length)) 44 [(0, .ref (G.2.1 0)), (1, .int v1), (2, .int v2), (3, .int v3)] [.int (if t7 = v1 then (0 : Int32) else (1 : Int32)), .int v2] M6 := by
          refine k_iadd C dX12_dueWithout_44 ?_
          refine k_istore_n C dX12_dueWithout_45 (by decide) [1, 2, 0, 3] (lv' := [(0, .ref (G.2.1 0)), (1, .int v1), (2, .int (v2 + (if t7 = v1 then (0 : Int32) else (1 : Int32)))), (3, .int v3)]) rfl ?_
          refine k_iinc C dX12_dueWithout_46 3 rfl (v := (v3 + (1 : Int32))) rfl (by decide) [1, 2, 3, 0] (lv' := [(0, .ref (G.2.1 0)), (1, .int v1), (2, .int (v2 + (if t7 = v1 then (0 : Int32) else (1 : Int32)))), (3, .int (v3 + (1 : Int32)))]) rfl ?_
          refine k_goto C dX12_dueWithout_49 (tgt := 8) (by decide) ?_
          exact ih8 v1 (v2 + (if t7 = v1 then (0 : Int32) else (1 : Int32))) (v3 + (1 : Int32)) M6 hf
        by_cases c9 : t7 = v1
        · refine k_icmp_ne_f C dX12_dueWithout_36 (tgt := 43) (by decide) c9 ?_
          refine k_iconst C dX12_dueWithout_39 (v := (0 : Int32)) rfl ?_
          refine k_goto C dX12_dueWithout_40 (tgt := 44) (by decide) ?_
          exact k_val (by rw [if_pos c9]) hj8
        · refine k_icmp_ne_t C dX12_dueWithout_36 (tgt := 43) (by decide) c9 ?_
          refine k_iconst C dX12_dueWithout_43 (v := (1 : Int32)) rfl ?_
          exact k_val (by rw [if_neg c9]) hj8
  unfold f_X12_dueWithout at hf
  refine k_lv (lv' := [(0, .ref (G.2.1 0)), (1, .int v1)]) [0, 1] rfl ?_
  refine k_aload_n C dX12_dueWithout_0 0 rfl ?_
  obtain ⟨M1, hM1, hf⟩ := bnd hf
  refine k_callVv C (As := []) (c_X12_thinks hap M0 M1 hM1) ML_X12_thinks wd_1566 shR_0 rfl rfl rfl ⟨Nat.le_of_ble_eq_true rfl, Nat.le_of_ble_eq_true rfl⟩ (Nat.le_of_ble_eq_true rfl) dX12_dueWithout_1 ?_
  refine k_iconst C dX12_dueWithout_4 (v := (0 : Int32)) rfl ?_
  refine k_istore_n C dX12_dueWithout_5 (by decide) [1, 2, 0] (lv' := [(0, .ref (G.2.1 0)), (1, .int v1), (2, .int (0 : Int32))]) rfl ?_
  refine k_iconst C dX12_dueWithout_6 (v := (0 : Int32)) rfl ?_
  refine k_istore_n C dX12_dueWithout_7 (by decide) [1, 2, 3, 0] (lv' := [(0, .ref (G.2.1 0)), (1, .int v1), (2, .int (0 : Int32)), (3, .int (0 : Int32))]) rfl ?_
  exact k_b8 FU v1 (0 : Int32) (0 : Int32) M1 hf
theorem dX12_isDone_0 : decode cX12_isDone 0 = .ok (.iconst 0, 1) := by decide +kernel
theorem dX12_isDone_1 : decode cX12_isDone 1 = .ok (.istore_n 2, 1) := by decide +kernel
theorem dX12_isDone_2 : decode cX12_isDone 2 = .ok (.iload_n 2, 1) := by decide +kernel
theorem dX12_isDone_3 : decode cX12_isDone 3 = .ok (.aload_n 0, 1) := by decide +kernel
theorem dX12_isDone_4 : decode cX12_isDone 4 = .ok (.getfield 108, 3) := by decide +kernel
theorem dX12_isDone_7 : decode cX12_isDone 7 = .ok (.if_icmp .ge 21, 3) := by decide +kernel
theorem dX12_isDone_10 : decode cX12_isDone 10 = .ok (.aload_n 0, 1) := by decide +kernel
theorem dX12_isDone_11 : decode cX12_isDone 11 = .ok (.getfield 22, 3) := by decide +kernel
theorem dX12_isDone_14 : decode cX12_isDone 14 = .ok (.iload_n 2, 1) := by decide +kernel
theorem dX12_isDone_15 : decode cX12_isDone 15 = .ok (.iaload, 1) := by decide +kernel
theorem dX12_isDone_16 : decode cX12_isDone 16 = .ok (.iload_n 1, 1) := by decide +kernel
theorem dX12_isDone_17 : decode cX12_isDone 17 = .ok (.if_icmp .ne 5, 3) := by decide +kernel
theorem dX12_isDone_20 : decode cX12_isDone 20 = .ok (.iconst 1, 1) := by decide +kernel
theorem dX12_isDone_21 : decode cX12_isDone 21 = .ok (.ireturn, 1) := by decide +kernel
theorem dX12_isDone_22 : decode cX12_isDone 22 = .ok (.iinc 2 1, 3) := by decide +kernel
theorem dX12_isDone_25 : decode cX12_isDone 25 = .ok (.goto (-23), 3) := by decide +kernel
theorem dX12_isDone_28 : decode cX12_isDone 28 = .ok (.iconst 0, 1) := by decide +kernel
theorem dX12_isDone_29 : decode cX12_isDone 29 = .ok (.ireturn, 1) := by decide +kernel
set_option maxRecDepth 100000 in
set_option maxHeartbeats 4000000 in
theorem c_X12_isDone {l : Launch} {G : Gx} (hap : k_ap G shR.length) (v1 : Int32) (M0 : Mem) (r : Int32) (hf : f_X12_isDone v1 M0 = some r) : k_Met l yX12_isDone cX12_isDone 3 (some .boolean) 0 0 G shR [.ref (G.2.1 0), .int v1] M0 (k_Qi G shR r M0) := by
  refine k_Met_of (by decide) hap (Nat.le_of_ble_eq_true rfl) ?_
  intro p e s m args below meth c C hr hlk
  have C : Cx p s m args c cX12_isDone RX12 3 G shR := C
  have k_b2 : ∀ (n2 : Nat) (v1 : Int32) (v2 : Int32), f_X12_isDone_b2 M0 n2 v1 v2 = some r → K p l e (k_rm 0 0) s m args below meth c 3 G shR (MQ below (k_Qi G shR r M0) args s 0 0 (k_A G shR.length)) 2 [(0, .ref (G.2.1 0)), (1, .int v1), (2, .int v2)] [] M0 := by
    intro n2
    induction n2 with
    | zero => intro v1 v2 hf; simp [f_X12_isDone_b2] at hf
    | succ n2 ih2 =>
      intro v1 v2 hf
      unfold f_X12_isDone_b2 at hf
      refine k_iload_n C dX12_isDone_2 2 rfl ?_
      refine k_aload_n C dX12_isDone_3 0 rfl ?_
      refine k_geti C shR_0 (j := 6) rfl FL_X12_108 dX12_isDone_4 ?_
      rcases ite_g hf with ⟨c1, hf⟩ | ⟨c1, hf⟩
      · refine k_icmp_ge_t C dX12_isDone_7 (tgt := 28) (by decide) c1 ?_
        refine k_iconst C dX12_isDone_28 (v := (0 : Int32)) rfl ?_
        exact k_zret C hr hlk (gZ0.trans (congrArg some (Option.some.inj hf))) rfl dX12_isDone_29
      · refine k_icmp_ge_f C dX12_isDone_7 (tgt := 28) (by decide) c1 ?_
        refine k_aload_n C dX12_isDone_10 0 rfl ?_
        refine k_getr C shR_0 (j := 4) rfl FL_X12_22 dX12_isDone_11 ?_
        refine k_iload_n C dX12_isDone_14 2 rfl ?_
        obtain ⟨t2, ht2, hf⟩ := bnd hf
        refine k_iald C shR_5 ht2 dX12_isDone_15 ?_
        refine k_iload_n C dX12_isDone_16 1 rfl ?_
        rcases ite_g hf with ⟨c3, hf⟩ | ⟨c3, hf⟩
        · refine k_icmp_ne_f C dX12_isDone_17 (tgt := 22) (by decide) c3 ?_
          refine k_iconst C dX12_isDone_20 (v := (1 : Int32)) rfl ?_
          exact k_zret C hr hlk (gZ1.trans (congrArg some (Option.some.inj hf))) rfl dX12_isDone_21
        · refine k_icmp_ne_t C dX12_isDone_17 (tgt := 22) (by decide) c3 ?_
          refine k_iinc C dX12_isDone_22 2 rfl (v := (v2 + (1 : Int32))) rfl (by decide) [1, 2, 0] (lv' := [(0, .ref (G.2.1 0)), (1, .int v1), (2, .int (v2 + (1 : Int32)))]) rfl ?_
          refine k_goto C dX12_isDone_25 (tgt := 2) (by decide) ?_
          exact ih2 v1 (v2 + (1 : Int32)) hf
  unfold f_X12_isDone at hf
  refine k_lv (lv' := [(0, .ref (G.2.1 0)), (1, .int v1)]) [0, 1] rfl ?_
  refine k_iconst C dX12_isDone_0 (v := (0 : Int32)) rfl ?_
  refine k_istore_n C dX12_isDone_1 (by decide) [1, 2, 0] (lv' := [(0, .ref (G.2.1 0)), (1, .int v1), (2, .int (0 : Int32))]) rfl ?_
  exact k_b2 FU v1 (0 : Int32) hf
theorem dX12_banned_0 : decode cX12_banned 0 = .ok (.iload_n 1, 1) := by decide +kernel
theorem dX12_banned_1 : decode cX12_banned 1 = .ok (.iconst 0, 1) := by decide +kernel
theorem dX12_banned_2 : decode cX12_banned 2 = .ok (.iconst 1, 1) := by decide +kernel
theorem dX12_banned_3 : decode cX12_banned 3 = .ok (.invokestatic 86, 3) := by decide +kernel
theorem dX12_banned_6 : decode cX12_banned 6 = .ok (.ifCond .ne 10, 3) := by decide +kernel
theorem dX12_banned_9 : decode cX12_banned 9 = .ok (.aload_n 0, 1) := by decide +kernel
theorem dX12_banned_10 : decode cX12_banned 10 = .ok (.bipush (-2), 2) := by decide +kernel
theorem dX12_banned_12 : decode cX12_banned 12 = .ok (.invokevirtual 75, 3) := by decide +kernel
theorem dX12_banned_15 : decode cX12_banned 15 = .ok (.ireturn, 1) := by decide +kernel
theorem dX12_banned_16 : decode cX12_banned 16 = .ok (.bipush (-9), 2) := by decide +kernel
theorem dX12_banned_18 : decode cX12_banned 18 = .ok (.istore_n 2, 1) := by decide +kernel
theorem dX12_banned_19 : decode cX12_banned 19 = .ok (.bipush (-9), 2) := by decide +kernel
theorem dX12_banned_21 : decode cX12_banned 21 = .ok (.istore_n 3, 1) := by decide +kernel
theorem dX12_banned_22 : decode cX12_banned 22 = .ok (.iconst 0, 1) := by decide +kernel
theorem dX12_banned_23 : decode cX12_banned 23 = .ok (.istore 4, 2) := by decide +kernel
theorem dX12_banned_25 : decode cX12_banned 25 = .ok (.iload 4, 2) := by decide +kernel
theorem dX12_banned_27 : decode cX12_banned 27 = .ok (.aload_n 0, 1) := by decide +kernel
theorem dX12_banned_28 : decode cX12_banned 28 = .ok (.getfield 62, 3) := by decide +kernel
theorem dX12_banned_31 : decode cX12_banned 31 = .ok (.if_icmp .ge 48, 3) := by decide +kernel
theorem dX12_banned_34 : decode cX12_banned 34 = .ok (.aload_n 0, 1) := by decide +kernel
theorem dX12_banned_35 : decode cX12_banned 35 = .ok (.iload 4, 2) := by decide +kernel
theorem dX12_banned_37 : decode cX12_banned 37 = .ok (.invokevirtual 279, 3) := by decide +kernel
theorem dX12_banned_40 : decode cX12_banned 40 = .ok (.ifCond .ne 6, 3) := by decide +kernel
theorem dX12_banned_43 : decode cX12_banned 43 = .ok (.goto 30, 3) := by decide +kernel
theorem dX12_banned_46 : decode cX12_banned 46 = .ok (.aload_n 0, 1) := by decide +kernel
theorem dX12_banned_47 : decode cX12_banned 47 = .ok (.iload 4, 2) := by decide +kernel
theorem dX12_banned_49 : decode cX12_banned 49 = .ok (.invokevirtual 282, 3) := by decide +kernel
theorem dX12_banned_52 : decode cX12_banned 52 = .ok (.istore 5, 2) := by decide +kernel
theorem dX12_banned_54 : decode cX12_banned 54 = .ok (.iload_n 2, 1) := by decide +kernel
theorem dX12_banned_55 : decode cX12_banned 55 = .ok (.ifCond .lt 12, 3) := by decide +kernel
theorem dX12_banned_58 : decode cX12_banned 58 = .ok (.iload 5, 2) := by decide +kernel
theorem dX12_banned_60 : decode cX12_banned 60 = .ok (.iload_n 3, 1) := by decide +kernel
theorem dX12_banned_61 : decode cX12_banned 61 = .ok (.if_icmp .lt 6, 3) := by decide +kernel
theorem dX12_banned_64 : decode cX12_banned 64 = .ok (.goto 9, 3) := by decide +kernel
theorem dX12_banned_67 : decode cX12_banned 67 = .ok (.iload 4, 2) := by decide +kernel
theorem dX12_banned_69 : decode cX12_banned 69 = .ok (.istore_n 2, 1) := by decide +kernel
theorem dX12_banned_70 : decode cX12_banned 70 = .ok (.iload 5, 2) := by decide +kernel
theorem dX12_banned_72 : decode cX12_banned 72 = .ok (.istore_n 3, 1) := by decide +kernel
theorem dX12_banned_73 : decode cX12_banned 73 = .ok (.iinc 4 1, 3) := by decide +kernel
theorem dX12_banned_76 : decode cX12_banned 76 = .ok (.goto (-51), 3) := by decide +kernel
theorem dX12_banned_79 : decode cX12_banned 79 = .ok (.iload_n 1, 1) := by decide +kernel
theorem dX12_banned_80 : decode cX12_banned 80 = .ok (.ifCond .ne 7, 3) := by decide +kernel
theorem dX12_banned_83 : decode cX12_banned 83 = .ok (.iload_n 2, 1) := by decide +kernel
theorem dX12_banned_84 : decode cX12_banned 84 = .ok (.goto 4, 3) := by decide +kernel
theorem dX12_banned_87 : decode cX12_banned 87 = .ok (.iload_n 3, 1) := by decide +kernel
theorem dX12_banned_88 : decode cX12_banned 88 = .ok (.ireturn, 1) := by decide +kernel
set_option maxRecDepth 100000 in
set_option maxHeartbeats 4000000 in
theorem c_X12_banned {l : Launch} {G : Gx} (hap : k_ap G shR.length) (v1 : Int32) (M0 : Mem) (r : Int32 × Mem) (hf : f_X12_banned v1 M0 = some r) : k_Met l yX12_banned cX12_banned 6 (some .int) 6 134 G shR [.ref (G.2.1 0), .int v1] M0 (k_Qi G shR r.1 r.2) := by
  refine k_Met_of (by decide) hap (Nat.le_of_ble_eq_true rfl) ?_
  intro p e s m args below meth c C hr hlk
  have C : Cx p s m args c cX12_banned RX12 6 G shR := C
  have k_b25 : ∀ (n25 : Nat) (v1 : Int32) (v2 : Int32) (v3 : Int32) (v4 : Int32) (M : Mem), f_X12_banned_b25 n25 v1 v2 v3 v4 M = some r → K p l e (k_rm 6 134) s m args below meth c 6 G shR (MQ below (k_Qi G shR r.1 r.2) args s 0 0 (k_A G shR.length)) 25 [(0, .ref (G.2.1 0)), (1, .int v1), (2, .int v2), (3, .int v3), (4, .int v4)] [] M := by
    intro n25
    induction n25 with
    | zero => intro v1 v2 v3 v4 M hf; simp [f_X12_banned_b25] at hf
    | succ n25 ih25 =>
      intro v1 v2 v3 v4 M hf
      unfold f_X12_banned_b25 at hf
      refine k_iload C dX12_banned_25 4 rfl ?_
      refine k_aload_n C dX12_banned_27 0 rfl ?_
      refine k_geti C shR_0 (j := 5) rfl FL_X12_62 dX12_banned_28 ?_
      rcases ite_g hf with ⟨c3, hf⟩ | ⟨c3, hf⟩
      · refine k_icmp_ge_t C dX12_banned_31 (tgt := 79) (by decide) c3 ?_
        refine k_iload_n C dX12_banned_79 1 rfl ?_
        rcases ite_g hf with ⟨c4, hf⟩ | ⟨c4, hf⟩
        · refine k_if_ne_f C dX12_banned_80 (tgt := 87) (by decide) c4 ?_
          refine k_iload_n C dX12_banned_83 2 rfl ?_
          refine k_goto C dX12_banned_84 (tgt := 88) (by decide) ?_
          exact k_iret C hr hlk (prf hf) (prs hf) dX12_banned_88
        · refine k_if_ne_t C dX12_banned_80 (tgt := 87) (by decide) c4 ?_
          refine k_iload_n C dX12_banned_87 3 rfl ?_
          exact k_iret C hr hlk (prf hf) (prs hf) dX12_banned_88
      · refine k_icmp_ge_f C dX12_banned_31 (tgt := 79) (by decide) c3 ?_
        refine k_aload_n C dX12_banned_34 0 rfl ?_
        refine k_iload C dX12_banned_35 4 rfl ?_
        obtain ⟨t5, ht5, hf⟩ := bnd hf
        refine k_callVi C (As := [.int v4]) (c_X12_isDone hap v4 M t5 ht5) ML_X12_isDone wd_1764 shR_0 rfl rfl rfl ⟨Nat.le_of_ble_eq_true rfl, Nat.le_of_ble_eq_true rfl⟩ (Nat.le_of_ble_eq_true rfl) dX12_banned_37 ?_
        rcases ite_g hf with ⟨c7, hf⟩ | ⟨c7, hf⟩
        · refine k_if_ne_f C dX12_banned_40 (tgt := 46) (by decide) c7 ?_
          refine k_goto C dX12_banned_43 (tgt := 73) (by decide) ?_
          refine k_iinc C dX12_banned_73 4 rfl (v := (v4 + (1 : Int32))) rfl (by decide) [1, 2, 3, 4, 0] (lv' := [(0, .ref (G.2.1 0)), (1, .int v1), (2, .int v2), (3, .int v3), (4, .int (v4 + (1 : Int32)))]) rfl ?_
          refine k_goto C dX12_banned_76 (tgt := 25) (by decide) ?_
          exact ih25 v1 v2 v3 (v4 + (1 : Int32)) M hf
        · refine k_if_ne_t C dX12_banned_40 (tgt := 46) (by decide) c7 ?_
          refine k_aload_n C dX12_banned_46 0 rfl ?_
          refine k_iload C dX12_banned_47 4 rfl ?_
          obtain ⟨⟨t8, M8⟩, ht8, hf⟩ := bnd hf
          replace hf := bp_s hf
          refine k_callVi C (As := [.int v4]) (c_X12_dueWithout hap v4 M (t8, M8) ht8) ML_X12_dueWithout wd_1768 shR_0 rfl rfl rfl ⟨Nat.le_of_ble_eq_true rfl, Nat.le_of_ble_eq_true rfl⟩ (Nat.le_of_ble_eq_true rfl) dX12_banned_49 ?_
          refine k_istore C dX12_banned_52 (by decide) [1, 2, 3, 4, 5, 0] (lv' := [(0, .ref (G.2.1 0)), (1, .int v1), (2, .int v2), (3, .int v3), (4, .int v4), (5, .int t8)]) rfl ?_
          refine k_iload_n C dX12_banned_54 2 rfl ?_
          rcases ite_g hf with ⟨c9, hf⟩ | ⟨c9, hf⟩
          · refine k_if_lt_t C dX12_banned_55 (tgt := 67) (by decide) c9 ?_
            refine k_iload C dX12_banned_67 4 rfl ?_
            refine k_istore_n C dX12_banned_69 (by decide) [1, 2, 0, 4, 5] (lv' := [(0, .ref (G.2.1 0)), (1, .int v1), (2, .int v4), (4, .int v4), (5, .int t8)]) rfl ?_
            refine k_iload C dX12_banned_70 4 rfl ?_
            refine k_istore_n C dX12_banned_72 (by decide) [1, 2, 3, 0, 4] (lv' := [(0, .ref (G.2.1 0)), (1, .int v1), (2, .int v4), (3, .int t8), (4, .int v4)]) rfl ?_
            refine k_iinc C dX12_banned_73 4 rfl (v := (v4 + (1 : Int32))) rfl (by decide) [1, 2, 3, 4, 0] (lv' := [(0, .ref (G.2.1 0)), (1, .int v1), (2, .int v4), (3, .int t8), (4, .int (v4 + (1 : Int32)))]) rfl ?_
            refine k_goto C dX12_banned_76 (tgt := 25) (by decide) ?_
            exact ih25 v1 v4 t8 (v4 + (1 : Int32)) M8 hf
          · refine k_if_lt_f C dX12_banned_55 (tgt := 67) (by decide) c9 ?_
            refine k_iload C dX12_banned_58 5 rfl ?_
            refine k_iload_n C dX12_banned_60 3 rfl ?_
            rcases ite_g hf with ⟨c10, hf⟩ | ⟨c10, hf⟩
            · refine k_icmp_lt_t C dX12_banned_61 (tgt := 67) (by decide) c10 ?_
              refine k_iload C dX12_banned_67 4 rfl ?_
              refine k_istore_n C dX12_banned_69 (by decide) [1, 2, 0, 4, 5] (lv' := [(0, .ref (G.2.1 0)), (1, .int v1), (2, .int v4), (4, .int v4), (5, .int t8)]) rfl ?_
              refine k_iload C dX12_banned_70 4 rfl ?_
              refine k_istore_n C dX12_banned_72 (by decide) [1, 2, 3, 0, 4] (lv' := [(0, .ref (G.2.1 0)), (1, .int v1), (2, .int v4), (3, .int t8), (4, .int v4)]) rfl ?_
              refine k_iinc C dX12_banned_73 4 rfl (v := (v4 + (1 : Int32))) rfl (by decide) [1, 2, 3, 4, 0] (lv' := [(0, .ref (G.2.1 0)), (1, .int v1), (2, .int v4), (3, .int t8), (4, .int (v4 + (1 : Int32)))]) rfl ?_
              refine k_goto C dX12_banned_76 (tgt := 25) (by decide) ?_
              exact ih25 v1 v4 t8 (v4 + (1 : Int32)) M8 hf
            · refine k_icmp_lt_f C dX12_banned_61 (tgt := 67) (by decide) c10 ?_
              refine k_goto C dX12_banned_64 (tgt := 73) (by decide) ?_
              refine k_iinc C dX12_banned_73 4 rfl (v := (v4 + (1 : Int32))) rfl (by decide) [1, 2, 3, 4, 0] (lv' := [(0, .ref (G.2.1 0)), (1, .int v1), (2, .int v2), (3, .int v3), (4, .int (v4 + (1 : Int32)))]) rfl ?_
              refine k_goto C dX12_banned_76 (tgt := 25) (by decide) ?_
              exact ih25 v1 v2 v3 (v4 + (1 : Int32)) M8 hf
  unfold f_X12_banned at hf
  refine k_lv (lv' := [(0, .ref (G.2.1 0)), (1, .int v1)]) [0, 1] rfl ?_
  refine k_iload_n C dX12_banned_0 1 rfl ?_
  refine k_iconst C dX12_banned_1 (v := (0 : Int32)) rfl ?_
  refine k_iconst C dX12_banned_2 (v := (1 : Int32)) rfl ?_
  refine k_callSi C (As := [.int v1, .int (0 : Int32), .int (1 : Int32)]) (c_X12_isIn hap v1 (0 : Int32) (1 : Int32) M0 _ rfl) MS_X12_isIn wd_1393 rfl rfl ⟨Nat.le_of_ble_eq_true rfl, Nat.le_of_ble_eq_true rfl⟩ (Nat.le_of_ble_eq_true rfl) dX12_banned_3 ?_
  rcases ite_g hf with ⟨c1, hf⟩ | ⟨c1, hf⟩
  · refine k_if_ne_f C dX12_banned_6 (tgt := 16) (by decide) c1 ?_
    refine k_aload_n C dX12_banned_9 0 rfl ?_
    refine k_bipush C dX12_banned_10 (v := (-2 : Int32)) rfl ?_
    obtain ⟨⟨t11, M11⟩, ht11, hf⟩ := bnd hf
    replace hf := bp_s hf
    refine k_callVi C (As := [.int (-2 : Int32)]) (c_X12_no hap (-2 : Int32) M0 (t11, M11) ht11) ML_X12_no wd_1369 shR_0 rfl rfl rfl ⟨Nat.le_of_ble_eq_true rfl, Nat.le_of_ble_eq_true rfl⟩ (Nat.le_of_ble_eq_true rfl) dX12_banned_12 ?_
    exact k_iret C hr hlk (prf hf) (prs hf) dX12_banned_15
  · refine k_if_ne_t C dX12_banned_6 (tgt := 16) (by decide) c1 ?_
    refine k_bipush C dX12_banned_16 (v := (-9 : Int32)) rfl ?_
    refine k_istore_n C dX12_banned_18 (by decide) [1, 2, 0] (lv' := [(0, .ref (G.2.1 0)), (1, .int v1), (2, .int (-9 : Int32))]) rfl ?_
    refine k_bipush C dX12_banned_19 (v := (-9 : Int32)) rfl ?_
    refine k_istore_n C dX12_banned_21 (by decide) [1, 2, 3, 0] (lv' := [(0, .ref (G.2.1 0)), (1, .int v1), (2, .int (-9 : Int32)), (3, .int (-9 : Int32))]) rfl ?_
    refine k_iconst C dX12_banned_22 (v := (0 : Int32)) rfl ?_
    refine k_istore C dX12_banned_23 (by decide) [1, 2, 3, 4, 0] (lv' := [(0, .ref (G.2.1 0)), (1, .int v1), (2, .int (-9 : Int32)), (3, .int (-9 : Int32)), (4, .int (0 : Int32))]) rfl ?_
    exact k_b25 FU v1 (-9 : Int32) (-9 : Int32) (0 : Int32) M0 hf
theorem dX12_dueMoved_0 : decode cX12_dueMoved 0 = .ok (.aload_n 0, 1) := by decide +kernel
theorem dX12_dueMoved_1 : decode cX12_dueMoved 1 = .ok (.invokevirtual 199, 3) := by decide +kernel
theorem dX12_dueMoved_4 : decode cX12_dueMoved 4 = .ok (.aload_n 0, 1) := by decide +kernel
theorem dX12_dueMoved_5 : decode cX12_dueMoved 5 = .ok (.getfield 22, 3) := by decide +kernel
theorem dX12_dueMoved_8 : decode cX12_dueMoved 8 = .ok (.iload_n 1, 1) := by decide +kernel
theorem dX12_dueMoved_9 : decode cX12_dueMoved 9 = .ok (.iaload, 1) := by decide +kernel
theorem dX12_dueMoved_10 : decode cX12_dueMoved 10 = .ok (.istore_n 2, 1) := by decide +kernel
theorem dX12_dueMoved_11 : decode cX12_dueMoved 11 = .ok (.iload_n 1, 1) := by decide +kernel
theorem dX12_dueMoved_12 : decode cX12_dueMoved 12 = .ok (.istore_n 3, 1) := by decide +kernel
theorem dX12_dueMoved_13 : decode cX12_dueMoved 13 = .ok (.iload_n 3, 1) := by decide +kernel
theorem dX12_dueMoved_14 : decode cX12_dueMoved 14 = .ok (.aload_n 0, 1) := by decide +kernel
theorem dX12_dueMoved_15 : decode cX12_dueMoved 15 = .ok (.getfield 108, 3) := by decide +kernel
theorem dX12_dueMoved_18 : decode cX12_dueMoved 18 = .ok (.iconst 1, 1) := by decide +kernel
theorem dX12_dueMoved_19 : decode cX12_dueMoved 19 = .ok (.isub, 1) := by decide +kernel
theorem dX12_dueMoved_20 : decode cX12_dueMoved 20 = .ok (.if_icmp .ge 23, 3) := by decide +kernel
theorem dX12_dueMoved_23 : decode cX12_dueMoved 23 = .ok (.aload_n 0, 1) := by decide +kernel
theorem dX12_dueMoved_24 : decode cX12_dueMoved 24 = .ok (.getfield 22, 3) := by decide +kernel
theorem dX12_dueMoved_27 : decode cX12_dueMoved 27 = .ok (.iload_n 3, 1) := by decide +kernel
theorem dX12_dueMoved_28 : decode cX12_dueMoved 28 = .ok (.aload_n 0, 1) := by decide +kernel
theorem dX12_dueMoved_29 : decode cX12_dueMoved 29 = .ok (.getfield 22, 3) := by decide +kernel
theorem dX12_dueMoved_32 : decode cX12_dueMoved 32 = .ok (.iload_n 3, 1) := by decide +kernel
theorem dX12_dueMoved_33 : decode cX12_dueMoved 33 = .ok (.iconst 1, 1) := by decide +kernel
theorem dX12_dueMoved_34 : decode cX12_dueMoved 34 = .ok (.iadd, 1) := by decide +kernel
theorem dX12_dueMoved_35 : decode cX12_dueMoved 35 = .ok (.iaload, 1) := by decide +kernel
theorem dX12_dueMoved_36 : decode cX12_dueMoved 36 = .ok (.iastore, 1) := by decide +kernel
theorem dX12_dueMoved_37 : decode cX12_dueMoved 37 = .ok (.iinc 3 1, 3) := by decide +kernel
theorem dX12_dueMoved_40 : decode cX12_dueMoved 40 = .ok (.goto (-27), 3) := by decide +kernel
theorem dX12_dueMoved_43 : decode cX12_dueMoved 43 = .ok (.aload_n 0, 1) := by decide +kernel
theorem dX12_dueMoved_44 : decode cX12_dueMoved 44 = .ok (.getfield 22, 3) := by decide +kernel
theorem dX12_dueMoved_47 : decode cX12_dueMoved 47 = .ok (.aload_n 0, 1) := by decide +kernel
theorem dX12_dueMoved_48 : decode cX12_dueMoved 48 = .ok (.getfield 108, 3) := by decide +kernel
theorem dX12_dueMoved_51 : decode cX12_dueMoved 51 = .ok (.iconst 1, 1) := by decide +kernel
theorem dX12_dueMoved_52 : decode cX12_dueMoved 52 = .ok (.isub, 1) := by decide +kernel
theorem dX12_dueMoved_53 : decode cX12_dueMoved 53 = .ok (.iload_n 2, 1) := by decide +kernel
theorem dX12_dueMoved_54 : decode cX12_dueMoved 54 = .ok (.iastore, 1) := by decide +kernel
theorem dX12_dueMoved_55 : decode cX12_dueMoved 55 = .ok (.aload_n 0, 1) := by decide +kernel
theorem dX12_dueMoved_56 : decode cX12_dueMoved 56 = .ok (.invokevirtual 173, 3) := by decide +kernel
theorem dX12_dueMoved_59 : decode cX12_dueMoved 59 = .ok (.istore_n 3, 1) := by decide +kernel
theorem dX12_dueMoved_60 : decode cX12_dueMoved 60 = .ok (.aload_n 0, 1) := by decide +kernel
theorem dX12_dueMoved_61 : decode cX12_dueMoved 61 = .ok (.invokevirtual 205, 3) := by decide +kernel
theorem dX12_dueMoved_64 : decode cX12_dueMoved 64 = .ok (.iload_n 3, 1) := by decide +kernel
theorem dX12_dueMoved_65 : decode cX12_dueMoved 65 = .ok (.ireturn, 1) := by decide +kernel
set_option maxRecDepth 100000 in
set_option maxHeartbeats 4000000 in
theorem c_X12_dueMoved {l : Launch} {G : Gx} (hap : k_ap G shR.length) (v1 : Int32) (M0 : Mem) (r : Int32 × Mem) (hf : f_X12_dueMoved v1 M0 = some r) : k_Met l yX12_dueMoved cX12_dueMoved 4 (some .int) 5 111 G shR [.ref (G.2.1 0), .int v1] M0 (k_Qi G shR r.1 r.2) := by
  refine k_Met_of (by decide) hap (Nat.le_of_ble_eq_true rfl) ?_
  intro p e s m args below meth c C hr hlk
  have C : Cx p s m args c cX12_dueMoved RX12 4 G shR := C
  have k_b13 : ∀ (n13 : Nat) (v2 : Int32) (v3 : Int32) (M : Mem), f_X12_dueMoved_b13 n13 v2 v3 M = some r → K p l e (k_rm 5 111) s m args below meth c 4 G shR (MQ below (k_Qi G shR r.1 r.2) args s 0 0 (k_A G shR.length)) 13 [(0, .ref (G.2.1 0)), (2, .int v2), (3, .int v3)] [] M := by
    intro n13
    induction n13 with
    | zero => intro v2 v3 M hf; simp [f_X12_dueMoved_b13] at hf
    | succ n13 ih13 =>
      intro v2 v3 M hf
      unfold f_X12_dueMoved_b13 at hf
      refine k_iload_n C dX12_dueMoved_13 2 rfl ?_
      refine k_aload_n C dX12_dueMoved_14 0 rfl ?_
      refine k_geti C shR_0 (j := 6) rfl FL_X12_108 dX12_dueMoved_15 ?_
      refine k_iconst C dX12_dueMoved_18 (v := (1 : Int32)) rfl ?_
      refine k_isub C dX12_dueMoved_19 ?_
      rcases ite_g hf with ⟨c3, hf⟩ | ⟨c3, hf⟩
      · refine k_icmp_ge_t C dX12_dueMoved_20 (tgt := 43) (by decide) c3 ?_
        refine k_aload_n C dX12_dueMoved_43 0 rfl ?_
        refine k_getr C shR_0 (j := 4) rfl FL_X12_22 dX12_dueMoved_44 ?_
        refine k_aload_n C dX12_dueMoved_47 0 rfl ?_
        refine k_geti C shR_0 (j := 6) rfl FL_X12_108 dX12_dueMoved_48 ?_
        refine k_iconst C dX12_dueMoved_51 (v := (1 : Int32)) rfl ?_
        refine k_isub C dX12_dueMoved_52 ?_
        refine k_iload_n C dX12_dueMoved_53 1 rfl ?_
        obtain ⟨M4, hM4, hf⟩ := bnd hf
        refine k_iast C shR_5 hM4 dX12_dueMoved_54 ?_
        refine k_aload_n C dX12_dueMoved_55 0 rfl ?_
        obtain ⟨t5, ht5, hf⟩ := bnd hf
        refine k_callVi C (As := []) (c_X12_all hap M4 t5 ht5) ML_X12_all wd_1502 shR_0 rfl rfl rfl ⟨Nat.le_of_ble_eq_true rfl, Nat.le_of_ble_eq_true rfl⟩ (Nat.le_of_ble_eq_true rfl) dX12_dueMoved_56 ?_
        refine k_istore_n C dX12_dueMoved_59 (by decide) [1, 0] (lv' := [(0, .ref (G.2.1 0)), (3, .int t5)]) rfl ?_
        refine k_aload_n C dX12_dueMoved_60 0 rfl ?_
        obtain ⟨M6, hM6, hf⟩ := bnd hf
        refine k_callVv C (As := []) (c_X12_forgets hap M4 M6 hM6) ML_X12_forgets wd_1574 shR_0 rfl rfl rfl ⟨Nat.le_of_ble_eq_true rfl, Nat.le_of_ble_eq_true rfl⟩ (Nat.le_of_ble_eq_true rfl) dX12_dueMoved_61 ?_
        refine k_iload_n C dX12_dueMoved_64 1 rfl ?_
        exact k_iret C hr hlk (prf hf) (prs hf) dX12_dueMoved_65
      · refine k_icmp_ge_f C dX12_dueMoved_20 (tgt := 43) (by decide) c3 ?_
        refine k_aload_n C dX12_dueMoved_23 0 rfl ?_
        refine k_getr C shR_0 (j := 4) rfl FL_X12_22 dX12_dueMoved_24 ?_
        refine k_iload_n C dX12_dueMoved_27 2 rfl ?_
        refine k_aload_n C dX12_dueMoved_28 0 rfl ?_
        refine k_getr C shR_0 (j := 4) rfl FL_X12_22 dX12_dueMoved_29 ?_
        refine k_iload_n C dX12_dueMoved_32 2 rfl ?_
        refine k_iconst C dX12_dueMoved_33 (v := (1 : Int32)) rfl ?_
        refine k_iadd C dX12_dueMoved_34 ?_
        obtain ⟨t7, ht7, hf⟩ := bnd hf
        refine k_iald C shR_5 ht7 dX12_dueMoved_35 ?_
        obtain ⟨M8, hM8, hf⟩ := bnd hf
        refine k_iast C shR_5 hM8 dX12_dueMoved_36 ?_
        refine k_iinc C dX12_dueMoved_37 2 rfl (v := (v3 + (1 : Int32))) rfl (by decide) [1, 2, 0] (lv' := [(0, .ref (G.2.1 0)), (2, .int v2), (3, .int (v3 + (1 : Int32)))]) rfl ?_
        refine k_goto C dX12_dueMoved_40 (tgt := 13) (by decide) ?_
        exact ih13 v2 (v3 + (1 : Int32)) M8 hf
  unfold f_X12_dueMoved at hf
  refine k_lv (lv' := [(0, .ref (G.2.1 0)), (1, .int v1)]) [0, 1] rfl ?_
  refine k_aload_n C dX12_dueMoved_0 0 rfl ?_
  obtain ⟨M1, hM1, hf⟩ := bnd hf
  refine k_callVv C (As := []) (c_X12_thinks hap M0 M1 hM1) ML_X12_thinks wd_1566 shR_0 rfl rfl rfl ⟨Nat.le_of_ble_eq_true rfl, Nat.le_of_ble_eq_true rfl⟩ (Nat.le_of_ble_eq_true rfl) dX12_dueMoved_1 ?_
  refine k_aload_n C dX12_dueMoved_4 0 rfl ?_
  refine k_getr C shR_0 (j := 4) rfl FL_X12_22 dX12_dueMoved_5 ?_
  refine k_iload_n C dX12_dueMoved_8 1 rfl ?_
  obtain ⟨t2, ht2, hf⟩ := bnd hf
  refine k_iald C shR_5 ht2 dX12_dueMoved_9 ?_
  refine k_istore_n C dX12_dueMoved_10 (by decide) [1, 2, 0] (lv' := [(0, .ref (G.2.1 0)), (1, .int v1), (2, .int t2)]) rfl ?_
  refine k_iload_n C dX12_dueMoved_11 1 rfl ?_
  refine k_istore_n C dX12_dueMoved_12 (by decide) [1, 3, 0] (lv' := [(0, .ref (G.2.1 0)), (2, .int t2), (3, .int v1)]) rfl ?_
  exact k_b13 FU t2 v1 M1 hf
