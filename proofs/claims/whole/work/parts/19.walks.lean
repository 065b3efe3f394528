/-! walks, printed by a program of mine: each method meets its function -/
theorem dX12_codeOf_0 : decode cX12_codeOf 0 = .ok (.bipush 10, 2) := by decide +kernel
theorem dX12_codeOf_2 : decode cX12_codeOf 2 = .ok (.iload_n 0, 1) := by decide +kernel
theorem dX12_codeOf_3 : decode cX12_codeOf 3 = .ok (.bipush 9, 2) := by decide +kernel
theorem dX12_codeOf_5 : decode cX12_codeOf 5 = .ok (.idiv, 1) := by decide +kernel
theorem dX12_codeOf_6 : decode cX12_codeOf 6 = .ok (.imul, 1) := by decide +kernel
theorem dX12_codeOf_7 : decode cX12_codeOf 7 = .ok (.iload_n 0, 1) := by decide +kernel
theorem dX12_codeOf_8 : decode cX12_codeOf 8 = .ok (.bipush 9, 2) := by decide +kernel
theorem dX12_codeOf_10 : decode cX12_codeOf 10 = .ok (.irem, 1) := by decide +kernel
theorem dX12_codeOf_11 : decode cX12_codeOf 11 = .ok (.iadd, 1) := by decide +kernel
theorem dX12_codeOf_12 : decode cX12_codeOf 12 = .ok (.ireturn, 1) := by decide +kernel
set_option maxRecDepth 100000 in
set_option maxHeartbeats 4000000 in
theorem c_X12_codeOf {l : Launch} {G : Gx} (hap : k_ap G shR.length) (v0 : Int32) (M0 : Mem) (r : Int32) (hf : f_X12_codeOf v0 = r) : k_Met l yX12_codeOf cX12_codeOf 1 (some .int) 0 0 G shR [.int v0] M0 (k_Qi G shR r M0) := by
  refine k_Met_of (by decide) hap (Nat.le_of_ble_eq_true rfl) ?_
  intro p e s m args below meth c C hr hlk
  have C : Cx p s m args c cX12_codeOf RX12 1 G shR := C
  unfold f_X12_codeOf at hf
  refine k_lv (lv' := [(0, .int v0)]) [0] rfl ?_
  refine k_bipush C dX12_codeOf_0 (v := (10 : Int32)) rfl ?_
  refine k_iload_n C dX12_codeOf_2 0 rfl ?_
  refine k_bipush C dX12_codeOf_3 (v := (9 : Int32)) rfl ?_
  refine k_idiv C dX12_codeOf_5 (by decide) ?_
  refine k_imul C dX12_codeOf_6 ?_
  refine k_iload_n C dX12_codeOf_7 0 rfl ?_
  refine k_bipush C dX12_codeOf_8 (v := (9 : Int32)) rfl ?_
  refine k_iremJ C dX12_codeOf_10 (by decide) ?_
  refine k_iadd C dX12_codeOf_11 ?_
  exact k_iret C hr hlk hf rfl dX12_codeOf_12
theorem dX12_reading_0 : decode cX12_reading 0 = .ok (.iload_n 1, 1) := by decide +kernel
theorem dX12_reading_1 : decode cX12_reading 1 = .ok (.iconst 0, 1) := by decide +kernel
theorem dX12_reading_2 : decode cX12_reading 2 = .ok (.iconst 1, 1) := by decide +kernel
theorem dX12_reading_3 : decode cX12_reading 3 = .ok (.invokestatic 86, 3) := by decide +kernel
theorem dX12_reading_6 : decode cX12_reading 6 = .ok (.ifCond .ne 10, 3) := by decide +kernel
theorem dX12_reading_9 : decode cX12_reading 9 = .ok (.aload_n 0, 1) := by decide +kernel
theorem dX12_reading_10 : decode cX12_reading 10 = .ok (.bipush (-2), 2) := by decide +kernel
theorem dX12_reading_12 : decode cX12_reading 12 = .ok (.invokevirtual 75, 3) := by decide +kernel
theorem dX12_reading_15 : decode cX12_reading 15 = .ok (.ireturn, 1) := by decide +kernel
theorem dX12_reading_16 : decode cX12_reading 16 = .ok (.aload_n 0, 1) := by decide +kernel
theorem dX12_reading_17 : decode cX12_reading 17 = .ok (.invokevirtual 199, 3) := by decide +kernel
theorem dX12_reading_20 : decode cX12_reading 20 = .ok (.iconst 0, 1) := by decide +kernel
theorem dX12_reading_21 : decode cX12_reading 21 = .ok (.istore_n 2, 1) := by decide +kernel
theorem dX12_reading_22 : decode cX12_reading 22 = .ok (.ldc 182, 2) := by decide +kernel
theorem dX12_reading_24 : decode cX12_reading 24 = .ok (.istore_n 3, 1) := by decide +kernel
theorem dX12_reading_25 : decode cX12_reading 25 = .ok (.iconst 0, 1) := by decide +kernel
theorem dX12_reading_26 : decode cX12_reading 26 = .ok (.istore 4, 2) := by decide +kernel
theorem dX12_reading_28 : decode cX12_reading 28 = .ok (.iload 4, 2) := by decide +kernel
theorem dX12_reading_30 : decode cX12_reading 30 = .ok (.bipush 36, 2) := by decide +kernel
theorem dX12_reading_32 : decode cX12_reading 32 = .ok (.if_icmp .ge 36, 3) := by decide +kernel
theorem dX12_reading_35 : decode cX12_reading 35 = .ok (.aload_n 0, 1) := by decide +kernel
theorem dX12_reading_36 : decode cX12_reading 36 = .ok (.iload 4, 2) := by decide +kernel
theorem dX12_reading_38 : decode cX12_reading 38 = .ok (.invokevirtual 202, 3) := by decide +kernel
theorem dX12_reading_41 : decode cX12_reading 41 = .ok (.aload_n 0, 1) := by decide +kernel
theorem dX12_reading_42 : decode cX12_reading 42 = .ok (.invokevirtual 173, 3) := by decide +kernel
theorem dX12_reading_45 : decode cX12_reading 45 = .ok (.istore 5, 2) := by decide +kernel
theorem dX12_reading_47 : decode cX12_reading 47 = .ok (.iload 5, 2) := by decide +kernel
theorem dX12_reading_49 : decode cX12_reading 49 = .ok (.iload_n 3, 1) := by decide +kernel
theorem dX12_reading_50 : decode cX12_reading 50 = .ok (.if_icmp .lt 6, 3) := by decide +kernel
theorem dX12_reading_53 : decode cX12_reading 53 = .ok (.goto 9, 3) := by decide +kernel
theorem dX12_reading_56 : decode cX12_reading 56 = .ok (.iload 4, 2) := by decide +kernel
theorem dX12_reading_58 : decode cX12_reading 58 = .ok (.istore_n 2, 1) := by decide +kernel
theorem dX12_reading_59 : decode cX12_reading 59 = .ok (.iload 5, 2) := by decide +kernel
theorem dX12_reading_61 : decode cX12_reading 61 = .ok (.istore_n 3, 1) := by decide +kernel
theorem dX12_reading_62 : decode cX12_reading 62 = .ok (.iinc 4 1, 3) := by decide +kernel
theorem dX12_reading_65 : decode cX12_reading 65 = .ok (.goto (-37), 3) := by decide +kernel
theorem dX12_reading_68 : decode cX12_reading 68 = .ok (.aload_n 0, 1) := by decide +kernel
theorem dX12_reading_69 : decode cX12_reading 69 = .ok (.invokevirtual 205, 3) := by decide +kernel
theorem dX12_reading_72 : decode cX12_reading 72 = .ok (.iload_n 1, 1) := by decide +kernel
theorem dX12_reading_73 : decode cX12_reading 73 = .ok (.ifCond .ne 10, 3) := by decide +kernel
theorem dX12_reading_76 : decode cX12_reading 76 = .ok (.iload_n 2, 1) := by decide +kernel
theorem dX12_reading_77 : decode cX12_reading 77 = .ok (.invokestatic 208, 3) := by decide +kernel
theorem dX12_reading_80 : decode cX12_reading 80 = .ok (.goto 4, 3) := by decide +kernel
theorem dX12_reading_83 : decode cX12_reading 83 = .ok (.iload_n 3, 1) := by decide +kernel
theorem dX12_reading_84 : decode cX12_reading 84 = .ok (.ireturn, 1) := by decide +kernel
set_option maxRecDepth 100000 in
set_option maxHeartbeats 4000000 in
theorem c_X12_reading {l : Launch} {G : Gx} (hap : k_ap G shR.length) (v1 : Int32) (M0 : Mem) (r : Int32 × Mem) (hf : f_X12_reading v1 M0 = some r) : k_Met l yX12_reading cX12_reading 6 (some .int) 5 111 G shR [.ref (G.2.1 0), .int v1] M0 (k_Qi G shR r.1 r.2) := by
  refine k_Met_of (by decide) hap (Nat.le_of_ble_eq_true rfl) ?_
  intro p e s m args below meth c C hr hlk
  have C : Cx p s m args c cX12_reading RX12 6 G shR := C
  have k_b28 : ∀ (n28 : Nat) (v1 : Int32) (v2 : Int32) (v3 : Int32) (v4 : Int32) (M : Mem), f_X12_reading_b28 n28 v1 v2 v3 v4 M = some r → K p l e (k_rm 5 111) s m args below meth c 6 G shR (MQ below (k_Qi G shR r.1 r.2) args s 0 0 (k_A G shR.length)) 28 [(0, .ref (G.2.1 0)), (1, .int v1), (2, .int v2), (3, .int v3), (4, .int v4)] [] M := by
    intro n28
    induction n28 with
    | zero => intro v1 v2 v3 v4 M hf; simp [f_X12_reading_b28] at hf
    | succ n28 ih28 =>
      intro v1 v2 v3 v4 M hf
      unfold f_X12_reading_b28 at hf
      refine k_iload C dX12_reading_28 4 rfl ?_
      refine k_bipush C dX12_reading_30 (v := (36 : Int32)) rfl ?_
      rcases ite_g hf with ⟨c4, hf⟩ | ⟨c4, hf⟩
      · refine k_icmp_ge_t C dX12_reading_32 (tgt := 68) (by decide) c4 ?_
        refine k_aload_n C dX12_reading_68 0 rfl ?_
        obtain ⟨M5, hM5, hf⟩ := bnd hf
        refine k_callVv C (As := []) (c_X12_forgets hap M M5 hM5) ML_X12_forgets wd_1574 shR_0 rfl rfl rfl ⟨Nat.le_of_ble_eq_true rfl, Nat.le_of_ble_eq_true rfl⟩ (Nat.le_of_ble_eq_true rfl) dX12_reading_69 ?_
        refine k_iload_n C dX12_reading_72 1 rfl ?_
        rcases ite_g hf with ⟨c6, hf⟩ | ⟨c6, hf⟩
        · refine k_if_ne_f C dX12_reading_73 (tgt := 83) (by decide) c6 ?_
          refine k_iload_n C dX12_reading_76 2 rfl ?_
          refine k_callSi C (As := [.int v2]) (c_X12_codeOf hap v2 M5 _ rfl) MS_X12_codeOf wd_1578 rfl rfl ⟨Nat.le_of_ble_eq_true rfl, Nat.le_of_ble_eq_true rfl⟩ (Nat.le_of_ble_eq_true rfl) dX12_reading_77 ?_
          refine k_goto C dX12_reading_80 (tgt := 84) (by decide) ?_
          exact k_iret C hr hlk (prf hf) (prs hf) dX12_reading_84
        · refine k_if_ne_t C dX12_reading_73 (tgt := 83) (by decide) c6 ?_
          refine k_iload_n C dX12_reading_83 3 rfl ?_
          exact k_iret C hr hlk (prf hf) (prs hf) dX12_reading_84
      · refine k_icmp_ge_f C dX12_reading_32 (tgt := 68) (by decide) c4 ?_
        refine k_aload_n C dX12_reading_35 0 rfl ?_
        refine k_iload C dX12_reading_36 4 rfl ?_
        obtain ⟨M7, hM7, hf⟩ := bnd hf
        refine k_callVv C (As := [.int v4]) (c_X12_lays hap v4 M M7 hM7) ML_X12_lays wd_1570 shR_0 rfl rfl rfl ⟨Nat.le_of_ble_eq_true rfl, Nat.le_of_ble_eq_true rfl⟩ (Nat.le_of_ble_eq_true rfl) dX12_reading_38 ?_
        refine k_aload_n C dX12_reading_41 0 rfl ?_
        obtain ⟨t8, ht8, hf⟩ := bnd hf
        refine k_callVi C (As := []) (c_X12_all hap M7 t8 ht8) ML_X12_all wd_1502 shR_0 rfl rfl rfl ⟨Nat.le_of_ble_eq_true rfl, Nat.le_of_ble_eq_true rfl⟩ (Nat.le_of_ble_eq_true rfl) dX12_reading_42 ?_
        refine k_istore C dX12_reading_45 (by decide) [1, 2, 3, 4, 5, 0] (lv' := [(0, .ref (G.2.1 0)), (1, .int v1), (2, .int v2), (3, .int v3), (4, .int v4), (5, .int t8)]) rfl ?_
        refine k_iload C dX12_reading_47 5 rfl ?_
        refine k_iload_n C dX12_reading_49 3 rfl ?_
        rcases ite_g hf with ⟨c9, hf⟩ | ⟨c9, hf⟩
        · refine k_icmp_lt_t C dX12_reading_50 (tgt := 56) (by decide) c9 ?_
          refine k_iload C dX12_reading_56 4 rfl ?_
          refine k_istore_n C dX12_reading_58 (by decide) [1, 2, 0, 4, 5] (lv' := [(0, .ref (G.2.1 0)), (1, .int v1), (2, .int v4), (4, .int v4), (5, .int t8)]) rfl ?_
          refine k_iload C dX12_reading_59 4 rfl ?_
          refine k_istore_n C dX12_reading_61 (by decide) [1, 2, 3, 0, 4] (lv' := [(0, .ref (G.2.1 0)), (1, .int v1), (2, .int v4), (3, .int t8), (4, .int v4)]) rfl ?_
          refine k_iinc C dX12_reading_62 4 rfl (v := (v4 + (1 : Int32))) rfl (by decide) [1, 2, 3, 4, 0] (lv' := [(0, .ref (G.2.1 0)), (1, .int v1), (2, .int v4), (3, .int t8), (4, .int (v4 + (1 : Int32)))]) rfl ?_
          refine k_goto C dX12_reading_65 (tgt := 28) (by decide) ?_
          exact ih28 v1 v4 t8 (v4 + (1 : Int32)) M7 hf
        · refine k_icmp_lt_f C dX12_reading_50 (tgt := 56) (by decide) c9 ?_
          refine k_goto C dX12_reading_53 (tgt := 62) (by decide) ?_
          refine k_iinc C dX12_reading_62 4 rfl (v := (v4 + (1 : Int32))) rfl (by decide) [1, 2, 3, 4, 0] (lv' := [(0, .ref (G.2.1 0)), (1, .int v1), (2, .int v2), (3, .int v3), (4, .int (v4 + (1 : Int32)))]) rfl ?_
          refine k_goto C dX12_reading_65 (tgt := 28) (by decide) ?_
          exact ih28 v1 v2 v3 (v4 + (1 : Int32)) M7 hf
  unfold f_X12_reading at hf
  refine k_lv (lv' := [(0, .ref (G.2.1 0)), (1, .int v1)]) [0, 1] rfl ?_
  refine k_iload_n C dX12_reading_0 1 rfl ?_
  refine k_iconst C dX12_reading_1 (v := (0 : Int32)) rfl ?_
  refine k_iconst C dX12_reading_2 (v := (1 : Int32)) rfl ?_
  refine k_callSi C (As := [.int v1, .int (0 : Int32), .int (1 : Int32)]) (c_X12_isIn hap v1 (0 : Int32) (1 : Int32) M0 _ rfl) MS_X12_isIn wd_1393 rfl rfl ⟨Nat.le_of_ble_eq_true rfl, Nat.le_of_ble_eq_true rfl⟩ (Nat.le_of_ble_eq_true rfl) dX12_reading_3 ?_
  rcases ite_g hf with ⟨c1, hf⟩ | ⟨c1, hf⟩
  · refine k_if_ne_f C dX12_reading_6 (tgt := 16) (by decide) c1 ?_
    refine k_aload_n C dX12_reading_9 0 rfl ?_
    refine k_bipush C dX12_reading_10 (v := (-2 : Int32)) rfl ?_
    obtain ⟨⟨t10, M10⟩, ht10, hf⟩ := bnd hf
    replace hf := bp_s hf
    refine k_callVi C (As := [.int (-2 : Int32)]) (c_X12_no hap (-2 : Int32) M0 (t10, M10) ht10) ML_X12_no wd_1369 shR_0 rfl rfl rfl ⟨Nat.le_of_ble_eq_true rfl, Nat.le_of_ble_eq_true rfl⟩ (Nat.le_of_ble_eq_true rfl) dX12_reading_12 ?_
    exact k_iret C hr hlk (prf hf) (prs hf) dX12_reading_15
  · refine k_if_ne_t C dX12_reading_6 (tgt := 16) (by decide) c1 ?_
    refine k_aload_n C dX12_reading_16 0 rfl ?_
    obtain ⟨M2, hM2, hf⟩ := bnd hf
    refine k_callVv C (As := []) (c_X12_thinks hap M0 M2 hM2) ML_X12_thinks wd_1566 shR_0 rfl rfl rfl ⟨Nat.le_of_ble_eq_true rfl, Nat.le_of_ble_eq_true rfl⟩ (Nat.le_of_ble_eq_true rfl) dX12_reading_17 ?_
    refine k_iconst C dX12_reading_20 (v := (0 : Int32)) rfl ?_
    refine k_istore_n C dX12_reading_21 (by decide) [1, 2, 0] (lv' := [(0, .ref (G.2.1 0)), (1, .int v1), (2, .int (0 : Int32))]) rfl ?_
    refine k_ldc C dX12_reading_22 wd_1530 ?_
    refine k_istore_n C dX12_reading_24 (by decide) [1, 2, 3, 0] (lv' := [(0, .ref (G.2.1 0)), (1, .int v1), (2, .int (0 : Int32)), (3, .int (1000000 : Int32))]) rfl ?_
    refine k_iconst C dX12_reading_25 (v := (0 : Int32)) rfl ?_
    refine k_istore C dX12_reading_26 (by decide) [1, 2, 3, 4, 0] (lv' := [(0, .ref (G.2.1 0)), (1, .int v1), (2, .int (0 : Int32)), (3, .int (1000000 : Int32)), (4, .int (0 : Int32))]) rfl ?_
    exact k_b28 FU v1 (0 : Int32) (1000000 : Int32) (0 : Int32) M2 hf
theorem dX12_isSo_0 : decode cX12_isSo 0 = .ok (.iconst 0, 1) := by decide +kernel
theorem dX12_isSo_1 : decode cX12_isSo 1 = .ok (.istore_n 1, 1) := by decide +kernel
theorem dX12_isSo_2 : decode cX12_isSo 2 = .ok (.iload_n 1, 1) := by decide +kernel
theorem dX12_isSo_3 : decode cX12_isSo 3 = .ok (.aload_n 0, 1) := by decide +kernel
theorem dX12_isSo_4 : decode cX12_isSo 4 = .ok (.getfield 211, 3) := by decide +kernel
theorem dX12_isSo_7 : decode cX12_isSo 7 = .ok (.if_icmp .ge 38, 3) := by decide +kernel
theorem dX12_isSo_10 : decode cX12_isSo 10 = .ok (.aload_n 0, 1) := by decide +kernel
theorem dX12_isSo_11 : decode cX12_isSo 11 = .ok (.iload_n 1, 1) := by decide +kernel
theorem dX12_isSo_12 : decode cX12_isSo 12 = .ok (.invokevirtual 164, 3) := by decide +kernel
theorem dX12_isSo_15 : decode cX12_isSo 15 = .ok (.istore_n 2, 1) := by decide +kernel
theorem dX12_isSo_16 : decode cX12_isSo 16 = .ok (.iload_n 2, 1) := by decide +kernel
theorem dX12_isSo_17 : decode cX12_isSo 17 = .ok (.bipush 99, 2) := by decide +kernel
theorem dX12_isSo_19 : decode cX12_isSo 19 = .ok (.if_icmp .le 8, 3) := by decide +kernel
theorem dX12_isSo_22 : decode cX12_isSo 22 = .ok (.bipush 99, 2) := by decide +kernel
theorem dX12_isSo_24 : decode cX12_isSo 24 = .ok (.goto 4, 3) := by decide +kernel
theorem dX12_isSo_27 : decode cX12_isSo 27 = .ok (.iload_n 2, 1) := by decide +kernel
theorem dX12_isSo_28 : decode cX12_isSo 28 = .ok (.aload_n 0, 1) := by decide +kernel
theorem dX12_isSo_29 : decode cX12_isSo 29 = .ok (.getfield 46, 3) := by decide +kernel
theorem dX12_isSo_32 : decode cX12_isSo 32 = .ok (.iload_n 1, 1) := by decide +kernel
theorem dX12_isSo_33 : decode cX12_isSo 33 = .ok (.iaload, 1) := by decide +kernel
theorem dX12_isSo_34 : decode cX12_isSo 34 = .ok (.if_icmp .eq 5, 3) := by decide +kernel
theorem dX12_isSo_37 : decode cX12_isSo 37 = .ok (.iconst 0, 1) := by decide +kernel
theorem dX12_isSo_38 : decode cX12_isSo 38 = .ok (.ireturn, 1) := by decide +kernel
theorem dX12_isSo_39 : decode cX12_isSo 39 = .ok (.iinc 1 1, 3) := by decide +kernel
theorem dX12_isSo_42 : decode cX12_isSo 42 = .ok (.goto (-40), 3) := by decide +kernel
theorem dX12_isSo_45 : decode cX12_isSo 45 = .ok (.iconst 1, 1) := by decide +kernel
theorem dX12_isSo_46 : decode cX12_isSo 46 = .ok (.ireturn, 1) := by decide +kernel
set_option maxRecDepth 100000 in
set_option maxHeartbeats 4000000 in
theorem c_X12_isSo {l : Launch} {G : Gx} (hap : k_ap G shR.length) (M0 : Mem) (r : Int32) (hf : f_X12_isSo M0 = some r) : k_Met l yX12_isSo cX12_isSo 3 (some .boolean) 4 89 G shR [.ref (G.2.1 0)] M0 (k_Qi G shR r M0) := by
  refine k_Met_of (by decide) hap (Nat.le_of_ble_eq_true rfl) ?_
  intro p e s m args below meth c C hr hlk
  have C : Cx p s m args c cX12_isSo RX12 3 G shR := C
  have k_b2 : ∀ (n2 : Nat) (v1 : Int32), f_X12_isSo_b2 M0 n2 v1 = some r → K p l e (k_rm 4 89) s m args below meth c 3 G shR (MQ below (k_Qi G shR r M0) args s 0 0 (k_A G shR.length)) 2 [(0, .ref (G.2.1 0)), (1, .int v1)] [] M0 := by
    intro n2
    induction n2 with
    | zero => intro v1 hf; simp [f_X12_isSo_b2] at hf
    | succ n2 ih2 =>
      have k_b28 : ∀ (v1 : Int32) (s0 : Int32), f_X12_isSo_b28 M0 (f_X12_isSo_b2 M0 n2) v1 s0 = some r → K p l e (k_rm 4 89) s m args below meth c 3 G shR (MQ below (k_Qi G shR r M0) args s 0 0 (k_A G shR.length)) 28 [(0, .ref (G.2.1 0)), (1, .int v1)] [.int s0] M0 := by
        intro v1 s0 hf
        unfold f_X12_isSo_b28 at hf
        refine k_aload_n C dX12_isSo_28 0 rfl ?_
        refine k_getr C shR_0 (j := 23) rfl FL_X12_46 dX12_isSo_29 ?_
        refine k_iload_n C dX12_isSo_32 1 rfl ?_
        obtain ⟨t3, ht3, hf⟩ := bnd hf
        refine k_iald C shR_13 ht3 dX12_isSo_33 ?_
        rcases ite_g hf with ⟨c4, hf⟩ | ⟨c4, hf⟩
        · refine k_icmp_eq_t C dX12_isSo_34 (tgt := 39) (by decide) c4 ?_
          refine k_iinc C dX12_isSo_39 1 rfl (v := (v1 + (1 : Int32))) rfl (by decide) [1, 0] (lv' := [(0, .ref (G.2.1 0)), (1, .int (v1 + (1 : Int32)))]) rfl ?_
          refine k_goto C dX12_isSo_42 (tgt := 2) (by decide) ?_
          exact ih2 (v1 + (1 : Int32)) hf
        · refine k_icmp_eq_f C dX12_isSo_34 (tgt := 39) (by decide) c4 ?_
          refine k_iconst C dX12_isSo_37 (v := (0 : Int32)) rfl ?_
          exact k_zret C hr hlk (gZ0.trans (congrArg some (Option.some.inj hf))) rfl dX12_isSo_38
      intro v1 hf
      unfold f_X12_isSo_b2 at hf
      refine k_iload_n C dX12_isSo_2 1 rfl ?_
      refine k_aload_n C dX12_isSo_3 0 rfl ?_
      refine k_geti C shR_0 (j := 24) rfl FL_X12_211 dX12_isSo_4 ?_
      rcases ite_g hf with ⟨c1, hf⟩ | ⟨c1, hf⟩
      · refine k_icmp_ge_t C dX12_isSo_7 (tgt := 45) (by decide) c1 ?_
        refine k_iconst C dX12_isSo_45 (v := (1 : Int32)) rfl ?_
        exact k_zret C hr hlk (gZ1.trans (congrArg some (Option.some.inj hf))) rfl dX12_isSo_46
      · refine k_icmp_ge_f C dX12_isSo_7 (tgt := 45) (by decide) c1 ?_
        refine k_aload_n C dX12_isSo_10 0 rfl ?_
        refine k_iload_n C dX12_isSo_11 1 rfl ?_
        obtain ⟨t2, ht2, hf⟩ := bnd hf
        refine k_callVi C (As := [.int v1]) (c_X12_dueAt hap v1 M0 t2 ht2) ML_X12_dueAt wd_1451 shR_0 rfl rfl rfl ⟨Nat.le_of_ble_eq_true rfl, Nat.le_of_ble_eq_true rfl⟩ (Nat.le_of_ble_eq_true rfl) dX12_isSo_12 ?_
        refine k_istore_n C dX12_isSo_15 (by decide) [1, 2, 0] (lv' := [(0, .ref (G.2.1 0)), (1, .int v1), (2, .int t2)]) rfl ?_
        refine k_iload_n C dX12_isSo_16 2 rfl ?_
        refine k_bipush C dX12_isSo_17 (v := (99 : Int32)) rfl ?_
        have hj5 : K p l e (k_rm 4 89) s m args below meth c 3 G shR (MQ below (k_Qi G shR r M0) args s 0 0 (k_A G shR.length)) 28 [(0, .ref (G.2.1 0)), (1, .int v1), (2, .int t2)] [.int (if t2 ≤ (99 : Int32) then t2 else (99 : Int32))] M0 := by
          refine k_lv [0, 1] rfl ?_
          exact k_b28 v1 (if t2 ≤ (99 : Int32) then t2 else (99 : Int32)) hf
        by_cases c6 : t2 ≤ (99 : Int32)
        · refine k_icmp_le_t C dX12_isSo_19 (tgt := 27) (by decide) c6 ?_
          refine k_iload_n C dX12_isSo_27 2 rfl ?_
          exact k_val (by rw [if_pos c6]) hj5
        · refine k_icmp_le_f C dX12_isSo_19 (tgt := 27) (by decide) c6 ?_
          refine k_bipush C dX12_isSo_22 (v := (99 : Int32)) rfl ?_
          refine k_goto C dX12_isSo_24 (tgt := 28) (by decide) ?_
          exact k_val (by rw [if_neg c6]) hj5
  unfold f_X12_isSo at hf
  refine k_lv (lv' := [(0, .ref (G.2.1 0))]) [0] rfl ?_
  refine k_iconst C dX12_isSo_0 (v := (0 : Int32)) rfl ?_
  refine k_istore_n C dX12_isSo_1 (by decide) [1, 0] (lv' := [(0, .ref (G.2.1 0)), (1, .int (0 : Int32))]) rfl ?_
  exact k_b2 FU (0 : Int32) hf
theorem dX12_fits_0 : decode cX12_fits 0 = .ok (.iload_n 1, 1) := by decide +kernel
theorem dX12_fits_1 : decode cX12_fits 1 = .ok (.iconst 0, 1) := by decide +kernel
theorem dX12_fits_2 : decode cX12_fits 2 = .ok (.iconst 1, 1) := by decide +kernel
theorem dX12_fits_3 : decode cX12_fits 3 = .ok (.invokestatic 86, 3) := by decide +kernel
theorem dX12_fits_6 : decode cX12_fits 6 = .ok (.ifCond .ne 8, 3) := by decide +kernel
theorem dX12_fits_9 : decode cX12_fits 9 = .ok (.bipush (-2), 2) := by decide +kernel
theorem dX12_fits_11 : decode cX12_fits 11 = .ok (.goto 20, 3) := by decide +kernel
theorem dX12_fits_14 : decode cX12_fits 14 = .ok (.aload_n 0, 1) := by decide +kernel
theorem dX12_fits_15 : decode cX12_fits 15 = .ok (.getfield 211, 3) := by decide +kernel
theorem dX12_fits_18 : decode cX12_fits 18 = .ok (.aload_n 0, 1) := by decide +kernel
theorem dX12_fits_19 : decode cX12_fits 19 = .ok (.getfield 108, 3) := by decide +kernel
theorem dX12_fits_22 : decode cX12_fits 22 = .ok (.if_icmp .le 8, 3) := by decide +kernel
theorem dX12_fits_25 : decode cX12_fits 25 = .ok (.bipush (-3), 2) := by decide +kernel
theorem dX12_fits_27 : decode cX12_fits 27 = .ok (.goto 4, 3) := by decide +kernel
theorem dX12_fits_30 : decode cX12_fits 30 = .ok (.iconst 0, 1) := by decide +kernel
theorem dX12_fits_31 : decode cX12_fits 31 = .ok (.istore_n 2, 1) := by decide +kernel
theorem dX12_fits_32 : decode cX12_fits 32 = .ok (.iload_n 2, 1) := by decide +kernel
theorem dX12_fits_33 : decode cX12_fits 33 = .ok (.ifCond .eq 9, 3) := by decide +kernel
theorem dX12_fits_36 : decode cX12_fits 36 = .ok (.aload_n 0, 1) := by decide +kernel
theorem dX12_fits_37 : decode cX12_fits 37 = .ok (.iload_n 2, 1) := by decide +kernel
theorem dX12_fits_38 : decode cX12_fits 38 = .ok (.invokevirtual 75, 3) := by decide +kernel
theorem dX12_fits_41 : decode cX12_fits 41 = .ok (.ireturn, 1) := by decide +kernel
theorem dX12_fits_42 : decode cX12_fits 42 = .ok (.aload_n 0, 1) := by decide +kernel
theorem dX12_fits_43 : decode cX12_fits 43 = .ok (.invokevirtual 199, 3) := by decide +kernel
theorem dX12_fits_46 : decode cX12_fits 46 = .ok (.iconst 0, 1) := by decide +kernel
theorem dX12_fits_47 : decode cX12_fits 47 = .ok (.istore_n 3, 1) := by decide +kernel
theorem dX12_fits_48 : decode cX12_fits 48 = .ok (.bipush (-9), 2) := by decide +kernel
theorem dX12_fits_50 : decode cX12_fits 50 = .ok (.istore 4, 2) := by decide +kernel
theorem dX12_fits_52 : decode cX12_fits 52 = .ok (.bipush 35, 2) := by decide +kernel
theorem dX12_fits_54 : decode cX12_fits 54 = .ok (.istore 5, 2) := by decide +kernel
theorem dX12_fits_56 : decode cX12_fits 56 = .ok (.iload 5, 2) := by decide +kernel
theorem dX12_fits_58 : decode cX12_fits 58 = .ok (.ifCond .lt 35, 3) := by decide +kernel
theorem dX12_fits_61 : decode cX12_fits 61 = .ok (.aload_n 0, 1) := by decide +kernel
theorem dX12_fits_62 : decode cX12_fits 62 = .ok (.iload 5, 2) := by decide +kernel
theorem dX12_fits_64 : decode cX12_fits 64 = .ok (.invokevirtual 202, 3) := by decide +kernel
theorem dX12_fits_67 : decode cX12_fits 67 = .ok (.aload_n 0, 1) := by decide +kernel
theorem dX12_fits_68 : decode cX12_fits 68 = .ok (.invokevirtual 214, 3) := by decide +kernel
theorem dX12_fits_71 : decode cX12_fits 71 = .ok (.ifCond .ne 6, 3) := by decide +kernel
theorem dX12_fits_74 : decode cX12_fits 74 = .ok (.goto 13, 3) := by decide +kernel
theorem dX12_fits_77 : decode cX12_fits 77 = .ok (.iinc 3 1, 3) := by decide +kernel
theorem dX12_fits_80 : decode cX12_fits 80 = .ok (.iload 5, 2) := by decide +kernel
theorem dX12_fits_82 : decode cX12_fits 82 = .ok (.invokestatic 208, 3) := by decide +kernel
theorem dX12_fits_85 : decode cX12_fits 85 = .ok (.istore 4, 2) := by decide +kernel
theorem dX12_fits_87 : decode cX12_fits 87 = .ok (.iinc 5 (-1), 3) := by decide +kernel
theorem dX12_fits_90 : decode cX12_fits 90 = .ok (.goto (-34), 3) := by decide +kernel
theorem dX12_fits_93 : decode cX12_fits 93 = .ok (.aload_n 0, 1) := by decide +kernel
theorem dX12_fits_94 : decode cX12_fits 94 = .ok (.invokevirtual 205, 3) := by decide +kernel
theorem dX12_fits_97 : decode cX12_fits 97 = .ok (.iload_n 1, 1) := by decide +kernel
theorem dX12_fits_98 : decode cX12_fits 98 = .ok (.ifCond .ne 7, 3) := by decide +kernel
theorem dX12_fits_101 : decode cX12_fits 101 = .ok (.iload_n 3, 1) := by decide +kernel
theorem dX12_fits_102 : decode cX12_fits 102 = .ok (.goto 5, 3) := by decide +kernel
theorem dX12_fits_105 : decode cX12_fits 105 = .ok (.iload 4, 2) := by decide +kernel
theorem dX12_fits_107 : decode cX12_fits 107 = .ok (.ireturn, 1) := by decide +kernel
set_option maxRecDepth 100000 in
set_option maxHeartbeats 4000000 in
theorem c_X12_fits {l : Launch} {G : Gx} (hap : k_ap G shR.length) (v1 : Int32) (M0 : Mem) (r : Int32 × Mem) (hf : f_X12_fits v1 M0 = some r) : k_Met l yX12_fits cX12_fits 6 (some .int) 5 111 G shR [.ref (G.2.1 0), .int v1] M0 (k_Qi G shR r.1 r.2) := by
  refine k_Met_of (by decide) hap (Nat.le_of_ble_eq_true rfl) ?_
  intro p e s m args below meth c C hr hlk
  have C : Cx p s m args c cX12_fits RX12 6 G shR := C
  have k_b56 : ∀ (n56 : Nat) (v1 : Int32) (v3 : Int32) (v4 : Int32) (v5 : Int32) (M : Mem), f_X12_fits_b56 n56 v1 v3 v4 v5 M = some r → K p l e (k_rm 5 111) s m args below meth c 6 G shR (MQ below (k_Qi G shR r.1 r.2) args s 0 0 (k_A G shR.length)) 56 [(0, .ref (G.2.1 0)), (1, .int v1), (3, .int v3), (4, .int v4), (5, .int v5)] [] M := by
    intro n56
    induction n56 with
    | zero => intro v1 v3 v4 v5 M hf; simp [f_X12_fits_b56] at hf
    | succ n56 ih56 =>
      intro v1 v3 v4 v5 M hf
      unfold f_X12_fits_b56 at hf
      refine k_iload C dX12_fits_56 4 rfl ?_
      rcases ite_g hf with ⟨c4, hf⟩ | ⟨c4, hf⟩
      · refine k_if_lt_t C dX12_fits_58 (tgt := 93) (by decide) c4 ?_
        refine k_aload_n C dX12_fits_93 0 rfl ?_
        obtain ⟨M5, hM5, hf⟩ := bnd hf
        refine k_callVv C (As := []) (c_X12_forgets hap M M5 hM5) ML_X12_forgets wd_1574 shR_0 rfl rfl rfl ⟨Nat.le_of_ble_eq_true rfl, Nat.le_of_ble_eq_true rfl⟩ (Nat.le_of_ble_eq_true rfl) dX12_fits_94 ?_
        refine k_iload_n C dX12_fits_97 1 rfl ?_
        rcases ite_g hf with ⟨c6, hf⟩ | ⟨c6, hf⟩
        · refine k_if_ne_f C dX12_fits_98 (tgt := 105) (by decide) c6 ?_
          refine k_iload_n C dX12_fits_101 2 rfl ?_
          refine k_goto C dX12_fits_102 (tgt := 107) (by decide) ?_
          exact k_iret C hr hlk (prf hf) (prs hf) dX12_fits_107
        · refine k_if_ne_t C dX12_fits_98 (tgt := 105) (by decide) c6 ?_
          refine k_iload C dX12_fits_105 3 rfl ?_
          exact k_iret C hr hlk (prf hf) (prs hf) dX12_fits_107
      · refine k_if_lt_f C dX12_fits_58 (tgt := 93) (by decide) c4 ?_
        refine k_aload_n C dX12_fits_61 0 rfl ?_
        refine k_iload C dX12_fits_62 4 rfl ?_
        obtain ⟨M7, hM7, hf⟩ := bnd hf
        refine k_callVv C (As := [.int v5]) (c_X12_lays hap v5 M M7 hM7) ML_X12_lays wd_1570 shR_0 rfl rfl rfl ⟨Nat.le_of_ble_eq_true rfl, Nat.le_of_ble_eq_true rfl⟩ (Nat.le_of_ble_eq_true rfl) dX12_fits_64 ?_
        refine k_aload_n C dX12_fits_67 0 rfl ?_
        obtain ⟨t8, ht8, hf⟩ := bnd hf
        refine k_callVi C (As := []) (c_X12_isSo hap M7 t8 ht8) ML_X12_isSo wd_1585 shR_0 rfl rfl rfl ⟨Nat.le_of_ble_eq_true rfl, Nat.le_of_ble_eq_true rfl⟩ (Nat.le_of_ble_eq_true rfl) dX12_fits_68 ?_
        rcases ite_g hf with ⟨c9, hf⟩ | ⟨c9, hf⟩
        · refine k_if_ne_f C dX12_fits_71 (tgt := 77) (by decide) c9 ?_
          refine k_goto C dX12_fits_74 (tgt := 87) (by decide) ?_
          refine k_iinc C dX12_fits_87 4 rfl (v := (v5 + (-1 : Int32))) rfl (by decide) [1, 2, 3, 4, 0] (lv' := [(0, .ref (G.2.1 0)), (1, .int v1), (3, .int v3), (4, .int v4), (5, .int (v5 + (-1 : Int32)))]) rfl ?_
          refine k_goto C dX12_fits_90 (tgt := 56) (by decide) ?_
          exact ih56 v1 v3 v4 (v5 + (-1 : Int32)) M7 hf
        · refine k_if_ne_t C dX12_fits_71 (tgt := 77) (by decide) c9 ?_
          refine k_iinc C dX12_fits_77 2 rfl (v := (v3 + (1 : Int32))) rfl (by decide) [1, 2, 0, 4] (lv' := [(0, .ref (G.2.1 0)), (1, .int v1), (3, .int (v3 + (1 : Int32))), (5, .int v5)]) rfl ?_
          refine k_iload C dX12_fits_80 3 rfl ?_
          refine k_callSi C (As := [.int v5]) (c_X12_codeOf hap v5 M7 _ rfl) MS_X12_codeOf wd_1578 rfl rfl ⟨Nat.le_of_ble_eq_true rfl, Nat.le_of_ble_eq_true rfl⟩ (Nat.le_of_ble_eq_true rfl) dX12_fits_82 ?_
          refine k_istore C dX12_fits_85 (by decide) [1, 2, 3, 0, 4] (lv' := [(0, .ref (G.2.1 0)), (1, .int v1), (3, .int (v3 + (1 : Int32))), (4, .int (f_X12_codeOf v5)), (5, .int v5)]) rfl ?_
          refine k_iinc C dX12_fits_87 4 rfl (v := (v5 + (-1 : Int32))) rfl (by decide) [1, 2, 3, 4, 0] (lv' := [(0, .ref (G.2.1 0)), (1, .int v1), (3, .int (v3 + (1 : Int32))), (4, .int (f_X12_codeOf v5)), (5, .int (v5 + (-1 : Int32)))]) rfl ?_
          refine k_goto C dX12_fits_90 (tgt := 56) (by decide) ?_
          exact ih56 v1 (v3 + (1 : Int32)) (f_X12_codeOf v5) (v5 + (-1 : Int32)) M7 hf
  have k_b31 : ∀ (v1 : Int32) (s0 : Int32) (M : Mem), f_X12_fits_b31 v1 s0 M = some r → K p l e (k_rm 5 111) s m args below meth c 6 G shR (MQ below (k_Qi G shR r.1 r.2) args s 0 0 (k_A G shR.length)) 31 [(0, .ref (G.2.1 0)), (1, .int v1)] [.int s0] M := by
    intro v1 s0 M hf
    unfold f_X12_fits_b31 at hf
    refine k_istore_n C dX12_fits_31 (by decide) [1, 2, 0] (lv' := [(0, .ref (G.2.1 0)), (1, .int v1), (2, .int s0)]) rfl ?_
    refine k_iload_n C dX12_fits_32 2 rfl ?_
    rcases ite_g hf with ⟨c1, hf⟩ | ⟨c1, hf⟩
    · refine k_if_eq_t C dX12_fits_33 (tgt := 42) (by decide) c1 ?_
      refine k_aload_n C dX12_fits_42 0 rfl ?_
      obtain ⟨M2, hM2, hf⟩ := bnd hf
      refine k_callVv C (As := []) (c_X12_thinks hap M M2 hM2) ML_X12_thinks wd_1566 shR_0 rfl rfl rfl ⟨Nat.le_of_ble_eq_true rfl, Nat.le_of_ble_eq_true rfl⟩ (Nat.le_of_ble_eq_true rfl) dX12_fits_43 ?_
      refine k_iconst C dX12_fits_46 (v := (0 : Int32)) rfl ?_
      refine k_istore_n C dX12_fits_47 (by decide) [1, 2, 0] (lv' := [(0, .ref (G.2.1 0)), (1, .int v1), (3, .int (0 : Int32))]) rfl ?_
      refine k_bipush C dX12_fits_48 (v := (-9 : Int32)) rfl ?_
      refine k_istore C dX12_fits_50 (by decide) [1, 2, 3, 0] (lv' := [(0, .ref (G.2.1 0)), (1, .int v1), (3, .int (0 : Int32)), (4, .int (-9 : Int32))]) rfl ?_
      refine k_bipush C dX12_fits_52 (v := (35 : Int32)) rfl ?_
      refine k_istore C dX12_fits_54 (by decide) [1, 2, 3, 4, 0] (lv' := [(0, .ref (G.2.1 0)), (1, .int v1), (3, .int (0 : Int32)), (4, .int (-9 : Int32)), (5, .int (35 : Int32))]) rfl ?_
      exact k_b56 FU v1 (0 : Int32) (-9 : Int32) (35 : Int32) M2 hf
    · refine k_if_eq_f C dX12_fits_33 (tgt := 42) (by decide) c1 ?_
      refine k_aload_n C dX12_fits_36 0 rfl ?_
      refine k_iload_n C dX12_fits_37 2 rfl ?_
      obtain ⟨⟨t10, M10⟩, ht10, hf⟩ := bnd hf
      replace hf := bp_s hf
      refine k_callVi C (As := [.int s0]) (c_X12_no hap s0 M (t10, M10) ht10) ML_X12_no wd_1369 shR_0 rfl rfl rfl ⟨Nat.le_of_ble_eq_true rfl, Nat.le_of_ble_eq_true rfl⟩ (Nat.le_of_ble_eq_true rfl) dX12_fits_38 ?_
      exact k_iret C hr hlk (prf hf) (prs hf) dX12_fits_41
  unfold f_X12_fits at hf
  refine k_lv (lv' := [(0, .ref (G.2.1 0)), (1, .int v1)]) [0, 1] rfl ?_
  refine k_iload_n C dX12_fits_0 1 rfl ?_
  refine k_iconst C dX12_fits_1 (v := (0 : Int32)) rfl ?_
  refine k_iconst C dX12_fits_2 (v := (1 : Int32)) rfl ?_
  refine k_callSi C (As := [.int v1, .int (0 : Int32), .int (1 : Int32)]) (c_X12_isIn hap v1 (0 : Int32) (1 : Int32) M0 _ rfl) MS_X12_isIn wd_1393 rfl rfl ⟨Nat.le_of_ble_eq_true rfl, Nat.le_of_ble_eq_true rfl⟩ (Nat.le_of_ble_eq_true rfl) dX12_fits_3 ?_
  have hj11 : K p l e (k_rm 5 111) s m args below meth c 6 G shR (MQ below (k_Qi G shR r.1 r.2) args s 0 0 (k_A G shR.length)) 31 [(0, .ref (G.2.1 0)), (1, .int v1)] [.int (if (f_X12_isIn v1 (0 : Int32) (1 : Int32)) = 0 then (-2 : Int32) else (if (M0.1 0 24) ≤ (M0.1 0 6) then (0 : Int32) else (-3 : Int32)))] M0 := by
    exact k_b31 v1 (if (f_X12_isIn v1 (0 : Int32) (1 : Int32)) = 0 then (-2 : Int32) else (if (M0.1 0 24) ≤ (M0.1 0 6) then (0 : Int32) else (-3 : Int32))) M0 hf
  by_cases c12 : (f_X12_isIn v1 (0 : Int32) (1 : Int32)) = 0
  · refine k_if_ne_f C dX12_fits_6 (tgt := 14) (by decide) c12 ?_
    refine k_bipush C dX12_fits_9 (v := (-2 : Int32)) rfl ?_
    refine k_goto C dX12_fits_11 (tgt := 31) (by decide) ?_
    exact k_val (by rw [if_pos c12]) hj11
  · refine k_if_ne_t C dX12_fits_6 (tgt := 14) (by decide) c12 ?_
    refine k_aload_n C dX12_fits_14 0 rfl ?_
    refine k_geti C shR_0 (j := 24) rfl FL_X12_211 dX12_fits_15 ?_
    refine k_aload_n C dX12_fits_18 0 rfl ?_
    refine k_geti C shR_0 (j := 6) rfl FL_X12_108 dX12_fits_19 ?_
    by_cases c13 : (M0.1 0 24) ≤ (M0.1 0 6)
    · refine k_icmp_le_t C dX12_fits_22 (tgt := 30) (by decide) c13 ?_
      refine k_iconst C dX12_fits_30 (v := (0 : Int32)) rfl ?_
      exact k_val (by rw [if_neg c12, if_pos c13]) hj11
    · refine k_icmp_le_f C dX12_fits_22 (tgt := 30) (by decide) c13 ?_
      refine k_bipush C dX12_fits_25 (v := (-3 : Int32)) rfl ?_
      refine k_goto C dX12_fits_27 (tgt := 31) (by decide) ?_
      exact k_val (by rw [if_neg c12, if_neg c13]) hj11
theorem dX12_unlikeDues_0 : decode cX12_unlikeDues 0 = .ok (.iconst 0, 1) := by decide +kernel
theorem dX12_unlikeDues_1 : decode cX12_unlikeDues 1 = .ok (.istore_n 2, 1) := by decide +kernel
theorem dX12_unlikeDues_2 : decode cX12_unlikeDues 2 = .ok (.aload_n 0, 1) := by decide +kernel
theorem dX12_unlikeDues_3 : decode cX12_unlikeDues 3 = .ok (.invokevirtual 199, 3) := by decide +kernel
theorem dX12_unlikeDues_6 : decode cX12_unlikeDues 6 = .ok (.iconst 0, 1) := by decide +kernel
theorem dX12_unlikeDues_7 : decode cX12_unlikeDues 7 = .ok (.istore_n 3, 1) := by decide +kernel
theorem dX12_unlikeDues_8 : decode cX12_unlikeDues 8 = .ok (.iload_n 3, 1) := by decide +kernel
theorem dX12_unlikeDues_9 : decode cX12_unlikeDues 9 = .ok (.bipush 36, 2) := by decide +kernel
theorem dX12_unlikeDues_11 : decode cX12_unlikeDues 11 = .ok (.if_icmp .ge 92, 3) := by decide +kernel
theorem dX12_unlikeDues_14 : decode cX12_unlikeDues 14 = .ok (.aload_n 0, 1) := by decide +kernel
theorem dX12_unlikeDues_15 : decode cX12_unlikeDues 15 = .ok (.iload_n 3, 1) := by decide +kernel
theorem dX12_unlikeDues_16 : decode cX12_unlikeDues 16 = .ok (.invokevirtual 202, 3) := by decide +kernel
theorem dX12_unlikeDues_19 : decode cX12_unlikeDues 19 = .ok (.aload_n 0, 1) := by decide +kernel
theorem dX12_unlikeDues_20 : decode cX12_unlikeDues 20 = .ok (.invokevirtual 214, 3) := by decide +kernel
theorem dX12_unlikeDues_23 : decode cX12_unlikeDues 23 = .ok (.ifCond .ne 6, 3) := by decide +kernel
theorem dX12_unlikeDues_26 : decode cX12_unlikeDues 26 = .ok (.goto 71, 3) := by decide +kernel
theorem dX12_unlikeDues_29 : decode cX12_unlikeDues 29 = .ok (.aload_n 0, 1) := by decide +kernel
theorem dX12_unlikeDues_30 : decode cX12_unlikeDues 30 = .ok (.iload_n 1, 1) := by decide +kernel
theorem dX12_unlikeDues_31 : decode cX12_unlikeDues 31 = .ok (.invokevirtual 176, 3) := by decide +kernel
theorem dX12_unlikeDues_34 : decode cX12_unlikeDues 34 = .ok (.istore 4, 2) := by decide +kernel
theorem dX12_unlikeDues_36 : decode cX12_unlikeDues 36 = .ok (.iconst 1, 1) := by decide +kernel
theorem dX12_unlikeDues_37 : decode cX12_unlikeDues 37 = .ok (.istore 5, 2) := by decide +kernel
theorem dX12_unlikeDues_39 : decode cX12_unlikeDues 39 = .ok (.iconst 0, 1) := by decide +kernel
theorem dX12_unlikeDues_40 : decode cX12_unlikeDues 40 = .ok (.istore 6, 2) := by decide +kernel
theorem dX12_unlikeDues_42 : decode cX12_unlikeDues 42 = .ok (.iload 6, 2) := by decide +kernel
theorem dX12_unlikeDues_44 : decode cX12_unlikeDues 44 = .ok (.iload_n 2, 1) := by decide +kernel
theorem dX12_unlikeDues_45 : decode cX12_unlikeDues 45 = .ok (.if_icmp .ge 33, 3) := by decide +kernel
theorem dX12_unlikeDues_48 : decode cX12_unlikeDues 48 = .ok (.iload 5, 2) := by decide +kernel
theorem dX12_unlikeDues_50 : decode cX12_unlikeDues 50 = .ok (.ifCond .eq 19, 3) := by decide +kernel
theorem dX12_unlikeDues_53 : decode cX12_unlikeDues 53 = .ok (.aload_n 0, 1) := by decide +kernel
theorem dX12_unlikeDues_54 : decode cX12_unlikeDues 54 = .ok (.getfield 49, 3) := by decide +kernel
theorem dX12_unlikeDues_57 : decode cX12_unlikeDues 57 = .ok (.iload 6, 2) := by decide +kernel
theorem dX12_unlikeDues_59 : decode cX12_unlikeDues 59 = .ok (.iaload, 1) := by decide +kernel
theorem dX12_unlikeDues_60 : decode cX12_unlikeDues 60 = .ok (.iload 4, 2) := by decide +kernel
theorem dX12_unlikeDues_62 : decode cX12_unlikeDues 62 = .ok (.if_icmp .eq 7, 3) := by decide +kernel
theorem dX12_unlikeDues_65 : decode cX12_unlikeDues 65 = .ok (.iconst 1, 1) := by decide +kernel
theorem dX12_unlikeDues_66 : decode cX12_unlikeDues 66 = .ok (.goto 4, 3) := by decide +kernel
theorem dX12_unlikeDues_69 : decode cX12_unlikeDues 69 = .ok (.iconst 0, 1) := by decide +kernel
theorem dX12_unlikeDues_70 : decode cX12_unlikeDues 70 = .ok (.istore 5, 2) := by decide +kernel
theorem dX12_unlikeDues_72 : decode cX12_unlikeDues 72 = .ok (.iinc 6 1, 3) := by decide +kernel
theorem dX12_unlikeDues_75 : decode cX12_unlikeDues 75 = .ok (.goto (-33), 3) := by decide +kernel
theorem dX12_unlikeDues_78 : decode cX12_unlikeDues 78 = .ok (.iload 5, 2) := by decide +kernel
theorem dX12_unlikeDues_80 : decode cX12_unlikeDues 80 = .ok (.ifCond .ne 6, 3) := by decide +kernel
theorem dX12_unlikeDues_83 : decode cX12_unlikeDues 83 = .ok (.goto 14, 3) := by decide +kernel
theorem dX12_unlikeDues_86 : decode cX12_unlikeDues 86 = .ok (.aload_n 0, 1) := by decide +kernel
theorem dX12_unlikeDues_87 : decode cX12_unlikeDues 87 = .ok (.getfield 49, 3) := by decide +kernel
theorem dX12_unlikeDues_90 : decode cX12_unlikeDues 90 = .ok (.iload_n 2, 1) := by decide +kernel
theorem dX12_unlikeDues_91 : decode cX12_unlikeDues 91 = .ok (.iload 4, 2) := by decide +kernel
theorem dX12_unlikeDues_93 : decode cX12_unlikeDues 93 = .ok (.iastore, 1) := by decide +kernel
theorem dX12_unlikeDues_94 : decode cX12_unlikeDues 94 = .ok (.iinc 2 1, 3) := by decide +kernel
theorem dX12_unlikeDues_97 : decode cX12_unlikeDues 97 = .ok (.iinc 3 1, 3) := by decide +kernel
theorem dX12_unlikeDues_100 : decode cX12_unlikeDues 100 = .ok (.goto (-92), 3) := by decide +kernel
theorem dX12_unlikeDues_103 : decode cX12_unlikeDues 103 = .ok (.aload_n 0, 1) := by decide +kernel
theorem dX12_unlikeDues_104 : decode cX12_unlikeDues 104 = .ok (.invokevirtual 205, 3) := by decide +kernel
theorem dX12_unlikeDues_107 : decode cX12_unlikeDues 107 = .ok (.iload_n 2, 1) := by decide +kernel
theorem dX12_unlikeDues_108 : decode cX12_unlikeDues 108 = .ok (.ireturn, 1) := by decide +kernel
set_option maxRecDepth 100000 in
set_option maxHeartbeats 4000000 in
theorem c_X12_unlikeDues {l : Launch} {G : Gx} (hap : k_ap G shR.length) (v1 : Int32) (M0 : Mem) (r : Int32 × Mem) (hf : f_X12_unlikeDues v1 M0 = some r) : k_Met l yX12_unlikeDues cX12_unlikeDues 7 (some .int) 5 111 G shR [.ref (G.2.1 0), .int v1] M0 (k_Qi G shR r.1 r.2) := by
  refine k_Met_of (by decide) hap (Nat.le_of_ble_eq_true rfl) ?_
  intro p e s m args below meth c C hr hlk
  have C : Cx p s m args c cX12_unlikeDues RX12 7 G shR := C
  have k_b8 : ∀ (n8 : Nat) (v1 : Int32) (v2 : Int32) (v3 : Int32) (M : Mem), f_X12_unlikeDues_b8 n8 v1 v2 v3 M = some r → K p l e (k_rm 5 111) s m args below meth c 7 G shR (MQ below (k_Qi G shR r.1 r.2) args s 0 0 (k_A G shR.length)) 8 [(0, .ref (G.2.1 0)), (1, .int v1), (2, .int v2), (3, .int v3)] [] M := by
    intro n8
    induction n8 with
    | zero => intro v1 v2 v3 M hf; simp [f_X12_unlikeDues_b8] at hf
    | succ n8 ih8 =>
      have k_b42 : ∀ (n42 : Nat) (v1 : Int32) (v2 : Int32) (v3 : Int32) (v4 : Int32) (v5 : Int32) (v6 : Int32) (M : Mem), f_X12_unlikeDues_b42 (f_X12_unlikeDues_b8 n8) n42 v1 v2 v3 v4 v5 v6 M = some r → K p l e (k_rm 5 111) s m args below meth c 7 G shR (MQ below (k_Qi G shR r.1 r.2) args s 0 0 (k_A G shR.length)) 42 [(0, .ref (G.2.1 0)), (1, .int v1), (2, .int v2), (3, .int v3), (4, .int v4), (5, .int v5), (6, .int v6)] [] M := by
        intro n42
        induction n42 with
        | zero => intro v1 v2 v3 v4 v5 v6 M hf; simp [f_X12_unlikeDues_b42] at hf
        | succ n42 ih42 =>
          intro v1 v2 v3 v4 v5 v6 M hf
          unfold f_X12_unlikeDues_b42 at hf
          refine k_iload C dX12_unlikeDues_42 6 rfl ?_
          refine k_iload_n C dX12_unlikeDues_44 2 rfl ?_
          rcases ite_g hf with ⟨c10, hf⟩ | ⟨c10, hf⟩
          · refine k_icmp_ge_t C dX12_unlikeDues_45 (tgt := 78) (by decide) c10 ?_
            refine k_iload C dX12_unlikeDues_78 5 rfl ?_
            rcases ite_g hf with ⟨c11, hf⟩ | ⟨c11, hf⟩
            · refine k_if_ne_f C dX12_unlikeDues_80 (tgt := 86) (by decide) c11 ?_
              refine k_goto C dX12_unlikeDues_83 (tgt := 97) (by decide) ?_
              refine k_iinc C dX12_unlikeDues_97 3 rfl (v := (v3 + (1 : Int32))) rfl (by decide) [1, 2, 3, 0] (lv' := [(0, .ref (G.2.1 0)), (1, .int v1), (2, .int v2), (3, .int (v3 + (1 : Int32)))]) rfl ?_
              refine k_goto C dX12_unlikeDues_100 (tgt := 8) (by decide) ?_
              exact ih8 v1 v2 (v3 + (1 : Int32)) M hf
            · refine k_if_ne_t C dX12_unlikeDues_80 (tgt := 86) (by decide) c11 ?_
              refine k_aload_n C dX12_unlikeDues_86 0 rfl ?_
              refine k_getr C shR_0 (j := 25) rfl FL_X12_49 dX12_unlikeDues_87 ?_
              refine k_iload_n C dX12_unlikeDues_90 2 rfl ?_
              refine k_iload C dX12_unlikeDues_91 4 rfl ?_
              obtain ⟨M12, hM12, hf⟩ := bnd hf
              refine k_iast C shR_14 hM12 dX12_unlikeDues_93 ?_
              refine k_iinc C dX12_unlikeDues_94 2 rfl (v := (v2 + (1 : Int32))) rfl (by decide) [1, 2, 0, 3] (lv' := [(0, .ref (G.2.1 0)), (1, .int v1), (2, .int (v2 + (1 : Int32))), (3, .int v3)]) rfl ?_
              refine k_iinc C dX12_unlikeDues_97 3 rfl (v := (v3 + (1 : Int32))) rfl (by decide) [1, 2, 3, 0] (lv' := [(0, .ref (G.2.1 0)), (1, .int v1), (2, .int (v2 + (1 : Int32))), (3, .int (v3 + (1 : Int32)))]) rfl ?_
              refine k_goto C dX12_unlikeDues_100 (tgt := 8) (by decide) ?_
              exact ih8 v1 (v2 + (1 : Int32)) (v3 + (1 : Int32)) M12 hf
          · refine k_icmp_ge_f C dX12_unlikeDues_45 (tgt := 78) (by decide) c10 ?_
            refine k_iload C dX12_unlikeDues_48 5 rfl ?_
            rcases ite_g hf with ⟨c13, hf⟩ | ⟨c13, hf⟩
            · refine k_if_eq_t C dX12_unlikeDues_50 (tgt := 69) (by decide) c13 ?_
              refine k_iconst C dX12_unlikeDues_69 (v := (0 : Int32)) rfl ?_
              refine k_istore C dX12_unlikeDues_70 (by decide) [1, 2, 3, 4, 5, 0, 6] (lv' := [(0, .ref (G.2.1 0)), (1, .int v1), (2, .int v2), (3, .int v3), (4, .int v4), (5, .int (0 : Int32)), (6, .int v6)]) rfl ?_
              refine k_iinc C dX12_unlikeDues_72 6 rfl (v := (v6 + (1 : Int32))) rfl (by decide) [1, 2, 3, 4, 5, 6, 0] (lv' := [(0, .ref (G.2.1 0)), (1, .int v1), (2, .int v2), (3, .int v3), (4, .int v4), (5, .int (0 : Int32)), (6, .int (v6 + (1 : Int32)))]) rfl ?_
              refine k_goto C dX12_unlikeDues_75 (tgt := 42) (by decide) ?_
              exact ih42 v1 v2 v3 v4 (0 : Int32) (v6 + (1 : Int32)) M hf
            · refine k_if_eq_f C dX12_unlikeDues_50 (tgt := 69) (by decide) c13 ?_
              refine k_aload_n C dX12_unlikeDues_53 0 rfl ?_
              refine k_getr C shR_0 (j := 25) rfl FL_X12_49 dX12_unlikeDues_54 ?_
              refine k_iload C dX12_unlikeDues_57 6 rfl ?_
              obtain ⟨t14, ht14, hf⟩ := bnd hf
              refine k_iald C shR_14 ht14 dX12_unlikeDues_59 ?_
              refine k_iload C dX12_unlikeDues_60 4 rfl ?_
              have hj15 : K p l e (k_rm 5 111) s m args below meth c 7 G shR (MQ below (k_Qi G shR r.1 r.2) args s 0 0 (k_A G shR.length)) 70 [(0, .ref (G.2.1 0)), (1, .int v1), (2, .int v2), (3, .int v3), (4, .int v4), (5, .int v5), (6, .int v6)] [.int (if t14 = v4 then (0 : Int32) else (1 : Int32))] M := by
                refine k_istore C dX12_unlikeDues_70 (by decide) [1, 2, 3, 4, 5, 0, 6] (lv' := [(0, .ref (G.2.1 0)), (1, .int v1), (2, .int v2), (3, .int v3), (4, .int v4), (5, .int (if t14 = v4 then (0 : Int32) else (1 : Int32))), (6, .int v6)]) rfl ?_
                refine k_iinc C dX12_unlikeDues_72 6 rfl (v := (v6 + (1 : Int32))) rfl (by decide) [1, 2, 3, 4, 5, 6, 0] (lv' := [(0, .ref (G.2.1 0)), (1, .int v1), (2, .int v2), (3, .int v3), (4, .int v4), (5, .int (if t14 = v4 then (0 : Int32) else (1 : Int32))), (6, .int (v6 + (1 : Int32)))]) rfl ?_
                refine k_goto C dX12_unlikeDues_75 (tgt := 42) (by decide) ?_
                exact ih42 v1 v2 v3 v4 (if t14 = v4 then (0 : Int32) else (1 : Int32)) (v6 + (1 : Int32)) M hf
              by_cases c16 : t14 = v4
              · refine k_icmp_eq_t C dX12_unlikeDues_62 (tgt := 69) (by decide) c16 ?_
                refine k_iconst C dX12_unlikeDues_69 (v := (0 : Int32)) rfl ?_
                exact k_val (by rw [if_pos c16]) hj15
              · refine k_icmp_eq_f C dX12_unlikeDues_62 (tgt := 69) (by decide) c16 ?_
                refine k_iconst C dX12_unlikeDues_65 (v := (1 : Int32)) rfl ?_
                refine k_goto C dX12_unlikeDues_66 (tgt := 70) (by decide) ?_
                exact k_val (by rw [if_neg c16]) hj15
      intro v1 v2 v3 M hf
      unfold f_X12_unlikeDues_b8 at hf
      refine k_iload_n C dX12_unlikeDues_8 3 rfl ?_
      refine k_bipush C dX12_unlikeDues_9 (v := (36 : Int32)) rfl ?_
      rcases ite_g hf with ⟨c3, hf⟩ | ⟨c3, hf⟩
      · refine k_icmp_ge_t C dX12_unlikeDues_11 (tgt := 103) (by decide) c3 ?_
        refine k_aload_n C dX12_unlikeDues_103 0 rfl ?_
        obtain ⟨M4, hM4, hf⟩ := bnd hf
        refine k_callVv C (As := []) (c_X12_forgets hap M M4 hM4) ML_X12_forgets wd_1574 shR_0 rfl rfl rfl ⟨Nat.le_of_ble_eq_true rfl, Nat.le_of_ble_eq_true rfl⟩ (Nat.le_of_ble_eq_true rfl) dX12_unlikeDues_104 ?_
        refine k_iload_n C dX12_unlikeDues_107 2 rfl ?_
        exact k_iret C hr hlk (prf hf) (prs hf) dX12_unlikeDues_108
      · refine k_icmp_ge_f C dX12_unlikeDues_11 (tgt := 103) (by decide) c3 ?_
        refine k_aload_n C dX12_unlikeDues_14 0 rfl ?_
        refine k_iload_n C dX12_unlikeDues_15 3 rfl ?_
        obtain ⟨M5, hM5, hf⟩ := bnd hf
        refine k_callVv C (As := [.int v3]) (c_X12_lays hap v3 M M5 hM5) ML_X12_lays wd_1570 shR_0 rfl rfl rfl ⟨Nat.le_of_ble_eq_true rfl, Nat.le_of_ble_eq_true rfl⟩ (Nat.le_of_ble_eq_true rfl) dX12_unlikeDues_16 ?_
        refine k_aload_n C dX12_unlikeDues_19 0 rfl ?_
        obtain ⟨t6, ht6, hf⟩ := bnd hf
        refine k_callVi C (As := []) (c_X12_isSo hap M5 t6 ht6) ML_X12_isSo wd_1585 shR_0 rfl rfl rfl ⟨Nat.le_of_ble_eq_true rfl, Nat.le_of_ble_eq_true rfl⟩ (Nat.le_of_ble_eq_true rfl) dX12_unlikeDues_20 ?_
        rcases ite_g hf with ⟨c8, hf⟩ | ⟨c8, hf⟩
        · refine k_if_ne_f C dX12_unlikeDues_23 (tgt := 29) (by decide) c8 ?_
          refine k_goto C dX12_unlikeDues_26 (tgt := 97) (by decide) ?_
          refine k_iinc C dX12_unlikeDues_97 3 rfl (v := (v3 + (1 : Int32))) rfl (by decide) [1, 2, 3, 0] (lv' := [(0, .ref (G.2.1 0)), (1, .int v1), (2, .int v2), (3, .int (v3 + (1 : Int32)))]) rfl ?_
          refine k_goto C dX12_unlikeDues_100 (tgt := 8) (by decide) ?_
          exact ih8 v1 v2 (v3 + (1 : Int32)) M5 hf
        · refine k_if_ne_t C dX12_unlikeDues_23 (tgt := 29) (by decide) c8 ?_
          refine k_aload_n C dX12_unlikeDues_29 0 rfl ?_
          refine k_iload_n C dX12_unlikeDues_30 1 rfl ?_
          obtain ⟨t9, ht9, hf⟩ := bnd hf
          refine k_callVi C (As := [.int v1]) (c_X12_nextOf hap v1 M5 t9 ht9) ML_X12_nextOf wd_1510 shR_0 rfl rfl rfl ⟨Nat.le_of_ble_eq_true rfl, Nat.le_of_ble_eq_true rfl⟩ (Nat.le_of_ble_eq_true rfl) dX12_unlikeDues_31 ?_
          refine k_istore C dX12_unlikeDues_34 (by decide) [1, 2, 3, 4, 0] (lv' := [(0, .ref (G.2.1 0)), (1, .int v1), (2, .int v2), (3, .int v3), (4, .int t9)]) rfl ?_
          refine k_iconst C dX12_unlikeDues_36 (v := (1 : Int32)) rfl ?_
          refine k_istore C dX12_unlikeDues_37 (by decide) [1, 2, 3, 4, 5, 0] (lv' := [(0, .ref (G.2.1 0)), (1, .int v1), (2, .int v2), (3, .int v3), (4, .int t9), (5, .int (1 : Int32))]) rfl ?_
          refine k_iconst C dX12_unlikeDues_39 (v := (0 : Int32)) rfl ?_
          refine k_istore C dX12_unlikeDues_40 (by decide) [1, 2, 3, 4, 5, 6, 0] (lv' := [(0, .ref (G.2.1 0)), (1, .int v1), (2, .int v2), (3, .int v3), (4, .int t9), (5, .int (1 : Int32)), (6, .int (0 : Int32))]) rfl ?_
          exact k_b42 FU v1 v2 v3 t9 (1 : Int32) (0 : Int32) M5 hf
  unfold f_X12_unlikeDues at hf
  refine k_lv (lv' := [(0, .ref (G.2.1 0)), (1, .int v1)]) [0, 1] rfl ?_
  refine k_iconst C dX12_unlikeDues_0 (v := (0 : Int32)) rfl ?_
  refine k_istore_n C dX12_unlikeDues_1 (by decide) [1, 2, 0] (lv' := [(0, .ref (G.2.1 0)), (1, .int v1), (2, .int (0 : Int32))]) rfl ?_
  refine k_aload_n C dX12_unlikeDues_2 0 rfl ?_
  obtain ⟨M1, hM1, hf⟩ := bnd hf
  refine k_callVv C (As := []) (c_X12_thinks hap M0 M1 hM1) ML_X12_thinks wd_1566 shR_0 rfl rfl rfl ⟨Nat.le_of_ble_eq_true rfl, Nat.le_of_ble_eq_true rfl⟩ (Nat.le_of_ble_eq_true rfl) dX12_unlikeDues_3 ?_
  refine k_iconst C dX12_unlikeDues_6 (v := (0 : Int32)) rfl ?_
  refine k_istore_n C dX12_unlikeDues_7 (by decide) [1, 2, 3, 0] (lv' := [(0, .ref (G.2.1 0)), (1, .int v1), (2, .int (0 : Int32)), (3, .int (0 : Int32))]) rfl ?_
  exact k_b8 FU v1 (0 : Int32) (0 : Int32) M1 hf
theorem dX12_tellsMost_0 : decode cX12_tellsMost 0 = .ok (.iload_n 1, 1) := by decide +kernel
theorem dX12_tellsMost_1 : decode cX12_tellsMost 1 = .ok (.iconst 0, 1) := by decide +kernel
theorem dX12_tellsMost_2 : decode cX12_tellsMost 2 = .ok (.iconst 1, 1) := by decide +kernel
theorem dX12_tellsMost_3 : decode cX12_tellsMost 3 = .ok (.invokestatic 86, 3) := by decide +kernel
theorem dX12_tellsMost_6 : decode cX12_tellsMost 6 = .ok (.ifCond .ne 8, 3) := by decide +kernel
theorem dX12_tellsMost_9 : decode cX12_tellsMost 9 = .ok (.bipush (-2), 2) := by decide +kernel
theorem dX12_tellsMost_11 : decode cX12_tellsMost 11 = .ok (.goto 20, 3) := by decide +kernel
theorem dX12_tellsMost_14 : decode cX12_tellsMost 14 = .ok (.aload_n 0, 1) := by decide +kernel
theorem dX12_tellsMost_15 : decode cX12_tellsMost 15 = .ok (.getfield 211, 3) := by decide +kernel
theorem dX12_tellsMost_18 : decode cX12_tellsMost 18 = .ok (.aload_n 0, 1) := by decide +kernel
theorem dX12_tellsMost_19 : decode cX12_tellsMost 19 = .ok (.getfield 108, 3) := by decide +kernel
theorem dX12_tellsMost_22 : decode cX12_tellsMost 22 = .ok (.if_icmp .le 8, 3) := by decide +kernel
theorem dX12_tellsMost_25 : decode cX12_tellsMost 25 = .ok (.bipush (-3), 2) := by decide +kernel
theorem dX12_tellsMost_27 : decode cX12_tellsMost 27 = .ok (.goto 4, 3) := by decide +kernel
theorem dX12_tellsMost_30 : decode cX12_tellsMost 30 = .ok (.iconst 0, 1) := by decide +kernel
theorem dX12_tellsMost_31 : decode cX12_tellsMost 31 = .ok (.istore_n 2, 1) := by decide +kernel
theorem dX12_tellsMost_32 : decode cX12_tellsMost 32 = .ok (.iload_n 2, 1) := by decide +kernel
theorem dX12_tellsMost_33 : decode cX12_tellsMost 33 = .ok (.ifCond .eq 9, 3) := by decide +kernel
theorem dX12_tellsMost_36 : decode cX12_tellsMost 36 = .ok (.aload_n 0, 1) := by decide +kernel
theorem dX12_tellsMost_37 : decode cX12_tellsMost 37 = .ok (.iload_n 2, 1) := by decide +kernel
theorem dX12_tellsMost_38 : decode cX12_tellsMost 38 = .ok (.invokevirtual 75, 3) := by decide +kernel
theorem dX12_tellsMost_41 : decode cX12_tellsMost 41 = .ok (.ireturn, 1) := by decide +kernel
theorem dX12_tellsMost_42 : decode cX12_tellsMost 42 = .ok (.bipush (-9), 2) := by decide +kernel
theorem dX12_tellsMost_44 : decode cX12_tellsMost 44 = .ok (.istore_n 3, 1) := by decide +kernel
theorem dX12_tellsMost_45 : decode cX12_tellsMost 45 = .ok (.iconst 0, 1) := by decide +kernel
theorem dX12_tellsMost_46 : decode cX12_tellsMost 46 = .ok (.istore 4, 2) := by decide +kernel
theorem dX12_tellsMost_48 : decode cX12_tellsMost 48 = .ok (.iconst 0, 1) := by decide +kernel
theorem dX12_tellsMost_49 : decode cX12_tellsMost 49 = .ok (.istore 5, 2) := by decide +kernel
theorem dX12_tellsMost_51 : decode cX12_tellsMost 51 = .ok (.iload 5, 2) := by decide +kernel
theorem dX12_tellsMost_53 : decode cX12_tellsMost 53 = .ok (.aload_n 0, 1) := by decide +kernel
theorem dX12_tellsMost_54 : decode cX12_tellsMost 54 = .ok (.getfield 62, 3) := by decide +kernel
theorem dX12_tellsMost_57 : decode cX12_tellsMost 57 = .ok (.if_icmp .ge 34, 3) := by decide +kernel
theorem dX12_tellsMost_60 : decode cX12_tellsMost 60 = .ok (.aload_n 0, 1) := by decide +kernel
theorem dX12_tellsMost_61 : decode cX12_tellsMost 61 = .ok (.iload 5, 2) := by decide +kernel
theorem dX12_tellsMost_63 : decode cX12_tellsMost 63 = .ok (.invokevirtual 217, 3) := by decide +kernel
theorem dX12_tellsMost_66 : decode cX12_tellsMost 66 = .ok (.istore 6, 2) := by decide +kernel
theorem dX12_tellsMost_68 : decode cX12_tellsMost 68 = .ok (.iload 6, 2) := by decide +kernel
theorem dX12_tellsMost_70 : decode cX12_tellsMost 70 = .ok (.iload 4, 2) := by decide +kernel
theorem dX12_tellsMost_72 : decode cX12_tellsMost 72 = .ok (.if_icmp .gt 6, 3) := by decide +kernel
theorem dX12_tellsMost_75 : decode cX12_tellsMost 75 = .ok (.goto 10, 3) := by decide +kernel
theorem dX12_tellsMost_78 : decode cX12_tellsMost 78 = .ok (.iload 5, 2) := by decide +kernel
theorem dX12_tellsMost_80 : decode cX12_tellsMost 80 = .ok (.istore_n 3, 1) := by decide +kernel
theorem dX12_tellsMost_81 : decode cX12_tellsMost 81 = .ok (.iload 6, 2) := by decide +kernel
theorem dX12_tellsMost_83 : decode cX12_tellsMost 83 = .ok (.istore 4, 2) := by decide +kernel
theorem dX12_tellsMost_85 : decode cX12_tellsMost 85 = .ok (.iinc 5 1, 3) := by decide +kernel
theorem dX12_tellsMost_88 : decode cX12_tellsMost 88 = .ok (.goto (-37), 3) := by decide +kernel
theorem dX12_tellsMost_91 : decode cX12_tellsMost 91 = .ok (.iload_n 1, 1) := by decide +kernel
theorem dX12_tellsMost_92 : decode cX12_tellsMost 92 = .ok (.ifCond .eq 7, 3) := by decide +kernel
theorem dX12_tellsMost_95 : decode cX12_tellsMost 95 = .ok (.iload_n 3, 1) := by decide +kernel
theorem dX12_tellsMost_96 : decode cX12_tellsMost 96 = .ok (.ifCond .ge 7, 3) := by decide +kernel
theorem dX12_tellsMost_99 : decode cX12_tellsMost 99 = .ok (.iload_n 3, 1) := by decide +kernel
theorem dX12_tellsMost_100 : decode cX12_tellsMost 100 = .ok (.goto 5, 3) := by decide +kernel
theorem dX12_tellsMost_103 : decode cX12_tellsMost 103 = .ok (.iload 4, 2) := by decide +kernel
theorem dX12_tellsMost_105 : decode cX12_tellsMost 105 = .ok (.ireturn, 1) := by decide +kernel
set_option maxRecDepth 100000 in
set_option maxHeartbeats 4000000 in
theorem c_X12_tellsMost {l : Launch} {G : Gx} (hap : k_ap G shR.length) (v1 : Int32) (M0 : Mem) (r : Int32 × Mem) (hf : f_X12_tellsMost v1 M0 = some r) : k_Met l yX12_tellsMost cX12_tellsMost 7 (some .int) 6 137 G shR [.ref (G.2.1 0), .int v1] M0 (k_Qi G shR r.1 r.2) := by
  refine k_Met_of (by decide) hap (Nat.le_of_ble_eq_true rfl) ?_
  intro p e s m args below meth c C hr hlk
  have C : Cx p s m args c cX12_tellsMost RX12 7 G shR := C
  have k_b51 : ∀ (n51 : Nat) (v1 : Int32) (v3 : Int32) (v4 : Int32) (v5 : Int32) (M : Mem), f_X12_tellsMost_b51 n51 v1 v3 v4 v5 M = some r → K p l e (k_rm 6 137) s m args below meth c 7 G shR (MQ below (k_Qi G shR r.1 r.2) args s 0 0 (k_A G shR.length)) 51 [(0, .ref (G.2.1 0)), (1, .int v1), (3, .int v3), (4, .int v4), (5, .int v5)] [] M := by
    intro n51
    induction n51 with
    | zero => intro v1 v3 v4 v5 M hf; simp [f_X12_tellsMost_b51] at hf
    | succ n51 ih51 =>
      intro v1 v3 v4 v5 M hf
      unfold f_X12_tellsMost_b51 at hf
      refine k_iload C dX12_tellsMost_51 4 rfl ?_
      refine k_aload_n C dX12_tellsMost_53 0 rfl ?_
      refine k_geti C shR_0 (j := 5) rfl FL_X12_62 dX12_tellsMost_54 ?_
      rcases ite_g hf with ⟨c3, hf⟩ | ⟨c3, hf⟩
      · refine k_icmp_ge_t C dX12_tellsMost_57 (tgt := 91) (by decide) c3 ?_
        refine k_iload_n C dX12_tellsMost_91 1 rfl ?_
        rcases ite_g hf with ⟨c4, hf⟩ | ⟨c4, hf⟩
        · refine k_if_eq_t C dX12_tellsMost_92 (tgt := 99) (by decide) c4 ?_
          refine k_iload_n C dX12_tellsMost_99 2 rfl ?_
          refine k_goto C dX12_tellsMost_100 (tgt := 105) (by decide) ?_
          exact k_iret C hr hlk (prf hf) (prs hf) dX12_tellsMost_105
        · refine k_if_eq_f C dX12_tellsMost_92 (tgt := 99) (by decide) c4 ?_
          refine k_iload_n C dX12_tellsMost_95 2 rfl ?_
          rcases ite_g hf with ⟨c5, hf⟩ | ⟨c5, hf⟩
          · refine k_if_ge_t C dX12_tellsMost_96 (tgt := 103) (by decide) c5 ?_
            refine k_iload C dX12_tellsMost_103 3 rfl ?_
            exact k_iret C hr hlk (prf hf) (prs hf) dX12_tellsMost_105
          · refine k_if_ge_f C dX12_tellsMost_96 (tgt := 103) (by decide) c5 ?_
            refine k_iload_n C dX12_tellsMost_99 2 rfl ?_
            refine k_goto C dX12_tellsMost_100 (tgt := 105) (by decide) ?_
            exact k_iret C hr hlk (prf hf) (prs hf) dX12_tellsMost_105
      · refine k_icmp_ge_f C dX12_tellsMost_57 (tgt := 91) (by decide) c3 ?_
        refine k_aload_n C dX12_tellsMost_60 0 rfl ?_
        refine k_iload C dX12_tellsMost_61 4 rfl ?_
        obtain ⟨⟨t6, M6⟩, ht6, hf⟩ := bnd hf
        replace hf := bp_s hf
        refine k_callVi C (As := [.int v5]) (c_X12_unlikeDues hap v5 M (t6, M6) ht6) ML_X12_unlikeDues wd_1593 shR_0 rfl rfl rfl ⟨Nat.le_of_ble_eq_true rfl, Nat.le_of_ble_eq_true rfl⟩ (Nat.le_of_ble_eq_true rfl) dX12_tellsMost_63 ?_
        refine k_istore C dX12_tellsMost_66 (by decide) [1, 2, 3, 4, 5, 0] (lv' := [(0, .ref (G.2.1 0)), (1, .int v1), (3, .int v3), (4, .int v4), (5, .int v5), (6, .int t6)]) rfl ?_
        refine k_iload C dX12_tellsMost_68 5 rfl ?_
        refine k_iload C dX12_tellsMost_70 3 rfl ?_
        rcases ite_g hf with ⟨c7, hf⟩ | ⟨c7, hf⟩
        · refine k_icmp_gt_t C dX12_tellsMost_72 (tgt := 78) (by decide) c7 ?_
          refine k_iload C dX12_tellsMost_78 4 rfl ?_
          refine k_istore_n C dX12_tellsMost_80 (by decide) [1, 2, 0, 4, 5] (lv' := [(0, .ref (G.2.1 0)), (1, .int v1), (3, .int v5), (5, .int v5), (6, .int t6)]) rfl ?_
          refine k_iload C dX12_tellsMost_81 4 rfl ?_
          refine k_istore C dX12_tellsMost_83 (by decide) [1, 2, 3, 0, 4] (lv' := [(0, .ref (G.2.1 0)), (1, .int v1), (3, .int v5), (4, .int t6), (5, .int v5)]) rfl ?_
          refine k_iinc C dX12_tellsMost_85 4 rfl (v := (v5 + (1 : Int32))) rfl (by decide) [1, 2, 3, 4, 0] (lv' := [(0, .ref (G.2.1 0)), (1, .int v1), (3, .int v5), (4, .int t6), (5, .int (v5 + (1 : Int32)))]) rfl ?_
          refine k_goto C dX12_tellsMost_88 (tgt := 51) (by decide) ?_
          exact ih51 v1 v5 t6 (v5 + (1 : Int32)) M6 hf
        · refine k_icmp_gt_f C dX12_tellsMost_72 (tgt := 78) (by decide) c7 ?_
          refine k_goto C dX12_tellsMost_75 (tgt := 85) (by decide) ?_
          refine k_iinc C dX12_tellsMost_85 4 rfl (v := (v5 + (1 : Int32))) rfl (by decide) [1, 2, 3, 4, 0] (lv' := [(0, .ref (G.2.1 0)), (1, .int v1), (3, .int v3), (4, .int v4), (5, .int (v5 + (1 : Int32)))]) rfl ?_
          refine k_goto C dX12_tellsMost_88 (tgt := 51) (by decide) ?_
          exact ih51 v1 v3 v4 (v5 + (1 : Int32)) M6 hf
  have k_b31 : ∀ (v1 : Int32) (s0 : Int32) (M : Mem), f_X12_tellsMost_b31 v1 s0 M = some r → K p l e (k_rm 6 137) s m args below meth c 7 G shR (MQ below (k_Qi G shR r.1 r.2) args s 0 0 (k_A G shR.length)) 31 [(0, .ref (G.2.1 0)), (1, .int v1)] [.int s0] M := by
    intro v1 s0 M hf
    unfold f_X12_tellsMost_b31 at hf
    refine k_istore_n C dX12_tellsMost_31 (by decide) [1, 2, 0] (lv' := [(0, .ref (G.2.1 0)), (1, .int v1), (2, .int s0)]) rfl ?_
    refine k_iload_n C dX12_tellsMost_32 2 rfl ?_
    rcases ite_g hf with ⟨c1, hf⟩ | ⟨c1, hf⟩
    · refine k_if_eq_t C dX12_tellsMost_33 (tgt := 42) (by decide) c1 ?_
      refine k_bipush C dX12_tellsMost_42 (v := (-9 : Int32)) rfl ?_
      refine k_istore_n C dX12_tellsMost_44 (by decide) [1, 2, 0] (lv' := [(0, .ref (G.2.1 0)), (1, .int v1), (3, .int (-9 : Int32))]) rfl ?_
      refine k_iconst C dX12_tellsMost_45 (v := (0 : Int32)) rfl ?_
      refine k_istore C dX12_tellsMost_46 (by decide) [1, 2, 3, 0] (lv' := [(0, .ref (G.2.1 0)), (1, .int v1), (3, .int (-9 : Int32)), (4, .int (0 : Int32))]) rfl ?_
      refine k_iconst C dX12_tellsMost_48 (v := (0 : Int32)) rfl ?_
      refine k_istore C dX12_tellsMost_49 (by decide) [1, 2, 3, 4, 0] (lv' := [(0, .ref (G.2.1 0)), (1, .int v1), (3, .int (-9 : Int32)), (4, .int (0 : Int32)), (5, .int (0 : Int32))]) rfl ?_
      exact k_b51 FU v1 (-9 : Int32) (0 : Int32) (0 : Int32) M hf
    · refine k_if_eq_f C dX12_tellsMost_33 (tgt := 42) (by decide) c1 ?_
      refine k_aload_n C dX12_tellsMost_36 0 rfl ?_
      refine k_iload_n C dX12_tellsMost_37 2 rfl ?_
      obtain ⟨⟨t8, M8⟩, ht8, hf⟩ := bnd hf
      replace hf := bp_s hf
      refine k_callVi C (As := [.int s0]) (c_X12_no hap s0 M (t8, M8) ht8) ML_X12_no wd_1369 shR_0 rfl rfl rfl ⟨Nat.le_of_ble_eq_true rfl, Nat.le_of_ble_eq_true rfl⟩ (Nat.le_of_ble_eq_true rfl) dX12_tellsMost_38 ?_
      exact k_iret C hr hlk (prf hf) (prs hf) dX12_tellsMost_41
  unfold f_X12_tellsMost at hf
  refine k_lv (lv' := [(0, .ref (G.2.1 0)), (1, .int v1)]) [0, 1] rfl ?_
  refine k_iload_n C dX12_tellsMost_0 1 rfl ?_
  refine k_iconst C dX12_tellsMost_1 (v := (0 : Int32)) rfl ?_
  refine k_iconst C dX12_tellsMost_2 (v := (1 : Int32)) rfl ?_
  refine k_callSi C (As := [.int v1, .int (0 : Int32), .int (1 : Int32)]) (c_X12_isIn hap v1 (0 : Int32) (1 : Int32) M0 _ rfl) MS_X12_isIn wd_1393 rfl rfl ⟨Nat.le_of_ble_eq_true rfl, Nat.le_of_ble_eq_true rfl⟩ (Nat.le_of_ble_eq_true rfl) dX12_tellsMost_3 ?_
  have hj9 : K p l e (k_rm 6 137) s m args below meth c 7 G shR (MQ below (k_Qi G shR r.1 r.2) args s 0 0 (k_A G shR.length)) 31 [(0, .ref (G.2.1 0)), (1, .int v1)] [.int (if (f_X12_isIn v1 (0 : Int32) (1 : Int32)) = 0 then (-2 : Int32) else (if (M0.1 0 24) ≤ (M0.1 0 6) then (0 : Int32) else (-3 : Int32)))] M0 := by
    exact k_b31 v1 (if (f_X12_isIn v1 (0 : Int32) (1 : Int32)) = 0 then (-2 : Int32) else (if (M0.1 0 24) ≤ (M0.1 0 6) then (0 : Int32) else (-3 : Int32))) M0 hf
  by_cases c10 : (f_X12_isIn v1 (0 : Int32) (1 : Int32)) = 0
  · refine k_if_ne_f C dX12_tellsMost_6 (tgt := 14) (by decide) c10 ?_
    refine k_bipush C dX12_tellsMost_9 (v := (-2 : Int32)) rfl ?_
    refine k_goto C dX12_tellsMost_11 (tgt := 31) (by decide) ?_
    exact k_val (by rw [if_pos c10]) hj9
  · refine k_if_ne_t C dX12_tellsMost_6 (tgt := 14) (by decide) c10 ?_
    refine k_aload_n C dX12_tellsMost_14 0 rfl ?_
    refine k_geti C shR_0 (j := 24) rfl FL_X12_211 dX12_tellsMost_15 ?_
    refine k_aload_n C dX12_tellsMost_18 0 rfl ?_
    refine k_geti C shR_0 (j := 6) rfl FL_X12_108 dX12_tellsMost_19 ?_
    by_cases c11 : (M0.1 0 24) ≤ (M0.1 0 6)
    · refine k_icmp_le_t C dX12_tellsMost_22 (tgt := 30) (by decide) c11 ?_
      refine k_iconst C dX12_tellsMost_30 (v := (0 : Int32)) rfl ?_
      exact k_val (by rw [if_neg c10, if_pos c11]) hj9
    · refine k_icmp_le_f C dX12_tellsMost_22 (tgt := 30) (by decide) c11 ?_
      refine k_bipush C dX12_tellsMost_25 (v := (-3 : Int32)) rfl ?_
      refine k_goto C dX12_tellsMost_27 (tgt := 31) (by decide) ?_
      exact k_val (by rw [if_neg c10, if_neg c11]) hj9
theorem dX12_loophole_0 : decode cX12_loophole 0 = .ok (.bipush (-9), 2) := by decide +kernel
theorem dX12_loophole_2 : decode cX12_loophole 2 = .ok (.istore_n 1, 1) := by decide +kernel
theorem dX12_loophole_3 : decode cX12_loophole 3 = .ok (.aload_n 0, 1) := by decide +kernel
theorem dX12_loophole_4 : decode cX12_loophole 4 = .ok (.invokevirtual 173, 3) := by decide +kernel
theorem dX12_loophole_7 : decode cX12_loophole 7 = .ok (.istore_n 2, 1) := by decide +kernel
theorem dX12_loophole_8 : decode cX12_loophole 8 = .ok (.iconst 0, 1) := by decide +kernel
theorem dX12_loophole_9 : decode cX12_loophole 9 = .ok (.istore_n 3, 1) := by decide +kernel
theorem dX12_loophole_10 : decode cX12_loophole 10 = .ok (.iload_n 3, 1) := by decide +kernel
theorem dX12_loophole_11 : decode cX12_loophole 11 = .ok (.bipush 10, 2) := by decide +kernel
theorem dX12_loophole_13 : decode cX12_loophole 13 = .ok (.aload_n 0, 1) := by decide +kernel
theorem dX12_loophole_14 : decode cX12_loophole 14 = .ok (.getfield 62, 3) := by decide +kernel
theorem dX12_loophole_17 : decode cX12_loophole 17 = .ok (.imul, 1) := by decide +kernel
theorem dX12_loophole_18 : decode cX12_loophole 18 = .ok (.if_icmp .ge 77, 3) := by decide +kernel
theorem dX12_loophole_21 : decode cX12_loophole 21 = .ok (.iload_n 3, 1) := by decide +kernel
theorem dX12_loophole_22 : decode cX12_loophole 22 = .ok (.bipush 10, 2) := by decide +kernel
theorem dX12_loophole_24 : decode cX12_loophole 24 = .ok (.irem, 1) := by decide +kernel
theorem dX12_loophole_25 : decode cX12_loophole 25 = .ok (.bipush 8, 2) := by decide +kernel
theorem dX12_loophole_27 : decode cX12_loophole 27 = .ok (.if_icmp .lt 6, 3) := by decide +kernel
theorem dX12_loophole_30 : decode cX12_loophole 30 = .ok (.goto 59, 3) := by decide +kernel
theorem dX12_loophole_33 : decode cX12_loophole 33 = .ok (.aload_n 0, 1) := by decide +kernel
theorem dX12_loophole_34 : decode cX12_loophole 34 = .ok (.getfield 19, 3) := by decide +kernel
theorem dX12_loophole_37 : decode cX12_loophole 37 = .ok (.iload_n 3, 1) := by decide +kernel
theorem dX12_loophole_38 : decode cX12_loophole 38 = .ok (.bipush 10, 2) := by decide +kernel
theorem dX12_loophole_40 : decode cX12_loophole 40 = .ok (.idiv, 1) := by decide +kernel
theorem dX12_loophole_41 : decode cX12_loophole 41 = .ok (.dup2, 1) := by decide +kernel
theorem dX12_loophole_42 : decode cX12_loophole 42 = .ok (.iaload, 1) := by decide +kernel
theorem dX12_loophole_43 : decode cX12_loophole 43 = .ok (.iconst 1, 1) := by decide +kernel
theorem dX12_loophole_44 : decode cX12_loophole 44 = .ok (.iload_n 3, 1) := by decide +kernel
theorem dX12_loophole_45 : decode cX12_loophole 45 = .ok (.bipush 10, 2) := by decide +kernel
theorem dX12_loophole_47 : decode cX12_loophole 47 = .ok (.irem, 1) := by decide +kernel
theorem dX12_loophole_48 : decode cX12_loophole 48 = .ok (.ishl, 1) := by decide +kernel
theorem dX12_loophole_49 : decode cX12_loophole 49 = .ok (.ixor, 1) := by decide +kernel
theorem dX12_loophole_50 : decode cX12_loophole 50 = .ok (.iastore, 1) := by decide +kernel
theorem dX12_loophole_51 : decode cX12_loophole 51 = .ok (.aload_n 0, 1) := by decide +kernel
theorem dX12_loophole_52 : decode cX12_loophole 52 = .ok (.invokevirtual 173, 3) := by decide +kernel
theorem dX12_loophole_55 : decode cX12_loophole 55 = .ok (.istore 4, 2) := by decide +kernel
theorem dX12_loophole_57 : decode cX12_loophole 57 = .ok (.aload_n 0, 1) := by decide +kernel
theorem dX12_loophole_58 : decode cX12_loophole 58 = .ok (.getfield 19, 3) := by decide +kernel
theorem dX12_loophole_61 : decode cX12_loophole 61 = .ok (.iload_n 3, 1) := by decide +kernel
theorem dX12_loophole_62 : decode cX12_loophole 62 = .ok (.bipush 10, 2) := by decide +kernel
theorem dX12_loophole_64 : decode cX12_loophole 64 = .ok (.idiv, 1) := by decide +kernel
theorem dX12_loophole_65 : decode cX12_loophole 65 = .ok (.dup2, 1) := by decide +kernel
theorem dX12_loophole_66 : decode cX12_loophole 66 = .ok (.iaload, 1) := by decide +kernel
theorem dX12_loophole_67 : decode cX12_loophole 67 = .ok (.iconst 1, 1) := by decide +kernel
theorem dX12_loophole_68 : decode cX12_loophole 68 = .ok (.iload_n 3, 1) := by decide +kernel
theorem dX12_loophole_69 : decode cX12_loophole 69 = .ok (.bipush 10, 2) := by decide +kernel
theorem dX12_loophole_71 : decode cX12_loophole 71 = .ok (.irem, 1) := by decide +kernel
theorem dX12_loophole_72 : decode cX12_loophole 72 = .ok (.ishl, 1) := by decide +kernel
theorem dX12_loophole_73 : decode cX12_loophole 73 = .ok (.ixor, 1) := by decide +kernel
theorem dX12_loophole_74 : decode cX12_loophole 74 = .ok (.iastore, 1) := by decide +kernel
theorem dX12_loophole_75 : decode cX12_loophole 75 = .ok (.iload 4, 2) := by decide +kernel
theorem dX12_loophole_77 : decode cX12_loophole 77 = .ok (.iload_n 2, 1) := by decide +kernel
theorem dX12_loophole_78 : decode cX12_loophole 78 = .ok (.if_icmp .lt 6, 3) := by decide +kernel
theorem dX12_loophole_81 : decode cX12_loophole 81 = .ok (.goto 8, 3) := by decide +kernel
theorem dX12_loophole_84 : decode cX12_loophole 84 = .ok (.iload_n 3, 1) := by decide +kernel
theorem dX12_loophole_85 : decode cX12_loophole 85 = .ok (.istore_n 1, 1) := by decide +kernel
theorem dX12_loophole_86 : decode cX12_loophole 86 = .ok (.iload 4, 2) := by decide +kernel
theorem dX12_loophole_88 : decode cX12_loophole 88 = .ok (.istore_n 2, 1) := by decide +kernel
theorem dX12_loophole_89 : decode cX12_loophole 89 = .ok (.iinc 3 1, 3) := by decide +kernel
theorem dX12_loophole_92 : decode cX12_loophole 92 = .ok (.goto (-82), 3) := by decide +kernel
theorem dX12_loophole_95 : decode cX12_loophole 95 = .ok (.iload_n 1, 1) := by decide +kernel
theorem dX12_loophole_96 : decode cX12_loophole 96 = .ok (.ireturn, 1) := by decide +kernel
set_option maxRecDepth 100000 in
set_option maxHeartbeats 4000000 in
theorem c_X12_loophole {l : Launch} {G : Gx} (hap : k_ap G shR.length) (M0 : Mem) (r : Int32 × Mem) (hf : f_X12_loophole M0 = some r) : k_Met l yX12_loophole cX12_loophole 5 (some .int) 5 111 G shR [.ref (G.2.1 0)] M0 (k_Qi G shR r.1 r.2) := by
  refine k_Met_of (by decide) hap (Nat.le_of_ble_eq_true rfl) ?_
  intro p e s m args below meth c C hr hlk
  have C : Cx p s m args c cX12_loophole RX12 5 G shR := C
  have k_b10 : ∀ (n10 : Nat) (v1 : Int32) (v2 : Int32) (v3 : Int32) (M : Mem), f_X12_loophole_b10 n10 v1 v2 v3 M = some r → K p l e (k_rm 5 111) s m args below meth c 5 G shR (MQ below (k_Qi G shR r.1 r.2) args s 0 0 (k_A G shR.length)) 10 [(0, .ref (G.2.1 0)), (1, .int v1), (2, .int v2), (3, .int v3)] [] M := by
    intro n10
    induction n10 with
    | zero => intro v1 v2 v3 M hf; simp [f_X12_loophole_b10] at hf
    | succ n10 ih10 =>
      intro v1 v2 v3 M hf
      unfold f_X12_loophole_b10 at hf
      refine k_iload_n C dX12_loophole_10 3 rfl ?_
      refine k_bipush C dX12_loophole_11 (v := (10 : Int32)) rfl ?_
      refine k_aload_n C dX12_loophole_13 0 rfl ?_
      refine k_geti C shR_0 (j := 5) rfl FL_X12_62 dX12_loophole_14 ?_
      refine k_imul C dX12_loophole_17 ?_
      rcases ite_g hf with ⟨c2, hf⟩ | ⟨c2, hf⟩
      · refine k_icmp_ge_t C dX12_loophole_18 (tgt := 95) (by decide) c2 ?_
        refine k_iload_n C dX12_loophole_95 1 rfl ?_
        exact k_iret C hr hlk (prf hf) (prs hf) dX12_loophole_96
      · refine k_icmp_ge_f C dX12_loophole_18 (tgt := 95) (by decide) c2 ?_
        refine k_iload_n C dX12_loophole_21 3 rfl ?_
        refine k_bipush C dX12_loophole_22 (v := (10 : Int32)) rfl ?_
        refine k_iremJ C dX12_loophole_24 (by decide) ?_
        refine k_bipush C dX12_loophole_25 (v := (8 : Int32)) rfl ?_
        rcases ite_g hf with ⟨c3, hf⟩ | ⟨c3, hf⟩
        · refine k_icmp_lt_t C dX12_loophole_27 (tgt := 33) (by decide) c3 ?_
          refine k_aload_n C dX12_loophole_33 0 rfl ?_
          refine k_getr C shR_0 (j := 3) rfl FL_X12_19 dX12_loophole_34 ?_
          refine k_iload_n C dX12_loophole_37 3 rfl ?_
          refine k_bipush C dX12_loophole_38 (v := (10 : Int32)) rfl ?_
          refine k_idiv C dX12_loophole_40 (by decide) ?_
          refine k_dup2 C dX12_loophole_41 rfl rfl ?_
          obtain ⟨t4, ht4, hf⟩ := bnd hf
          refine k_iald C shR_4 ht4 dX12_loophole_42 ?_
          refine k_iconst C dX12_loophole_43 (v := (1 : Int32)) rfl ?_
          refine k_iload_n C dX12_loophole_44 3 rfl ?_
          refine k_bipush C dX12_loophole_45 (v := (10 : Int32)) rfl ?_
          refine k_iremJ C dX12_loophole_47 (by decide) ?_
          refine k_ishlJ C dX12_loophole_48 ?_
          refine k_ixor C dX12_loophole_49 ?_
          obtain ⟨M5, hM5, hf⟩ := bnd hf
          refine k_iast C shR_4 hM5 dX12_loophole_50 ?_
          refine k_aload_n C dX12_loophole_51 0 rfl ?_
          obtain ⟨t6, ht6, hf⟩ := bnd hf
          refine k_callVi C (As := []) (c_X12_all hap M5 t6 ht6) ML_X12_all wd_1502 shR_0 rfl rfl rfl ⟨Nat.le_of_ble_eq_true rfl, Nat.le_of_ble_eq_true rfl⟩ (Nat.le_of_ble_eq_true rfl) dX12_loophole_52 ?_
          refine k_istore C dX12_loophole_55 (by decide) [1, 2, 3, 4, 0] (lv' := [(0, .ref (G.2.1 0)), (1, .int v1), (2, .int v2), (3, .int v3), (4, .int t6)]) rfl ?_
          refine k_aload_n C dX12_loophole_57 0 rfl ?_
          refine k_getr C shR_0 (j := 3) rfl FL_X12_19 dX12_loophole_58 ?_
          refine k_iload_n C dX12_loophole_61 3 rfl ?_
          refine k_bipush C dX12_loophole_62 (v := (10 : Int32)) rfl ?_
          refine k_idiv C dX12_loophole_64 (by decide) ?_
          refine k_dup2 C dX12_loophole_65 rfl rfl ?_
          obtain ⟨t7, ht7, hf⟩ := bnd hf
          refine k_iald C shR_4 ht7 dX12_loophole_66 ?_
          refine k_iconst C dX12_loophole_67 (v := (1 : Int32)) rfl ?_
          refine k_iload_n C dX12_loophole_68 3 rfl ?_
          refine k_bipush C dX12_loophole_69 (v := (10 : Int32)) rfl ?_
          refine k_iremJ C dX12_loophole_71 (by decide) ?_
          refine k_ishlJ C dX12_loophole_72 ?_
          refine k_ixor C dX12_loophole_73 ?_
          obtain ⟨M8, hM8, hf⟩ := bnd hf
          refine k_iast C shR_4 hM8 dX12_loophole_74 ?_
          refine k_iload C dX12_loophole_75 4 rfl ?_
          refine k_iload_n C dX12_loophole_77 2 rfl ?_
          rcases ite_g hf with ⟨c9, hf⟩ | ⟨c9, hf⟩
          · refine k_icmp_lt_t C dX12_loophole_78 (tgt := 84) (by decide) c9 ?_
            refine k_iload_n C dX12_loophole_84 3 rfl ?_
            refine k_istore_n C dX12_loophole_85 (by decide) [1, 0, 3, 4] (lv' := [(0, .ref (G.2.1 0)), (1, .int v3), (3, .int v3), (4, .int t6)]) rfl ?_
            refine k_iload C dX12_loophole_86 3 rfl ?_
            refine k_istore_n C dX12_loophole_88 (by decide) [1, 2, 0, 3] (lv' := [(0, .ref (G.2.1 0)), (1, .int v3), (2, .int t6), (3, .int v3)]) rfl ?_
            refine k_iinc C dX12_loophole_89 3 rfl (v := (v3 + (1 : Int32))) rfl (by decide) [1, 2, 3, 0] (lv' := [(0, .ref (G.2.1 0)), (1, .int v3), (2, .int t6), (3, .int (v3 + (1 : Int32)))]) rfl ?_
            refine k_goto C dX12_loophole_92 (tgt := 10) (by decide) ?_
            exact ih10 v3 t6 (v3 + (1 : Int32)) M8 hf
          · refine k_icmp_lt_f C dX12_loophole_78 (tgt := 84) (by decide) c9 ?_
            refine k_goto C dX12_loophole_81 (tgt := 89) (by decide) ?_
            refine k_iinc C dX12_loophole_89 3 rfl (v := (v3 + (1 : Int32))) rfl (by decide) [1, 2, 3, 0] (lv' := [(0, .ref (G.2.1 0)), (1, .int v1), (2, .int v2), (3, .int (v3 + (1 : Int32)))]) rfl ?_
            refine k_goto C dX12_loophole_92 (tgt := 10) (by decide) ?_
            exact ih10 v1 v2 (v3 + (1 : Int32)) M8 hf
        · refine k_icmp_lt_f C dX12_loophole_27 (tgt := 33) (by decide) c3 ?_
          refine k_goto C dX12_loophole_30 (tgt := 89) (by decide) ?_
          refine k_iinc C dX12_loophole_89 3 rfl (v := (v3 + (1 : Int32))) rfl (by decide) [1, 2, 3, 0] (lv' := [(0, .ref (G.2.1 0)), (1, .int v1), (2, .int v2), (3, .int (v3 + (1 : Int32)))]) rfl ?_
          refine k_goto C dX12_loophole_92 (tgt := 10) (by decide) ?_
          exact ih10 v1 v2 (v3 + (1 : Int32)) M hf
  unfold f_X12_loophole at hf
  refine k_lv (lv' := [(0, .ref (G.2.1 0))]) [0] rfl ?_
  refine k_bipush C dX12_loophole_0 (v := (-9 : Int32)) rfl ?_
  refine k_istore_n C dX12_loophole_2 (by decide) [1, 0] (lv' := [(0, .ref (G.2.1 0)), (1, .int (-9 : Int32))]) rfl ?_
  refine k_aload_n C dX12_loophole_3 0 rfl ?_
  obtain ⟨t1, ht1, hf⟩ := bnd hf
  refine k_callVi C (As := []) (c_X12_all hap M0 t1 ht1) ML_X12_all wd_1502 shR_0 rfl rfl rfl ⟨Nat.le_of_ble_eq_true rfl, Nat.le_of_ble_eq_true rfl⟩ (Nat.le_of_ble_eq_true rfl) dX12_loophole_4 ?_
  refine k_istore_n C dX12_loophole_7 (by decide) [1, 2, 0] (lv' := [(0, .ref (G.2.1 0)), (1, .int (-9 : Int32)), (2, .int t1)]) rfl ?_
  refine k_iconst C dX12_loophole_8 (v := (0 : Int32)) rfl ?_
  refine k_istore_n C dX12_loophole_9 (by decide) [1, 2, 3, 0] (lv' := [(0, .ref (G.2.1 0)), (1, .int (-9 : Int32)), (2, .int t1), (3, .int (0 : Int32))]) rfl ?_
  exact k_b10 FU (-9 : Int32) t1 (0 : Int32) M0 hf
theorem dX12_dueOfTwo_0 : decode cX12_dueOfTwo 0 = .ok (.iconst 0, 1) := by decide +kernel
theorem dX12_dueOfTwo_1 : decode cX12_dueOfTwo 1 = .ok (.istore_n 2, 1) := by decide +kernel
theorem dX12_dueOfTwo_2 : decode cX12_dueOfTwo 2 = .ok (.iconst 0, 1) := by decide +kernel
theorem dX12_dueOfTwo_3 : decode cX12_dueOfTwo 3 = .ok (.istore_n 3, 1) := by decide +kernel
theorem dX12_dueOfTwo_4 : decode cX12_dueOfTwo 4 = .ok (.iload_n 3, 1) := by decide +kernel
theorem dX12_dueOfTwo_5 : decode cX12_dueOfTwo 5 = .ok (.aload_n 0, 1) := by decide +kernel
theorem dX12_dueOfTwo_6 : decode cX12_dueOfTwo 6 = .ok (.getfield 108, 3) := by decide +kernel
theorem dX12_dueOfTwo_9 : decode cX12_dueOfTwo 9 = .ok (.if_icmp .ge 86, 3) := by decide +kernel
theorem dX12_dueOfTwo_12 : decode cX12_dueOfTwo 12 = .ok (.iconst 0, 1) := by decide +kernel
theorem dX12_dueOfTwo_13 : decode cX12_dueOfTwo 13 = .ok (.istore 4, 2) := by decide +kernel
theorem dX12_dueOfTwo_15 : decode cX12_dueOfTwo 15 = .ok (.iconst 0, 1) := by decide +kernel
theorem dX12_dueOfTwo_16 : decode cX12_dueOfTwo 16 = .ok (.istore 5, 2) := by decide +kernel
theorem dX12_dueOfTwo_18 : decode cX12_dueOfTwo 18 = .ok (.iload 5, 2) := by decide +kernel
theorem dX12_dueOfTwo_20 : decode cX12_dueOfTwo 20 = .ok (.iload_n 3, 1) := by decide +kernel
theorem dX12_dueOfTwo_21 : decode cX12_dueOfTwo 21 = .ok (.if_icmp .ge 53, 3) := by decide +kernel
theorem dX12_dueOfTwo_24 : decode cX12_dueOfTwo 24 = .ok (.iload 4, 2) := by decide +kernel
theorem dX12_dueOfTwo_26 : decode cX12_dueOfTwo 26 = .ok (.iload_n 1, 1) := by decide +kernel
theorem dX12_dueOfTwo_27 : decode cX12_dueOfTwo 27 = .ok (.iload 5, 2) := by decide +kernel
theorem dX12_dueOfTwo_29 : decode cX12_dueOfTwo 29 = .ok (.invokestatic 179, 3) := by decide +kernel
theorem dX12_dueOfTwo_32 : decode cX12_dueOfTwo 32 = .ok (.iload_n 1, 1) := by decide +kernel
theorem dX12_dueOfTwo_33 : decode cX12_dueOfTwo 33 = .ok (.iload_n 3, 1) := by decide +kernel
theorem dX12_dueOfTwo_34 : decode cX12_dueOfTwo 34 = .ok (.invokestatic 179, 3) := by decide +kernel
theorem dX12_dueOfTwo_37 : decode cX12_dueOfTwo 37 = .ok (.if_icmp .ne 27, 3) := by decide +kernel
theorem dX12_dueOfTwo_40 : decode cX12_dueOfTwo 40 = .ok (.aload_n 0, 1) := by decide +kernel
theorem dX12_dueOfTwo_41 : decode cX12_dueOfTwo 41 = .ok (.aload_n 0, 1) := by decide +kernel
theorem dX12_dueOfTwo_42 : decode cX12_dueOfTwo 42 = .ok (.getfield 22, 3) := by decide +kernel
theorem dX12_dueOfTwo_45 : decode cX12_dueOfTwo 45 = .ok (.iload 5, 2) := by decide +kernel
theorem dX12_dueOfTwo_47 : decode cX12_dueOfTwo 47 = .ok (.iaload, 1) := by decide +kernel
theorem dX12_dueOfTwo_48 : decode cX12_dueOfTwo 48 = .ok (.aload_n 0, 1) := by decide +kernel
theorem dX12_dueOfTwo_49 : decode cX12_dueOfTwo 49 = .ok (.getfield 22, 3) := by decide +kernel
theorem dX12_dueOfTwo_52 : decode cX12_dueOfTwo 52 = .ok (.iload_n 3, 1) := by decide +kernel
theorem dX12_dueOfTwo_53 : decode cX12_dueOfTwo 53 = .ok (.iaload, 1) := by decide +kernel
theorem dX12_dueOfTwo_54 : decode cX12_dueOfTwo 54 = .ok (.invokevirtual 154, 3) := by decide +kernel
theorem dX12_dueOfTwo_57 : decode cX12_dueOfTwo 57 = .ok (.ifCond .eq 7, 3) := by decide +kernel
theorem dX12_dueOfTwo_60 : decode cX12_dueOfTwo 60 = .ok (.iconst 1, 1) := by decide +kernel
theorem dX12_dueOfTwo_61 : decode cX12_dueOfTwo 61 = .ok (.goto 4, 3) := by decide +kernel
theorem dX12_dueOfTwo_64 : decode cX12_dueOfTwo 64 = .ok (.iconst 0, 1) := by decide +kernel
theorem dX12_dueOfTwo_65 : decode cX12_dueOfTwo 65 = .ok (.iadd, 1) := by decide +kernel
theorem dX12_dueOfTwo_66 : decode cX12_dueOfTwo 66 = .ok (.istore 4, 2) := by decide +kernel
theorem dX12_dueOfTwo_68 : decode cX12_dueOfTwo 68 = .ok (.iinc 5 1, 3) := by decide +kernel
theorem dX12_dueOfTwo_71 : decode cX12_dueOfTwo 71 = .ok (.goto (-53), 3) := by decide +kernel
theorem dX12_dueOfTwo_74 : decode cX12_dueOfTwo 74 = .ok (.iload_n 2, 1) := by decide +kernel
theorem dX12_dueOfTwo_75 : decode cX12_dueOfTwo 75 = .ok (.aload_n 0, 1) := by decide +kernel
theorem dX12_dueOfTwo_76 : decode cX12_dueOfTwo 76 = .ok (.aload_n 0, 1) := by decide +kernel
theorem dX12_dueOfTwo_77 : decode cX12_dueOfTwo 77 = .ok (.getfield 22, 3) := by decide +kernel
theorem dX12_dueOfTwo_80 : decode cX12_dueOfTwo 80 = .ok (.iload_n 3, 1) := by decide +kernel
theorem dX12_dueOfTwo_81 : decode cX12_dueOfTwo 81 = .ok (.iaload, 1) := by decide +kernel
theorem dX12_dueOfTwo_82 : decode cX12_dueOfTwo 82 = .ok (.iload 4, 2) := by decide +kernel
theorem dX12_dueOfTwo_84 : decode cX12_dueOfTwo 84 = .ok (.invokevirtual 161, 3) := by decide +kernel
theorem dX12_dueOfTwo_87 : decode cX12_dueOfTwo 87 = .ok (.iadd, 1) := by decide +kernel
theorem dX12_dueOfTwo_88 : decode cX12_dueOfTwo 88 = .ok (.istore_n 2, 1) := by decide +kernel
theorem dX12_dueOfTwo_89 : decode cX12_dueOfTwo 89 = .ok (.iinc 3 1, 3) := by decide +kernel
theorem dX12_dueOfTwo_92 : decode cX12_dueOfTwo 92 = .ok (.goto (-88), 3) := by decide +kernel
theorem dX12_dueOfTwo_95 : decode cX12_dueOfTwo 95 = .ok (.iload_n 2, 1) := by decide +kernel
theorem dX12_dueOfTwo_96 : decode cX12_dueOfTwo 96 = .ok (.ireturn, 1) := by decide +kernel
set_option maxRecDepth 100000 in
set_option maxHeartbeats 4000000 in
theorem c_X12_dueOfTwo {l : Launch} {G : Gx} (hap : k_ap G shR.length) (v1 : Int32) (M0 : Mem) (r : Int32) (hf : f_X12_dueOfTwo v1 M0 = some r) : k_Met l yX12_dueOfTwo cX12_dueOfTwo 6 (some .int) 2 44 G shR [.ref (G.2.1 0), .int v1] M0 (k_Qi G shR r M0) := by
  refine k_Met_of (by decide) hap (Nat.le_of_ble_eq_true rfl) ?_
  intro p e s m args below meth c C hr hlk
  have C : Cx p s m args c cX12_dueOfTwo RX12 6 G shR := C
  have k_b4 : ∀ (n4 : Nat) (v1 : Int32) (v2 : Int32) (v3 : Int32), f_X12_dueOfTwo_b4 M0 n4 v1 v2 v3 = some r → K p l e (k_rm 2 44) s m args below meth c 6 G shR (MQ below (k_Qi G shR r M0) args s 0 0 (k_A G shR.length)) 4 [(0, .ref (G.2.1 0)), (1, .int v1), (2, .int v2), (3, .int v3)] [] M0 := by
    intro n4
    induction n4 with
    | zero => intro v1 v2 v3 hf; simp [f_X12_dueOfTwo_b4] at hf
    | succ n4 ih4 =>
      have k_b18 : ∀ (n18 : Nat) (v1 : Int32) (v2 : Int32) (v3 : Int32) (v4 : Int32) (v5 : Int32), f_X12_dueOfTwo_b18 M0 (f_X12_dueOfTwo_b4 M0 n4) n18 v1 v2 v3 v4 v5 = some r → K p l e (k_rm 2 44) s m args below meth c 6 G shR (MQ below (k_Qi G shR r M0) args s 0 0 (k_A G shR.length)) 18 [(0, .ref (G.2.1 0)), (1, .int v1), (2, .int v2), (3, .int v3), (4, .int v4), (5, .int v5)] [] M0 := by
        intro n18
        induction n18 with
        | zero => intro v1 v2 v3 v4 v5 hf; simp [f_X12_dueOfTwo_b18] at hf
        | succ n18 ih18 =>
          intro v1 v2 v3 v4 v5 hf
          unfold f_X12_dueOfTwo_b18 at hf
          refine k_iload C dX12_dueOfTwo_18 5 rfl ?_
          refine k_iload_n C dX12_dueOfTwo_20 3 rfl ?_
          rcases ite_g hf with ⟨c2, hf⟩ | ⟨c2, hf⟩
          · refine k_icmp_ge_t C dX12_dueOfTwo_21 (tgt := 74) (by decide) c2 ?_
            refine k_iload_n C dX12_dueOfTwo_74 2 rfl ?_
            refine k_aload_n C dX12_dueOfTwo_75 0 rfl ?_
            refine k_aload_n C dX12_dueOfTwo_76 0 rfl ?_
            refine k_getr C shR_0 (j := 4) rfl FL_X12_22 dX12_dueOfTwo_77 ?_
            refine k_iload_n C dX12_dueOfTwo_80 3 rfl ?_
            obtain ⟨t3, ht3, hf⟩ := bnd hf
            refine k_iald C shR_5 ht3 dX12_dueOfTwo_81 ?_
            refine k_iload C dX12_dueOfTwo_82 4 rfl ?_
            obtain ⟨t4, ht4, hf⟩ := bnd hf
            refine k_callVi C (As := [.int t3, .int v4]) (c_X12_dueOf hap t3 v4 M0 t4 ht4) ML_X12_dueOf wd_1466 shR_0 rfl rfl rfl ⟨Nat.le_of_ble_eq_true rfl, Nat.le_of_ble_eq_true rfl⟩ (Nat.le_of_ble_eq_true rfl) dX12_dueOfTwo_84 ?_
            refine k_iadd C dX12_dueOfTwo_87 ?_
            refine k_istore_n C dX12_dueOfTwo_88 (by decide) [1, 2, 0, 3] (lv' := [(0, .ref (G.2.1 0)), (1, .int v1), (2, .int (v2 + t4)), (3, .int v3)]) rfl ?_
            refine k_iinc C dX12_dueOfTwo_89 3 rfl (v := (v3 + (1 : Int32))) rfl (by decide) [1, 2, 3, 0] (lv' := [(0, .ref (G.2.1 0)), (1, .int v1), (2, .int (v2 + t4)), (3, .int (v3 + (1 : Int32)))]) rfl ?_
            refine k_goto C dX12_dueOfTwo_92 (tgt := 4) (by decide) ?_
            exact ih4 v1 (v2 + t4) (v3 + (1 : Int32)) hf
          · refine k_icmp_ge_f C dX12_dueOfTwo_21 (tgt := 74) (by decide) c2 ?_
            refine k_iload C dX12_dueOfTwo_24 4 rfl ?_
            refine k_iload_n C dX12_dueOfTwo_26 1 rfl ?_
            refine k_iload C dX12_dueOfTwo_27 5 rfl ?_
            refine k_callSi C (As := [.int v1, .int v5]) (c_X12_has hap v1 v5 M0 _ rfl) MS_X12_has wd_1531 rfl rfl ⟨Nat.le_of_ble_eq_true rfl, Nat.le_of_ble_eq_true rfl⟩ (Nat.le_of_ble_eq_true rfl) dX12_dueOfTwo_29 ?_
            refine k_iload_n C dX12_dueOfTwo_32 1 rfl ?_
            refine k_iload_n C dX12_dueOfTwo_33 3 rfl ?_
            refine k_callSi C (As := [.int v1, .int v3]) (c_X12_has hap v1 v3 M0 _ rfl) MS_X12_has wd_1531 rfl rfl ⟨Nat.le_of_ble_eq_true rfl, Nat.le_of_ble_eq_true rfl⟩ (Nat.le_of_ble_eq_true rfl) dX12_dueOfTwo_34 ?_
            rcases ite_g hf with ⟨c5, hf⟩ | ⟨c5, hf⟩
            · refine k_icmp_ne_f C dX12_dueOfTwo_37 (tgt := 64) (by decide) c5 ?_
              refine k_aload_n C dX12_dueOfTwo_40 0 rfl ?_
              refine k_aload_n C dX12_dueOfTwo_41 0 rfl ?_
              refine k_getr C shR_0 (j := 4) rfl FL_X12_22 dX12_dueOfTwo_42 ?_
              refine k_iload C dX12_dueOfTwo_45 5 rfl ?_
              obtain ⟨t6, ht6, hf⟩ := bnd hf
              refine k_iald C shR_5 ht6 dX12_dueOfTwo_47 ?_
              refine k_aload_n C dX12_dueOfTwo_48 0 rfl ?_
              refine k_getr C shR_0 (j := 4) rfl FL_X12_22 dX12_dueOfTwo_49 ?_
              refine k_iload_n C dX12_dueOfTwo_52 3 rfl ?_
              obtain ⟨t7, ht7, hf⟩ := bnd hf
              refine k_iald C shR_5 ht7 dX12_dueOfTwo_53 ?_
              obtain ⟨t8, ht8, hf⟩ := bnd hf
              refine k_callVi C (As := [.int t6, .int t7]) (c_X12_areSame hap t6 t7 M0 t8 ht8) ML_X12_areSame wd_1459 shR_0 rfl rfl rfl ⟨Nat.le_of_ble_eq_true rfl, Nat.le_of_ble_eq_true rfl⟩ (Nat.le_of_ble_eq_true rfl) dX12_dueOfTwo_54 ?_
              have hj9 : K p l e (k_rm 2 44) s m args below meth c 6 G shR (MQ below (k_Qi G shR r M0) args s 0 0 (k_A G shR.length)) 65 [(0, .ref (G.2.1 0)), (1, .int v1), (2, .int v2), (3, .int v3), (4, .int v4), (5, .int v5)] [.int (if t8 = 0 then (0 : Int32) else (1 : Int32)), .int v4] M0 := by
                refine k_iadd C dX12_dueOfTwo_65 ?_
                refine k_istore C dX12_dueOfTwo_66 (by decide) [1, 2, 3, 4, 0, 5] (lv' := [(0, .ref (G.2.1 0)), (1, .int v1), (2, .int v2), (3, .int v3), (4, .int (v4 + (if t8 = 0 then (0 : Int32) else (1 : Int32)))), (5, .int v5)]) rfl ?_
                refine k_iinc C dX12_dueOfTwo_68 5 rfl (v := (v5 + (1 : Int32))) rfl (by decide) [1, 2, 3, 4, 5, 0] (lv' := [(0, .ref (G.2.1 0)), (1, .int v1), (2, .int v2), (3, .int v3), (4, .int (v4 + (if t8 = 0 then (0 : Int32) else (1 : Int32)))), (5, .int (v5 + (1 : Int32)))]) rfl ?_
                refine k_goto C dX12_dueOfTwo_71 (tgt := 18) (by decide) ?_
                exact ih18 v1 v2 v3 (v4 + (if t8 = 0 then (0 : Int32) else (1 : Int32))) (v5 + (1 : Int32)) hf
              by_cases c10 : t8 = 0
              · refine k_if_eq_t C dX12_dueOfTwo_57 (tgt := 64) (by decide) c10 ?_
                refine k_iconst C dX12_dueOfTwo_64 (v := (0 : Int32)) rfl ?_
                exact k_val (by rw [if_pos c10]) hj9
              · refine k_if_eq_f C dX12_dueOfTwo_57 (tgt := 64) (by decide) c10 ?_
                refine k_iconst C dX12_dueOfTwo_60 (v := (1 : Int32)) rfl ?_
                refine k_goto C dX12_dueOfTwo_61 (tgt := 65) (by decide) ?_
                exact k_val (by rw [if_neg c10]) hj9
            · refine k_icmp_ne_t C dX12_dueOfTwo_37 (tgt := 64) (by decide) c5 ?_
              refine k_iconst C dX12_dueOfTwo_64 (v := (0 : Int32)) rfl ?_
              refine k_iadd C dX12_dueOfTwo_65 ?_
              refine k_istore C dX12_dueOfTwo_66 (by decide) [1, 2, 3, 4, 0, 5] (lv' := [(0, .ref (G.2.1 0)), (1, .int v1), (2, .int v2), (3, .int v3), (4, .int (v4 + (0 : Int32))), (5, .int v5)]) rfl ?_
              refine k_iinc C dX12_dueOfTwo_68 5 rfl (v := (v5 + (1 : Int32))) rfl (by decide) [1, 2, 3, 4, 5, 0] (lv' := [(0, .ref (G.2.1 0)), (1, .int v1), (2, .int v2), (3, .int v3), (4, .int (v4 + (0 : Int32))), (5, .int (v5 + (1 : Int32)))]) rfl ?_
              refine k_goto C dX12_dueOfTwo_71 (tgt := 18) (by decide) ?_
              exact ih18 v1 v2 v3 (v4 + (0 : Int32)) (v5 + (1 : Int32)) hf
      intro v1 v2 v3 hf
      unfold f_X12_dueOfTwo_b4 at hf
      refine k_iload_n C dX12_dueOfTwo_4 3 rfl ?_
      refine k_aload_n C dX12_dueOfTwo_5 0 rfl ?_
      refine k_geti C shR_0 (j := 6) rfl FL_X12_108 dX12_dueOfTwo_6 ?_
      rcases ite_g hf with ⟨c1, hf⟩ | ⟨c1, hf⟩
      · refine k_icmp_ge_t C dX12_dueOfTwo_9 (tgt := 95) (by decide) c1 ?_
        refine k_iload_n C dX12_dueOfTwo_95 2 rfl ?_
        exact k_iret C hr hlk (Option.some.inj hf) rfl dX12_dueOfTwo_96
      · refine k_icmp_ge_f C dX12_dueOfTwo_9 (tgt := 95) (by decide) c1 ?_
        refine k_iconst C dX12_dueOfTwo_12 (v := (0 : Int32)) rfl ?_
        refine k_istore C dX12_dueOfTwo_13 (by decide) [1, 2, 3, 4, 0] (lv' := [(0, .ref (G.2.1 0)), (1, .int v1), (2, .int v2), (3, .int v3), (4, .int (0 : Int32))]) rfl ?_
        refine k_iconst C dX12_dueOfTwo_15 (v := (0 : Int32)) rfl ?_
        refine k_istore C dX12_dueOfTwo_16 (by decide) [1, 2, 3, 4, 5, 0] (lv' := [(0, .ref (G.2.1 0)), (1, .int v1), (2, .int v2), (3, .int v3), (4, .int (0 : Int32)), (5, .int (0 : Int32))]) rfl ?_
        exact k_b18 FU v1 v2 v3 (0 : Int32) (0 : Int32) hf
  unfold f_X12_dueOfTwo at hf
  refine k_lv (lv' := [(0, .ref (G.2.1 0)), (1, .int v1)]) [0, 1] rfl ?_
  refine k_iconst C dX12_dueOfTwo_0 (v := (0 : Int32)) rfl ?_
  refine k_istore_n C dX12_dueOfTwo_1 (by decide) [1, 2, 0] (lv' := [(0, .ref (G.2.1 0)), (1, .int v1), (2, .int (0 : Int32))]) rfl ?_
  refine k_iconst C dX12_dueOfTwo_2 (v := (0 : Int32)) rfl ?_
  refine k_istore_n C dX12_dueOfTwo_3 (by decide) [1, 2, 3, 0] (lv' := [(0, .ref (G.2.1 0)), (1, .int v1), (2, .int (0 : Int32)), (3, .int (0 : Int32))]) rfl ?_
  exact k_b4 FU v1 (0 : Int32) (0 : Int32) hf
theorem dX12_shared_0 : decode cX12_shared 0 = .ok (.iload_n 1, 1) := by decide +kernel
theorem dX12_shared_1 : decode cX12_shared 1 = .ok (.iconst 0, 1) := by decide +kernel
theorem dX12_shared_2 : decode cX12_shared 2 = .ok (.iconst 1, 1) := by decide +kernel
theorem dX12_shared_3 : decode cX12_shared 3 = .ok (.invokestatic 86, 3) := by decide +kernel
theorem dX12_shared_6 : decode cX12_shared 6 = .ok (.ifCond .ne 10, 3) := by decide +kernel
theorem dX12_shared_9 : decode cX12_shared 9 = .ok (.aload_n 0, 1) := by decide +kernel
theorem dX12_shared_10 : decode cX12_shared 10 = .ok (.bipush (-2), 2) := by decide +kernel
theorem dX12_shared_12 : decode cX12_shared 12 = .ok (.invokevirtual 75, 3) := by decide +kernel
theorem dX12_shared_15 : decode cX12_shared 15 = .ok (.ireturn, 1) := by decide +kernel
theorem dX12_shared_16 : decode cX12_shared 16 = .ok (.iconst 0, 1) := by decide +kernel
theorem dX12_shared_17 : decode cX12_shared 17 = .ok (.istore_n 2, 1) := by decide +kernel
theorem dX12_shared_18 : decode cX12_shared 18 = .ok (.aload_n 0, 1) := by decide +kernel
theorem dX12_shared_19 : decode cX12_shared 19 = .ok (.iconst 0, 1) := by decide +kernel
theorem dX12_shared_20 : decode cX12_shared 20 = .ok (.invokevirtual 220, 3) := by decide +kernel
theorem dX12_shared_23 : decode cX12_shared 23 = .ok (.istore_n 3, 1) := by decide +kernel
theorem dX12_shared_24 : decode cX12_shared 24 = .ok (.iconst 1, 1) := by decide +kernel
theorem dX12_shared_25 : decode cX12_shared 25 = .ok (.istore 4, 2) := by decide +kernel
theorem dX12_shared_27 : decode cX12_shared 27 = .ok (.iload 4, 2) := by decide +kernel
theorem dX12_shared_29 : decode cX12_shared 29 = .ok (.iconst 1, 1) := by decide +kernel
theorem dX12_shared_30 : decode cX12_shared 30 = .ok (.aload_n 0, 1) := by decide +kernel
theorem dX12_shared_31 : decode cX12_shared 31 = .ok (.getfield 108, 3) := by decide +kernel
theorem dX12_shared_34 : decode cX12_shared 34 = .ok (.ishl, 1) := by decide +kernel
theorem dX12_shared_35 : decode cX12_shared 35 = .ok (.if_icmp .ge 32, 3) := by decide +kernel
theorem dX12_shared_38 : decode cX12_shared 38 = .ok (.aload_n 0, 1) := by decide +kernel
theorem dX12_shared_39 : decode cX12_shared 39 = .ok (.iload 4, 2) := by decide +kernel
theorem dX12_shared_41 : decode cX12_shared 41 = .ok (.invokevirtual 220, 3) := by decide +kernel
theorem dX12_shared_44 : decode cX12_shared 44 = .ok (.istore 5, 2) := by decide +kernel
theorem dX12_shared_46 : decode cX12_shared 46 = .ok (.iload 5, 2) := by decide +kernel
theorem dX12_shared_48 : decode cX12_shared 48 = .ok (.iload_n 3, 1) := by decide +kernel
theorem dX12_shared_49 : decode cX12_shared 49 = .ok (.if_icmp .lt 6, 3) := by decide +kernel
theorem dX12_shared_52 : decode cX12_shared 52 = .ok (.goto 9, 3) := by decide +kernel
theorem dX12_shared_55 : decode cX12_shared 55 = .ok (.iload 4, 2) := by decide +kernel
theorem dX12_shared_57 : decode cX12_shared 57 = .ok (.istore_n 2, 1) := by decide +kernel
theorem dX12_shared_58 : decode cX12_shared 58 = .ok (.iload 5, 2) := by decide +kernel
theorem dX12_shared_60 : decode cX12_shared 60 = .ok (.istore_n 3, 1) := by decide +kernel
theorem dX12_shared_61 : decode cX12_shared 61 = .ok (.iinc 4 1, 3) := by decide +kernel
theorem dX12_shared_64 : decode cX12_shared 64 = .ok (.goto (-37), 3) := by decide +kernel
theorem dX12_shared_67 : decode cX12_shared 67 = .ok (.iload_n 1, 1) := by decide +kernel
theorem dX12_shared_68 : decode cX12_shared 68 = .ok (.ifCond .ne 7, 3) := by decide +kernel
theorem dX12_shared_71 : decode cX12_shared 71 = .ok (.iload_n 3, 1) := by decide +kernel
theorem dX12_shared_72 : decode cX12_shared 72 = .ok (.goto 4, 3) := by decide +kernel
theorem dX12_shared_75 : decode cX12_shared 75 = .ok (.iload_n 2, 1) := by decide +kernel
theorem dX12_shared_76 : decode cX12_shared 76 = .ok (.ireturn, 1) := by decide +kernel
set_option maxRecDepth 100000 in
set_option maxHeartbeats 4000000 in
theorem c_X12_shared {l : Launch} {G : Gx} (hap : k_ap G shR.length) (v1 : Int32) (M0 : Mem) (r : Int32 × Mem) (hf : f_X12_shared v1 M0 = some r) : k_Met l yX12_shared cX12_shared 6 (some .int) 3 69 G shR [.ref (G.2.1 0), .int v1] M0 (k_Qi G shR r.1 r.2) := by
  refine k_Met_of (by decide) hap (Nat.le_of_ble_eq_true rfl) ?_
  intro p e s m args below meth c C hr hlk
  have C : Cx p s m args c cX12_shared RX12 6 G shR := C
  have k_b27 : ∀ (n27 : Nat) (v1 : Int32) (v2 : Int32) (v3 : Int32) (v4 : Int32) (M : Mem), f_X12_shared_b27 n27 v1 v2 v3 v4 M = some r → K p l e (k_rm 3 69) s m args below meth c 6 G shR (MQ below (k_Qi G shR r.1 r.2) args s 0 0 (k_A G shR.length)) 27 [(0, .ref (G.2.1 0)), (1, .int v1), (2, .int v2), (3, .int v3), (4, .int v4)] [] M := by
    intro n27
    induction n27 with
    | zero => intro v1 v2 v3 v4 M hf; simp [f_X12_shared_b27] at hf
    | succ n27 ih27 =>
      intro v1 v2 v3 v4 M hf
      unfold f_X12_shared_b27 at hf
      refine k_iload C dX12_shared_27 4 rfl ?_
      refine k_iconst C dX12_shared_29 (v := (1 : Int32)) rfl ?_
      refine k_aload_n C dX12_shared_30 0 rfl ?_
      refine k_geti C shR_0 (j := 6) rfl FL_X12_108 dX12_shared_31 ?_
      refine k_ishlJ C dX12_shared_34 ?_
      rcases ite_g hf with ⟨c4, hf⟩ | ⟨c4, hf⟩
      · refine k_icmp_ge_t C dX12_shared_35 (tgt := 67) (by decide) c4 ?_
        refine k_iload_n C dX12_shared_67 1 rfl ?_
        rcases ite_g hf with ⟨c5, hf⟩ | ⟨c5, hf⟩
        · refine k_if_ne_f C dX12_shared_68 (tgt := 75) (by decide) c5 ?_
          refine k_iload_n C dX12_shared_71 3 rfl ?_
          refine k_goto C dX12_shared_72 (tgt := 76) (by decide) ?_
          exact k_iret C hr hlk (prf hf) (prs hf) dX12_shared_76
        · refine k_if_ne_t C dX12_shared_68 (tgt := 75) (by decide) c5 ?_
          refine k_iload_n C dX12_shared_75 2 rfl ?_
          exact k_iret C hr hlk (prf hf) (prs hf) dX12_shared_76
      · refine k_icmp_ge_f C dX12_shared_35 (tgt := 67) (by decide) c4 ?_
        refine k_aload_n C dX12_shared_38 0 rfl ?_
        refine k_iload C dX12_shared_39 4 rfl ?_
        obtain ⟨t6, ht6, hf⟩ := bnd hf
        refine k_callVi C (As := [.int v4]) (c_X12_dueOfTwo hap v4 M t6 ht6) ML_X12_dueOfTwo wd_1605 shR_0 rfl rfl rfl ⟨Nat.le_of_ble_eq_true rfl, Nat.le_of_ble_eq_true rfl⟩ (Nat.le_of_ble_eq_true rfl) dX12_shared_41 ?_
        refine k_istore C dX12_shared_44 (by decide) [1, 2, 3, 4, 5, 0] (lv' := [(0, .ref (G.2.1 0)), (1, .int v1), (2, .int v2), (3, .int v3), (4, .int v4), (5, .int t6)]) rfl ?_
        refine k_iload C dX12_shared_46 5 rfl ?_
        refine k_iload_n C dX12_shared_48 3 rfl ?_
        rcases ite_g hf with ⟨c7, hf⟩ | ⟨c7, hf⟩
        · refine k_icmp_lt_t C dX12_shared_49 (tgt := 55) (by decide) c7 ?_
          refine k_iload C dX12_shared_55 4 rfl ?_
          refine k_istore_n C dX12_shared_57 (by decide) [1, 2, 0, 4, 5] (lv' := [(0, .ref (G.2.1 0)), (1, .int v1), (2, .int v4), (4, .int v4), (5, .int t6)]) rfl ?_
          refine k_iload C dX12_shared_58 4 rfl ?_
          refine k_istore_n C dX12_shared_60 (by decide) [1, 2, 3, 0, 4] (lv' := [(0, .ref (G.2.1 0)), (1, .int v1), (2, .int v4), (3, .int t6), (4, .int v4)]) rfl ?_
          refine k_iinc C dX12_shared_61 4 rfl (v := (v4 + (1 : Int32))) rfl (by decide) [1, 2, 3, 4, 0] (lv' := [(0, .ref (G.2.1 0)), (1, .int v1), (2, .int v4), (3, .int t6), (4, .int (v4 + (1 : Int32)))]) rfl ?_
          refine k_goto C dX12_shared_64 (tgt := 27) (by decide) ?_
          exact ih27 v1 v4 t6 (v4 + (1 : Int32)) M hf
        · refine k_icmp_lt_f C dX12_shared_49 (tgt := 55) (by decide) c7 ?_
          refine k_goto C dX12_shared_52 (tgt := 61) (by decide) ?_
          refine k_iinc C dX12_shared_61 4 rfl (v := (v4 + (1 : Int32))) rfl (by decide) [1, 2, 3, 4, 0] (lv' := [(0, .ref (G.2.1 0)), (1, .int v1), (2, .int v2), (3, .int v3), (4, .int (v4 + (1 : Int32)))]) rfl ?_
          refine k_goto C dX12_shared_64 (tgt := 27) (by decide) ?_
          exact ih27 v1 v2 v3 (v4 + (1 : Int32)) M hf
  unfold f_X12_shared at hf
  refine k_lv (lv' := [(0, .ref (G.2.1 0)), (1, .int v1)]) [0, 1] rfl ?_
  refine k_iload_n C dX12_shared_0 1 rfl ?_
  refine k_iconst C dX12_shared_1 (v := (0 : Int32)) rfl ?_
  refine k_iconst C dX12_shared_2 (v := (1 : Int32)) rfl ?_
  refine k_callSi C (As := [.int v1, .int (0 : Int32), .int (1 : Int32)]) (c_X12_isIn hap v1 (0 : Int32) (1 : Int32) M0 _ rfl) MS_X12_isIn wd_1393 rfl rfl ⟨Nat.le_of_ble_eq_true rfl, Nat.le_of_ble_eq_true rfl⟩ (Nat.le_of_ble_eq_true rfl) dX12_shared_3 ?_
  rcases ite_g hf with ⟨c1, hf⟩ | ⟨c1, hf⟩
  · refine k_if_ne_f C dX12_shared_6 (tgt := 16) (by decide) c1 ?_
    refine k_aload_n C dX12_shared_9 0 rfl ?_
    refine k_bipush C dX12_shared_10 (v := (-2 : Int32)) rfl ?_
    obtain ⟨⟨t8, M8⟩, ht8, hf⟩ := bnd hf
    replace hf := bp_s hf
    refine k_callVi C (As := [.int (-2 : Int32)]) (c_X12_no hap (-2 : Int32) M0 (t8, M8) ht8) ML_X12_no wd_1369 shR_0 rfl rfl rfl ⟨Nat.le_of_ble_eq_true rfl, Nat.le_of_ble_eq_true rfl⟩ (Nat.le_of_ble_eq_true rfl) dX12_shared_12 ?_
    exact k_iret C hr hlk (prf hf) (prs hf) dX12_shared_15
  · refine k_if_ne_t C dX12_shared_6 (tgt := 16) (by decide) c1 ?_
    refine k_iconst C dX12_shared_16 (v := (0 : Int32)) rfl ?_
    refine k_istore_n C dX12_shared_17 (by decide) [1, 2, 0] (lv' := [(0, .ref (G.2.1 0)), (1, .int v1), (2, .int (0 : Int32))]) rfl ?_
    refine k_aload_n C dX12_shared_18 0 rfl ?_
    refine k_iconst C dX12_shared_19 (v := (0 : Int32)) rfl ?_
    obtain ⟨t2, ht2, hf⟩ := bnd hf
    refine k_callVi C (As := [.int (0 : Int32)]) (c_X12_dueOfTwo hap (0 : Int32) M0 t2 ht2) ML_X12_dueOfTwo wd_1605 shR_0 rfl rfl rfl ⟨Nat.le_of_ble_eq_true rfl, Nat.le_of_ble_eq_true rfl⟩ (Nat.le_of_ble_eq_true rfl) dX12_shared_20 ?_
    refine k_istore_n C dX12_shared_23 (by decide) [1, 2, 3, 0] (lv' := [(0, .ref (G.2.1 0)), (1, .int v1), (2, .int (0 : Int32)), (3, .int t2)]) rfl ?_
    refine k_iconst C dX12_shared_24 (v := (1 : Int32)) rfl ?_
    refine k_istore C dX12_shared_25 (by decide) [1, 2, 3, 4, 0] (lv' := [(0, .ref (G.2.1 0)), (1, .int v1), (2, .int (0 : Int32)), (3, .int t2), (4, .int (1 : Int32))]) rfl ?_
    exact k_b27 FU v1 (0 : Int32) t2 (1 : Int32) M0 hf
theorem dX12_savesAt_0 : decode cX12_savesAt 0 = .ok (.aload_n 0, 1) := by decide +kernel
theorem dX12_savesAt_1 : decode cX12_savesAt 1 = .ok (.invokevirtual 199, 3) := by decide +kernel
theorem dX12_savesAt_4 : decode cX12_savesAt 4 = .ok (.aload_n 0, 1) := by decide +kernel
theorem dX12_savesAt_5 : decode cX12_savesAt 5 = .ok (.invokevirtual 173, 3) := by decide +kernel
theorem dX12_savesAt_8 : decode cX12_savesAt 8 = .ok (.istore_n 2, 1) := by decide +kernel
theorem dX12_savesAt_9 : decode cX12_savesAt 9 = .ok (.aload_n 0, 1) := by decide +kernel
theorem dX12_savesAt_10 : decode cX12_savesAt 10 = .ok (.dup, 1) := by decide +kernel
theorem dX12_savesAt_11 : decode cX12_savesAt 11 = .ok (.getfield 108, 3) := by decide +kernel
theorem dX12_savesAt_14 : decode cX12_savesAt 14 = .ok (.iconst 1, 1) := by decide +kernel
theorem dX12_savesAt_15 : decode cX12_savesAt 15 = .ok (.isub, 1) := by decide +kernel
theorem dX12_savesAt_16 : decode cX12_savesAt 16 = .ok (.putfield 108, 3) := by decide +kernel
theorem dX12_savesAt_19 : decode cX12_savesAt 19 = .ok (.iload_n 1, 1) := by decide +kernel
theorem dX12_savesAt_20 : decode cX12_savesAt 20 = .ok (.istore_n 3, 1) := by decide +kernel
theorem dX12_savesAt_21 : decode cX12_savesAt 21 = .ok (.iload_n 3, 1) := by decide +kernel
theorem dX12_savesAt_22 : decode cX12_savesAt 22 = .ok (.aload_n 0, 1) := by decide +kernel
theorem dX12_savesAt_23 : decode cX12_savesAt 23 = .ok (.getfield 108, 3) := by decide +kernel
theorem dX12_savesAt_26 : decode cX12_savesAt 26 = .ok (.if_icmp .ge 23, 3) := by decide +kernel
theorem dX12_savesAt_29 : decode cX12_savesAt 29 = .ok (.aload_n 0, 1) := by decide +kernel
theorem dX12_savesAt_30 : decode cX12_savesAt 30 = .ok (.getfield 22, 3) := by decide +kernel
theorem dX12_savesAt_33 : decode cX12_savesAt 33 = .ok (.iload_n 3, 1) := by decide +kernel
theorem dX12_savesAt_34 : decode cX12_savesAt 34 = .ok (.aload_n 0, 1) := by decide +kernel
theorem dX12_savesAt_35 : decode cX12_savesAt 35 = .ok (.getfield 22, 3) := by decide +kernel
theorem dX12_savesAt_38 : decode cX12_savesAt 38 = .ok (.iload_n 3, 1) := by decide +kernel
theorem dX12_savesAt_39 : decode cX12_savesAt 39 = .ok (.iconst 1, 1) := by decide +kernel
theorem dX12_savesAt_40 : decode cX12_savesAt 40 = .ok (.iadd, 1) := by decide +kernel
theorem dX12_savesAt_41 : decode cX12_savesAt 41 = .ok (.iaload, 1) := by decide +kernel
theorem dX12_savesAt_42 : decode cX12_savesAt 42 = .ok (.iastore, 1) := by decide +kernel
theorem dX12_savesAt_43 : decode cX12_savesAt 43 = .ok (.iinc 3 1, 3) := by decide +kernel
theorem dX12_savesAt_46 : decode cX12_savesAt 46 = .ok (.goto (-25), 3) := by decide +kernel
theorem dX12_savesAt_49 : decode cX12_savesAt 49 = .ok (.iload_n 2, 1) := by decide +kernel
theorem dX12_savesAt_50 : decode cX12_savesAt 50 = .ok (.aload_n 0, 1) := by decide +kernel
theorem dX12_savesAt_51 : decode cX12_savesAt 51 = .ok (.invokevirtual 173, 3) := by decide +kernel
theorem dX12_savesAt_54 : decode cX12_savesAt 54 = .ok (.isub, 1) := by decide +kernel
theorem dX12_savesAt_55 : decode cX12_savesAt 55 = .ok (.istore_n 3, 1) := by decide +kernel
theorem dX12_savesAt_56 : decode cX12_savesAt 56 = .ok (.aload_n 0, 1) := by decide +kernel
theorem dX12_savesAt_57 : decode cX12_savesAt 57 = .ok (.invokevirtual 205, 3) := by decide +kernel
theorem dX12_savesAt_60 : decode cX12_savesAt 60 = .ok (.iload_n 3, 1) := by decide +kernel
theorem dX12_savesAt_61 : decode cX12_savesAt 61 = .ok (.ireturn, 1) := by decide +kernel
set_option maxRecDepth 100000 in
set_option maxHeartbeats 4000000 in
theorem c_X12_savesAt {l : Launch} {G : Gx} (hap : k_ap G shR.length) (v1 : Int32) (M0 : Mem) (r : Int32 × Mem) (hf : f_X12_savesAt v1 M0 = some r) : k_Met l yX12_savesAt cX12_savesAt 4 (some .int) 5 111 G shR [.ref (G.2.1 0), .int v1] M0 (k_Qi G shR r.1 r.2) := by
  refine k_Met_of (by decide) hap (Nat.le_of_ble_eq_true rfl) ?_
  intro p e s m args below meth c C hr hlk
  have C : Cx p s m args c cX12_savesAt RX12 4 G shR := C
  have k_b21 : ∀ (n21 : Nat) (v2 : Int32) (v3 : Int32) (M : Mem), f_X12_savesAt_b21 n21 v2 v3 M = some r → K p l e (k_rm 5 111) s m args below meth c 4 G shR (MQ below (k_Qi G shR r.1 r.2) args s 0 0 (k_A G shR.length)) 21 [(0, .ref (G.2.1 0)), (2, .int v2), (3, .int v3)] [] M := by
    intro n21
    induction n21 with
    | zero => intro v2 v3 M hf; simp [f_X12_savesAt_b21] at hf
    | succ n21 ih21 =>
      intro v2 v3 M hf
      unfold f_X12_savesAt_b21 at hf
      refine k_iload_n C dX12_savesAt_21 2 rfl ?_
      refine k_aload_n C dX12_savesAt_22 0 rfl ?_
      refine k_geti C shR_0 (j := 6) rfl FL_X12_108 dX12_savesAt_23 ?_
      rcases ite_g hf with ⟨c3, hf⟩ | ⟨c3, hf⟩
      · refine k_icmp_ge_t C dX12_savesAt_26 (tgt := 49) (by decide) c3 ?_
        refine k_iload_n C dX12_savesAt_49 1 rfl ?_
        refine k_aload_n C dX12_savesAt_50 0 rfl ?_
        obtain ⟨t4, ht4, hf⟩ := bnd hf
        refine k_callVi C (As := []) (c_X12_all hap M t4 ht4) ML_X12_all wd_1502 shR_0 rfl rfl rfl ⟨Nat.le_of_ble_eq_true rfl, Nat.le_of_ble_eq_true rfl⟩ (Nat.le_of_ble_eq_true rfl) dX12_savesAt_51 ?_
        refine k_isub C dX12_savesAt_54 ?_
        refine k_istore_n C dX12_savesAt_55 (by decide) [1, 0] (lv' := [(0, .ref (G.2.1 0)), (3, .int (v2 - t4))]) rfl ?_
        refine k_aload_n C dX12_savesAt_56 0 rfl ?_
        obtain ⟨M5, hM5, hf⟩ := bnd hf
        refine k_callVv C (As := []) (c_X12_forgets hap M M5 hM5) ML_X12_forgets wd_1574 shR_0 rfl rfl rfl ⟨Nat.le_of_ble_eq_true rfl, Nat.le_of_ble_eq_true rfl⟩ (Nat.le_of_ble_eq_true rfl) dX12_savesAt_57 ?_
        refine k_iload_n C dX12_savesAt_60 1 rfl ?_
        exact k_iret C hr hlk (prf hf) (prs hf) dX12_savesAt_61
      · refine k_icmp_ge_f C dX12_savesAt_26 (tgt := 49) (by decide) c3 ?_
        refine k_aload_n C dX12_savesAt_29 0 rfl ?_
        refine k_getr C shR_0 (j := 4) rfl FL_X12_22 dX12_savesAt_30 ?_
        refine k_iload_n C dX12_savesAt_33 2 rfl ?_
        refine k_aload_n C dX12_savesAt_34 0 rfl ?_
        refine k_getr C shR_0 (j := 4) rfl FL_X12_22 dX12_savesAt_35 ?_
        refine k_iload_n C dX12_savesAt_38 2 rfl ?_
        refine k_iconst C dX12_savesAt_39 (v := (1 : Int32)) rfl ?_
        refine k_iadd C dX12_savesAt_40 ?_
        obtain ⟨t6, ht6, hf⟩ := bnd hf
        refine k_iald C shR_5 ht6 dX12_savesAt_41 ?_
        obtain ⟨M7, hM7, hf⟩ := bnd hf
        refine k_iast C shR_5 hM7 dX12_savesAt_42 ?_
        refine k_iinc C dX12_savesAt_43 2 rfl (v := (v3 + (1 : Int32))) rfl (by decide) [1, 2, 0] (lv' := [(0, .ref (G.2.1 0)), (2, .int v2), (3, .int (v3 + (1 : Int32)))]) rfl ?_
        refine k_goto C dX12_savesAt_46 (tgt := 21) (by decide) ?_
        exact ih21 v2 (v3 + (1 : Int32)) M7 hf
  unfold f_X12_savesAt at hf
  refine k_lv (lv' := [(0, .ref (G.2.1 0)), (1, .int v1)]) [0, 1] rfl ?_
  refine k_aload_n C dX12_savesAt_0 0 rfl ?_
  obtain ⟨M1, hM1, hf⟩ := bnd hf
  refine k_callVv C (As := []) (c_X12_thinks hap M0 M1 hM1) ML_X12_thinks wd_1566 shR_0 rfl rfl rfl ⟨Nat.le_of_ble_eq_true rfl, Nat.le_of_ble_eq_true rfl⟩ (Nat.le_of_ble_eq_true rfl) dX12_savesAt_1 ?_
  refine k_aload_n C dX12_savesAt_4 0 rfl ?_
  obtain ⟨t2, ht2, hf⟩ := bnd hf
  refine k_callVi C (As := []) (c_X12_all hap M1 t2 ht2) ML_X12_all wd_1502 shR_0 rfl rfl rfl ⟨Nat.le_of_ble_eq_true rfl, Nat.le_of_ble_eq_true rfl⟩ (Nat.le_of_ble_eq_true rfl) dX12_savesAt_5 ?_
  refine k_istore_n C dX12_savesAt_8 (by decide) [1, 2, 0] (lv' := [(0, .ref (G.2.1 0)), (1, .int v1), (2, .int t2)]) rfl ?_
  refine k_aload_n C dX12_savesAt_9 0 rfl ?_
  refine k_dup C dX12_savesAt_10 rfl ?_
  refine k_geti C shR_0 (j := 6) rfl FL_X12_108 dX12_savesAt_11 ?_
  refine k_iconst C dX12_savesAt_14 (v := (1 : Int32)) rfl ?_
  refine k_isub C dX12_savesAt_15 ?_
  refine k_put C shR_0 (j := 6) rfl FL_X12_108 FW_X12_6 dX12_savesAt_16 ?_
  refine k_iload_n C dX12_savesAt_19 1 rfl ?_
  refine k_istore_n C dX12_savesAt_20 (by decide) [1, 3, 0] (lv' := [(0, .ref (G.2.1 0)), (2, .int t2), (3, .int v1)]) rfl ?_
  exact k_b21 FU t2 v1 (wI M1 0 6 ((M1.1 0 6) - (1 : Int32))) hf
theorem dX12_saves_0 : decode cX12_saves 0 = .ok (.iload_n 1, 1) := by decide +kernel
theorem dX12_saves_1 : decode cX12_saves 1 = .ok (.iconst (-1), 1) := by decide +kernel
theorem dX12_saves_2 : decode cX12_saves 2 = .ok (.if_icmp .eq 17, 3) := by decide +kernel
theorem dX12_saves_5 : decode cX12_saves 5 = .ok (.aload_n 0, 1) := by decide +kernel
theorem dX12_saves_6 : decode cX12_saves 6 = .ok (.iload_n 1, 1) := by decide +kernel
theorem dX12_saves_7 : decode cX12_saves 7 = .ok (.invokevirtual 170, 3) := by decide +kernel
theorem dX12_saves_10 : decode cX12_saves 10 = .ok (.ifCond .ne 9, 3) := by decide +kernel
theorem dX12_saves_13 : decode cX12_saves 13 = .ok (.aload_n 0, 1) := by decide +kernel
theorem dX12_saves_14 : decode cX12_saves 14 = .ok (.iconst (-1), 1) := by decide +kernel
theorem dX12_saves_15 : decode cX12_saves 15 = .ok (.invokevirtual 75, 3) := by decide +kernel
theorem dX12_saves_18 : decode cX12_saves 18 = .ok (.ireturn, 1) := by decide +kernel
theorem dX12_saves_19 : decode cX12_saves 19 = .ok (.iload_n 1, 1) := by decide +kernel
theorem dX12_saves_20 : decode cX12_saves 20 = .ok (.ifCond .lt 9, 3) := by decide +kernel
theorem dX12_saves_23 : decode cX12_saves 23 = .ok (.aload_n 0, 1) := by decide +kernel
theorem dX12_saves_24 : decode cX12_saves 24 = .ok (.iload_n 1, 1) := by decide +kernel
theorem dX12_saves_25 : decode cX12_saves 25 = .ok (.invokevirtual 223, 3) := by decide +kernel
theorem dX12_saves_28 : decode cX12_saves 28 = .ok (.ireturn, 1) := by decide +kernel
theorem dX12_saves_29 : decode cX12_saves 29 = .ok (.aload_n 0, 1) := by decide +kernel
theorem dX12_saves_30 : decode cX12_saves 30 = .ok (.getfield 108, 3) := by decide +kernel
theorem dX12_saves_33 : decode cX12_saves 33 = .ok (.ifCond .ne 8, 3) := by decide +kernel
theorem dX12_saves_36 : decode cX12_saves 36 = .ok (.bipush (-9), 2) := by decide +kernel
theorem dX12_saves_38 : decode cX12_saves 38 = .ok (.goto 4, 3) := by decide +kernel
theorem dX12_saves_41 : decode cX12_saves 41 = .ok (.iconst 0, 1) := by decide +kernel
theorem dX12_saves_42 : decode cX12_saves 42 = .ok (.istore_n 2, 1) := by decide +kernel
theorem dX12_saves_43 : decode cX12_saves 43 = .ok (.iconst 1, 1) := by decide +kernel
theorem dX12_saves_44 : decode cX12_saves 44 = .ok (.istore_n 3, 1) := by decide +kernel
theorem dX12_saves_45 : decode cX12_saves 45 = .ok (.iload_n 3, 1) := by decide +kernel
theorem dX12_saves_46 : decode cX12_saves 46 = .ok (.aload_n 0, 1) := by decide +kernel
theorem dX12_saves_47 : decode cX12_saves 47 = .ok (.getfield 108, 3) := by decide +kernel
theorem dX12_saves_50 : decode cX12_saves 50 = .ok (.if_icmp .ge 28, 3) := by decide +kernel
theorem dX12_saves_53 : decode cX12_saves 53 = .ok (.aload_n 0, 1) := by decide +kernel
theorem dX12_saves_54 : decode cX12_saves 54 = .ok (.iload_n 3, 1) := by decide +kernel
theorem dX12_saves_55 : decode cX12_saves 55 = .ok (.invokevirtual 223, 3) := by decide +kernel
theorem dX12_saves_58 : decode cX12_saves 58 = .ok (.aload_n 0, 1) := by decide +kernel
theorem dX12_saves_59 : decode cX12_saves 59 = .ok (.iload_n 2, 1) := by decide +kernel
theorem dX12_saves_60 : decode cX12_saves 60 = .ok (.invokevirtual 223, 3) := by decide +kernel
theorem dX12_saves_63 : decode cX12_saves 63 = .ok (.if_icmp .le 7, 3) := by decide +kernel
theorem dX12_saves_66 : decode cX12_saves 66 = .ok (.iload_n 3, 1) := by decide +kernel
theorem dX12_saves_67 : decode cX12_saves 67 = .ok (.goto 4, 3) := by decide +kernel
theorem dX12_saves_70 : decode cX12_saves 70 = .ok (.iload_n 2, 1) := by decide +kernel
theorem dX12_saves_71 : decode cX12_saves 71 = .ok (.istore_n 2, 1) := by decide +kernel
theorem dX12_saves_72 : decode cX12_saves 72 = .ok (.iinc 3 1, 3) := by decide +kernel
theorem dX12_saves_75 : decode cX12_saves 75 = .ok (.goto (-30), 3) := by decide +kernel
theorem dX12_saves_78 : decode cX12_saves 78 = .ok (.iload_n 2, 1) := by decide +kernel
theorem dX12_saves_79 : decode cX12_saves 79 = .ok (.ireturn, 1) := by decide +kernel
set_option maxRecDepth 100000 in
set_option maxHeartbeats 4000000 in
theorem c_X12_saves {l : Launch} {G : Gx} (hap : k_ap G shR.length) (v1 : Int32) (M0 : Mem) (r : Int32 × Mem) (hf : f_X12_saves v1 M0 = some r) : k_Met l yX12_saves cX12_saves 4 (some .int) 6 134 G shR [.ref (G.2.1 0), .int v1] M0 (k_Qi G shR r.1 r.2) := by
  refine k_Met_of (by decide) hap (Nat.le_of_ble_eq_true rfl) ?_
  intro p e s m args below meth c C hr hlk
  have C : Cx p s m args c cX12_saves RX12 4 G shR := C
  have k_b45 : ∀ (n45 : Nat) (v2 : Int32) (v3 : Int32) (M : Mem), f_X12_saves_b45 n45 v2 v3 M = some r → K p l e (k_rm 6 134) s m args below meth c 4 G shR (MQ below (k_Qi G shR r.1 r.2) args s 0 0 (k_A G shR.length)) 45 [(0, .ref (G.2.1 0)), (2, .int v2), (3, .int v3)] [] M := by
    intro n45
    induction n45 with
    | zero => intro v2 v3 M hf; simp [f_X12_saves_b45] at hf
    | succ n45 ih45 =>
      intro v2 v3 M hf
      unfold f_X12_saves_b45 at hf
      refine k_iload_n C dX12_saves_45 2 rfl ?_
      refine k_aload_n C dX12_saves_46 0 rfl ?_
      refine k_geti C shR_0 (j := 6) rfl FL_X12_108 dX12_saves_47 ?_
      rcases ite_g hf with ⟨c4, hf⟩ | ⟨c4, hf⟩
      · refine k_icmp_ge_t C dX12_saves_50 (tgt := 78) (by decide) c4 ?_
        refine k_iload_n C dX12_saves_78 1 rfl ?_
        exact k_iret C hr hlk (prf hf) (prs hf) dX12_saves_79
      · refine k_icmp_ge_f C dX12_saves_50 (tgt := 78) (by decide) c4 ?_
        refine k_aload_n C dX12_saves_53 0 rfl ?_
        refine k_iload_n C dX12_saves_54 2 rfl ?_
        obtain ⟨⟨t5, M5⟩, ht5, hf⟩ := bnd hf
        replace hf := bp_s hf
        refine k_callVi C (As := [.int v3]) (c_X12_savesAt hap v3 M (t5, M5) ht5) ML_X12_savesAt wd_1613 shR_0 rfl rfl rfl ⟨Nat.le_of_ble_eq_true rfl, Nat.le_of_ble_eq_true rfl⟩ (Nat.le_of_ble_eq_true rfl) dX12_saves_55 ?_
        refine k_aload_n C dX12_saves_58 0 rfl ?_
        refine k_iload_n C dX12_saves_59 1 rfl ?_
        obtain ⟨⟨t6, M6⟩, ht6, hf⟩ := bnd hf
        replace hf := bp_s hf
        refine k_callVi C (As := [.int v2]) (c_X12_savesAt hap v2 M5 (t6, M6) ht6) ML_X12_savesAt wd_1613 shR_0 rfl rfl rfl ⟨Nat.le_of_ble_eq_true rfl, Nat.le_of_ble_eq_true rfl⟩ (Nat.le_of_ble_eq_true rfl) dX12_saves_60 ?_
        have hj7 : K p l e (k_rm 6 134) s m args below meth c 4 G shR (MQ below (k_Qi G shR r.1 r.2) args s 0 0 (k_A G shR.length)) 71 [(0, .ref (G.2.1 0)), (2, .int v2), (3, .int v3)] [.int (if t5 ≤ t6 then v2 else v3)] M6 := by
          refine k_istore_n C dX12_saves_71 (by decide) [1, 0, 2] (lv' := [(0, .ref (G.2.1 0)), (2, .int (if t5 ≤ t6 then v2 else v3)), (3, .int v3)]) rfl ?_
          refine k_iinc C dX12_saves_72 2 rfl (v := (v3 + (1 : Int32))) rfl (by decide) [1, 2, 0] (lv' := [(0, .ref (G.2.1 0)), (2, .int (if t5 ≤ t6 then v2 else v3)), (3, .int (v3 + (1 : Int32)))]) rfl ?_
          refine k_goto C dX12_saves_75 (tgt := 45) (by decide) ?_
          exact ih45 (if t5 ≤ t6 then v2 else v3) (v3 + (1 : Int32)) M6 hf
        by_cases c8 : t5 ≤ t6
        · refine k_icmp_le_t C dX12_saves_63 (tgt := 70) (by decide) c8 ?_
          refine k_iload_n C dX12_saves_70 1 rfl ?_
          exact k_val (by rw [if_pos c8]) hj7
        · refine k_icmp_le_f C dX12_saves_63 (tgt := 70) (by decide) c8 ?_
          refine k_iload_n C dX12_saves_66 2 rfl ?_
          refine k_goto C dX12_saves_67 (tgt := 71) (by decide) ?_
          exact k_val (by rw [if_neg c8]) hj7
  have k_b19 : ∀ (v1 : Int32) (M : Mem), f_X12_saves_b19 v1 M = some r → K p l e (k_rm 6 134) s m args below meth c 4 G shR (MQ below (k_Qi G shR r.1 r.2) args s 0 0 (k_A G shR.length)) 19 [(0, .ref (G.2.1 0)), (1, .int v1)] [] M := by
    intro v1 M hf
    unfold f_X12_saves_b19 at hf
    refine k_iload_n C dX12_saves_19 1 rfl ?_
    rcases ite_g hf with ⟨c2, hf⟩ | ⟨c2, hf⟩
    · refine k_if_lt_t C dX12_saves_20 (tgt := 29) (by decide) c2 ?_
      refine k_aload_n C dX12_saves_29 0 rfl ?_
      refine k_geti C shR_0 (j := 6) rfl FL_X12_108 dX12_saves_30 ?_
      have hj9 : K p l e (k_rm 6 134) s m args below meth c 4 G shR (MQ below (k_Qi G shR r.1 r.2) args s 0 0 (k_A G shR.length)) 42 [(0, .ref (G.2.1 0)), (1, .int v1)] [.int (if (M.1 0 6) = 0 then (-9 : Int32) else (0 : Int32))] M := by
        refine k_istore_n C dX12_saves_42 (by decide) [1, 0] (lv' := [(0, .ref (G.2.1 0)), (2, .int (if (M.1 0 6) = 0 then (-9 : Int32) else (0 : Int32)))]) rfl ?_
        refine k_iconst C dX12_saves_43 (v := (1 : Int32)) rfl ?_
        refine k_istore_n C dX12_saves_44 (by decide) [1, 2, 0] (lv' := [(0, .ref (G.2.1 0)), (2, .int (if (M.1 0 6) = 0 then (-9 : Int32) else (0 : Int32))), (3, .int (1 : Int32))]) rfl ?_
        exact k_b45 FU (if (M.1 0 6) = 0 then (-9 : Int32) else (0 : Int32)) (1 : Int32) M hf
      by_cases c10 : (M.1 0 6) = 0
      · refine k_if_ne_f C dX12_saves_33 (tgt := 41) (by decide) c10 ?_
        refine k_bipush C dX12_saves_36 (v := (-9 : Int32)) rfl ?_
        refine k_goto C dX12_saves_38 (tgt := 42) (by decide) ?_
        exact k_val (by rw [if_pos c10]) hj9
      · refine k_if_ne_t C dX12_saves_33 (tgt := 41) (by decide) c10 ?_
        refine k_iconst C dX12_saves_41 (v := (0 : Int32)) rfl ?_
        exact k_val (by rw [if_neg c10]) hj9
    · refine k_if_lt_f C dX12_saves_20 (tgt := 29) (by decide) c2 ?_
      refine k_aload_n C dX12_saves_23 0 rfl ?_
      refine k_iload_n C dX12_saves_24 1 rfl ?_
      obtain ⟨⟨t11, M11⟩, ht11, hf⟩ := bnd hf
      replace hf := bp_s hf
      refine k_callVi C (As := [.int v1]) (c_X12_savesAt hap v1 M (t11, M11) ht11) ML_X12_savesAt wd_1613 shR_0 rfl rfl rfl ⟨Nat.le_of_ble_eq_true rfl, Nat.le_of_ble_eq_true rfl⟩ (Nat.le_of_ble_eq_true rfl) dX12_saves_25 ?_
      exact k_iret C hr hlk (prf hf) (prs hf) dX12_saves_28
  unfold f_X12_saves at hf
  refine k_lv (lv' := [(0, .ref (G.2.1 0)), (1, .int v1)]) [0, 1] rfl ?_
  refine k_iload_n C dX12_saves_0 1 rfl ?_
  refine k_iconst C dX12_saves_1 (v := (-1 : Int32)) rfl ?_
  rcases ite_g hf with ⟨c1, hf⟩ | ⟨c1, hf⟩
  · refine k_icmp_eq_t C dX12_saves_2 (tgt := 19) (by decide) c1 ?_
    exact k_b19 v1 M0 hf
  · refine k_icmp_eq_f C dX12_saves_2 (tgt := 19) (by decide) c1 ?_
    refine k_aload_n C dX12_saves_5 0 rfl ?_
    refine k_iload_n C dX12_saves_6 1 rfl ?_
    refine k_callVi C (As := [.int v1]) (c_X12_isPlace hap v1 M0 _ rfl) ML_X12_isPlace wd_1494 shR_0 rfl rfl rfl ⟨Nat.le_of_ble_eq_true rfl, Nat.le_of_ble_eq_true rfl⟩ (Nat.le_of_ble_eq_true rfl) dX12_saves_7 ?_
    rcases ite_g hf with ⟨c12, hf⟩ | ⟨c12, hf⟩
    · refine k_if_ne_f C dX12_saves_10 (tgt := 19) (by decide) c12 ?_
      refine k_aload_n C dX12_saves_13 0 rfl ?_
      refine k_iconst C dX12_saves_14 (v := (-1 : Int32)) rfl ?_
      obtain ⟨⟨t13, M13⟩, ht13, hf⟩ := bnd hf
      replace hf := bp_s hf
      refine k_callVi C (As := [.int (-1 : Int32)]) (c_X12_no hap (-1 : Int32) M0 (t13, M13) ht13) ML_X12_no wd_1369 shR_0 rfl rfl rfl ⟨Nat.le_of_ble_eq_true rfl, Nat.le_of_ble_eq_true rfl⟩ (Nat.le_of_ble_eq_true rfl) dX12_saves_15 ?_
      exact k_iret C hr hlk (prf hf) (prs hf) dX12_saves_18
    · refine k_if_ne_t C dX12_saves_10 (tgt := 19) (by decide) c12 ?_
      exact k_b19 v1 M0 hf
theorem dX12_exchanges_0 : decode cX12_exchanges 0 = .ok (.aload_n 0, 1) := by decide +kernel
theorem dX12_exchanges_1 : decode cX12_exchanges 1 = .ok (.getfield 22, 3) := by decide +kernel
theorem dX12_exchanges_4 : decode cX12_exchanges 4 = .ok (.iload_n 1, 1) := by decide +kernel
theorem dX12_exchanges_5 : decode cX12_exchanges 5 = .ok (.iaload, 1) := by decide +kernel
theorem dX12_exchanges_6 : decode cX12_exchanges 6 = .ok (.istore_n 3, 1) := by decide +kernel
theorem dX12_exchanges_7 : decode cX12_exchanges 7 = .ok (.aload_n 0, 1) := by decide +kernel
theorem dX12_exchanges_8 : decode cX12_exchanges 8 = .ok (.getfield 22, 3) := by decide +kernel
theorem dX12_exchanges_11 : decode cX12_exchanges 11 = .ok (.iload_n 1, 1) := by decide +kernel
theorem dX12_exchanges_12 : decode cX12_exchanges 12 = .ok (.aload_n 0, 1) := by decide +kernel
theorem dX12_exchanges_13 : decode cX12_exchanges 13 = .ok (.getfield 22, 3) := by decide +kernel
theorem dX12_exchanges_16 : decode cX12_exchanges 16 = .ok (.iload_n 2, 1) := by decide +kernel
theorem dX12_exchanges_17 : decode cX12_exchanges 17 = .ok (.iaload, 1) := by decide +kernel
theorem dX12_exchanges_18 : decode cX12_exchanges 18 = .ok (.iastore, 1) := by decide +kernel
theorem dX12_exchanges_19 : decode cX12_exchanges 19 = .ok (.aload_n 0, 1) := by decide +kernel
theorem dX12_exchanges_20 : decode cX12_exchanges 20 = .ok (.getfield 22, 3) := by decide +kernel
theorem dX12_exchanges_23 : decode cX12_exchanges 23 = .ok (.iload_n 2, 1) := by decide +kernel
theorem dX12_exchanges_24 : decode cX12_exchanges 24 = .ok (.iload_n 3, 1) := by decide +kernel
theorem dX12_exchanges_25 : decode cX12_exchanges 25 = .ok (.iastore, 1) := by decide +kernel
theorem dX12_exchanges_26 : decode cX12_exchanges 26 = .ok (.return_, 1) := by decide +kernel
set_option maxRecDepth 100000 in
set_option maxHeartbeats 4000000 in
theorem c_X12_exchanges {l : Launch} {G : Gx} (hap : k_ap G shR.length) (v1 : Int32) (v2 : Int32) (M0 : Mem) (r : Mem) (hf : f_X12_exchanges v1 v2 M0 = some r) : k_Met l yX12_exchanges cX12_exchanges 4 none 0 0 G shR [.ref (G.2.1 0), .int v1, .int v2] M0 (k_Qv G shR r) := by
  refine k_Met_of (by decide) hap (Nat.le_of_ble_eq_true rfl) ?_
  intro p e s m args below meth c C hr hlk
  have C : Cx p s m args c cX12_exchanges RX12 4 G shR := C
  unfold f_X12_exchanges at hf
  refine k_lv (lv' := [(0, .ref (G.2.1 0)), (1, .int v1), (2, .int v2)]) [0, 1, 2] rfl ?_
  refine k_aload_n C dX12_exchanges_0 0 rfl ?_
  refine k_getr C shR_0 (j := 4) rfl FL_X12_22 dX12_exchanges_1 ?_
  refine k_iload_n C dX12_exchanges_4 1 rfl ?_
  obtain ⟨t1, ht1, hf⟩ := bnd hf
  refine k_iald C shR_5 ht1 dX12_exchanges_5 ?_
  refine k_istore_n C dX12_exchanges_6 (by decide) [1, 2, 3, 0] (lv' := [(0, .ref (G.2.1 0)), (1, .int v1), (2, .int v2), (3, .int t1)]) rfl ?_
  refine k_aload_n C dX12_exchanges_7 0 rfl ?_
  refine k_getr C shR_0 (j := 4) rfl FL_X12_22 dX12_exchanges_8 ?_
  refine k_iload_n C dX12_exchanges_11 1 rfl ?_
  refine k_aload_n C dX12_exchanges_12 0 rfl ?_
  refine k_getr C shR_0 (j := 4) rfl FL_X12_22 dX12_exchanges_13 ?_
  refine k_iload_n C dX12_exchanges_16 2 rfl ?_
  obtain ⟨t2, ht2, hf⟩ := bnd hf
  refine k_iald C shR_5 ht2 dX12_exchanges_17 ?_
  obtain ⟨M3, hM3, hf⟩ := bnd hf
  refine k_iast C shR_5 hM3 dX12_exchanges_18 ?_
  refine k_aload_n C dX12_exchanges_19 0 rfl ?_
  refine k_getr C shR_0 (j := 4) rfl FL_X12_22 dX12_exchanges_20 ?_
  refine k_iload_n C dX12_exchanges_23 2 rfl ?_
  refine k_iload_n C dX12_exchanges_24 3 rfl ?_
  obtain ⟨M4, hM4, hf⟩ := bnd hf
  refine k_iast C shR_5 hM4 dX12_exchanges_25 ?_
  exact k_vret C hr hlk (Option.some.inj hf) dX12_exchanges_26
theorem dX12_turned_0 : decode cX12_turned 0 = .ok (.aload_n 0, 1) := by decide +kernel
theorem dX12_turned_1 : decode cX12_turned 1 = .ok (.invokevirtual 199, 3) := by decide +kernel
theorem dX12_turned_4 : decode cX12_turned 4 = .ok (.iconst 0, 1) := by decide +kernel
theorem dX12_turned_5 : decode cX12_turned 5 = .ok (.istore_n 1, 1) := by decide +kernel
theorem dX12_turned_6 : decode cX12_turned 6 = .ok (.iload_n 1, 1) := by decide +kernel
theorem dX12_turned_7 : decode cX12_turned 7 = .ok (.aload_n 0, 1) := by decide +kernel
theorem dX12_turned_8 : decode cX12_turned 8 = .ok (.getfield 108, 3) := by decide +kernel
theorem dX12_turned_11 : decode cX12_turned 11 = .ok (.iconst 2, 1) := by decide +kernel
theorem dX12_turned_12 : decode cX12_turned 12 = .ok (.idiv, 1) := by decide +kernel
theorem dX12_turned_13 : decode cX12_turned 13 = .ok (.if_icmp .ge 22, 3) := by decide +kernel
theorem dX12_turned_16 : decode cX12_turned 16 = .ok (.aload_n 0, 1) := by decide +kernel
theorem dX12_turned_17 : decode cX12_turned 17 = .ok (.iload_n 1, 1) := by decide +kernel
theorem dX12_turned_18 : decode cX12_turned 18 = .ok (.aload_n 0, 1) := by decide +kernel
theorem dX12_turned_19 : decode cX12_turned 19 = .ok (.getfield 108, 3) := by decide +kernel
theorem dX12_turned_22 : decode cX12_turned 22 = .ok (.iconst 1, 1) := by decide +kernel
theorem dX12_turned_23 : decode cX12_turned 23 = .ok (.isub, 1) := by decide +kernel
theorem dX12_turned_24 : decode cX12_turned 24 = .ok (.iload_n 1, 1) := by decide +kernel
theorem dX12_turned_25 : decode cX12_turned 25 = .ok (.isub, 1) := by decide +kernel
theorem dX12_turned_26 : decode cX12_turned 26 = .ok (.invokevirtual 226, 3) := by decide +kernel
theorem dX12_turned_29 : decode cX12_turned 29 = .ok (.iinc 1 1, 3) := by decide +kernel
theorem dX12_turned_32 : decode cX12_turned 32 = .ok (.goto (-26), 3) := by decide +kernel
theorem dX12_turned_35 : decode cX12_turned 35 = .ok (.aload_n 0, 1) := by decide +kernel
theorem dX12_turned_36 : decode cX12_turned 36 = .ok (.invokevirtual 173, 3) := by decide +kernel
theorem dX12_turned_39 : decode cX12_turned 39 = .ok (.istore_n 1, 1) := by decide +kernel
theorem dX12_turned_40 : decode cX12_turned 40 = .ok (.aload_n 0, 1) := by decide +kernel
theorem dX12_turned_41 : decode cX12_turned 41 = .ok (.invokevirtual 205, 3) := by decide +kernel
theorem dX12_turned_44 : decode cX12_turned 44 = .ok (.iload_n 1, 1) := by decide +kernel
theorem dX12_turned_45 : decode cX12_turned 45 = .ok (.ireturn, 1) := by decide +kernel
set_option maxRecDepth 100000 in
set_option maxHeartbeats 4000000 in
theorem c_X12_turned {l : Launch} {G : Gx} (hap : k_ap G shR.length) (M0 : Mem) (r : Int32 × Mem) (hf : f_X12_turned M0 = some r) : k_Met l yX12_turned cX12_turned 2 (some .int) 5 111 G shR [.ref (G.2.1 0)] M0 (k_Qi G shR r.1 r.2) := by
  refine k_Met_of (by decide) hap (Nat.le_of_ble_eq_true rfl) ?_
  intro p e s m args below meth c C hr hlk
  have C : Cx p s m args c cX12_turned RX12 2 G shR := C
  have k_b6 : ∀ (n6 : Nat) (v1 : Int32) (M : Mem), f_X12_turned_b6 n6 v1 M = some r → K p l e (k_rm 5 111) s m args below meth c 2 G shR (MQ below (k_Qi G shR r.1 r.2) args s 0 0 (k_A G shR.length)) 6 [(0, .ref (G.2.1 0)), (1, .int v1)] [] M := by
    intro n6
    induction n6 with
    | zero => intro v1 M hf; simp [f_X12_turned_b6] at hf
    | succ n6 ih6 =>
      intro v1 M hf
      unfold f_X12_turned_b6 at hf
      refine k_iload_n C dX12_turned_6 1 rfl ?_
      refine k_aload_n C dX12_turned_7 0 rfl ?_
      refine k_geti C shR_0 (j := 6) rfl FL_X12_108 dX12_turned_8 ?_
      refine k_iconst C dX12_turned_11 (v := (2 : Int32)) rfl ?_
      refine k_idiv C dX12_turned_12 (by decide) ?_
      rcases ite_g hf with ⟨c3, hf⟩ | ⟨c3, hf⟩
      · refine k_icmp_ge_t C dX12_turned_13 (tgt := 35) (by decide) c3 ?_
        refine k_aload_n C dX12_turned_35 0 rfl ?_
        obtain ⟨t4, ht4, hf⟩ := bnd hf
        refine k_callVi C (As := []) (c_X12_all hap M t4 ht4) ML_X12_all wd_1502 shR_0 rfl rfl rfl ⟨Nat.le_of_ble_eq_true rfl, Nat.le_of_ble_eq_true rfl⟩ (Nat.le_of_ble_eq_true rfl) dX12_turned_36 ?_
        refine k_istore_n C dX12_turned_39 (by decide) [1, 0] (lv' := [(0, .ref (G.2.1 0)), (1, .int t4)]) rfl ?_
        refine k_aload_n C dX12_turned_40 0 rfl ?_
        obtain ⟨M5, hM5, hf⟩ := bnd hf
        refine k_callVv C (As := []) (c_X12_forgets hap M M5 hM5) ML_X12_forgets wd_1574 shR_0 rfl rfl rfl ⟨Nat.le_of_ble_eq_true rfl, Nat.le_of_ble_eq_true rfl⟩ (Nat.le_of_ble_eq_true rfl) dX12_turned_41 ?_
        refine k_iload_n C dX12_turned_44 1 rfl ?_
        exact k_iret C hr hlk (prf hf) (prs hf) dX12_turned_45
      · refine k_icmp_ge_f C dX12_turned_13 (tgt := 35) (by decide) c3 ?_
        refine k_aload_n C dX12_turned_16 0 rfl ?_
        refine k_iload_n C dX12_turned_17 1 rfl ?_
        refine k_aload_n C dX12_turned_18 0 rfl ?_
        refine k_geti C shR_0 (j := 6) rfl FL_X12_108 dX12_turned_19 ?_
        refine k_iconst C dX12_turned_22 (v := (1 : Int32)) rfl ?_
        refine k_isub C dX12_turned_23 ?_
        refine k_iload_n C dX12_turned_24 1 rfl ?_
        refine k_isub C dX12_turned_25 ?_
        obtain ⟨M6, hM6, hf⟩ := bnd hf
        refine k_callVv C (As := [.int v1, .int (((M.1 0 6) - (1 : Int32)) - v1)]) (c_X12_exchanges hap v1 (((M.1 0 6) - (1 : Int32)) - v1) M M6 hM6) ML_X12_exchanges wd_1621 shR_0 rfl rfl rfl ⟨Nat.le_of_ble_eq_true rfl, Nat.le_of_ble_eq_true rfl⟩ (Nat.le_of_ble_eq_true rfl) dX12_turned_26 ?_
        refine k_iinc C dX12_turned_29 1 rfl (v := (v1 + (1 : Int32))) rfl (by decide) [1, 0] (lv' := [(0, .ref (G.2.1 0)), (1, .int (v1 + (1 : Int32)))]) rfl ?_
        refine k_goto C dX12_turned_32 (tgt := 6) (by decide) ?_
        exact ih6 (v1 + (1 : Int32)) M6 hf
  unfold f_X12_turned at hf
  refine k_lv (lv' := [(0, .ref (G.2.1 0))]) [0] rfl ?_
  refine k_aload_n C dX12_turned_0 0 rfl ?_
  obtain ⟨M1, hM1, hf⟩ := bnd hf
  refine k_callVv C (As := []) (c_X12_thinks hap M0 M1 hM1) ML_X12_thinks wd_1566 shR_0 rfl rfl rfl ⟨Nat.le_of_ble_eq_true rfl, Nat.le_of_ble_eq_true rfl⟩ (Nat.le_of_ble_eq_true rfl) dX12_turned_1 ?_
  refine k_iconst C dX12_turned_4 (v := (0 : Int32)) rfl ?_
  refine k_istore_n C dX12_turned_5 (by decide) [1, 0] (lv' := [(0, .ref (G.2.1 0)), (1, .int (0 : Int32))]) rfl ?_
  exact k_b6 FU (0 : Int32) M1 hf
theorem dX12_changed_0 : decode cX12_changed 0 = .ok (.bipush (-9), 2) := by decide +kernel
theorem dX12_changed_2 : decode cX12_changed 2 = .ok (.istore_n 1, 1) := by decide +kernel
theorem dX12_changed_3 : decode cX12_changed 3 = .ok (.aload_n 0, 1) := by decide +kernel
theorem dX12_changed_4 : decode cX12_changed 4 = .ok (.invokevirtual 173, 3) := by decide +kernel
theorem dX12_changed_7 : decode cX12_changed 7 = .ok (.istore_n 2, 1) := by decide +kernel
theorem dX12_changed_8 : decode cX12_changed 8 = .ok (.iconst 0, 1) := by decide +kernel
theorem dX12_changed_9 : decode cX12_changed 9 = .ok (.istore_n 3, 1) := by decide +kernel
theorem dX12_changed_10 : decode cX12_changed 10 = .ok (.iload_n 3, 1) := by decide +kernel
theorem dX12_changed_11 : decode cX12_changed 11 = .ok (.aload_n 0, 1) := by decide +kernel
theorem dX12_changed_12 : decode cX12_changed 12 = .ok (.getfield 108, 3) := by decide +kernel
theorem dX12_changed_15 : decode cX12_changed 15 = .ok (.if_icmp .ge 69, 3) := by decide +kernel
theorem dX12_changed_18 : decode cX12_changed 18 = .ok (.iload_n 3, 1) := by decide +kernel
theorem dX12_changed_19 : decode cX12_changed 19 = .ok (.iconst 1, 1) := by decide +kernel
theorem dX12_changed_20 : decode cX12_changed 20 = .ok (.iadd, 1) := by decide +kernel
theorem dX12_changed_21 : decode cX12_changed 21 = .ok (.istore 4, 2) := by decide +kernel
theorem dX12_changed_23 : decode cX12_changed 23 = .ok (.iload 4, 2) := by decide +kernel
theorem dX12_changed_25 : decode cX12_changed 25 = .ok (.aload_n 0, 1) := by decide +kernel
theorem dX12_changed_26 : decode cX12_changed 26 = .ok (.getfield 108, 3) := by decide +kernel
theorem dX12_changed_29 : decode cX12_changed 29 = .ok (.if_icmp .ge 49, 3) := by decide +kernel
theorem dX12_changed_32 : decode cX12_changed 32 = .ok (.aload_n 0, 1) := by decide +kernel
theorem dX12_changed_33 : decode cX12_changed 33 = .ok (.iload_n 3, 1) := by decide +kernel
theorem dX12_changed_34 : decode cX12_changed 34 = .ok (.iload 4, 2) := by decide +kernel
theorem dX12_changed_36 : decode cX12_changed 36 = .ok (.invokevirtual 226, 3) := by decide +kernel
theorem dX12_changed_39 : decode cX12_changed 39 = .ok (.aload_n 0, 1) := by decide +kernel
theorem dX12_changed_40 : decode cX12_changed 40 = .ok (.invokevirtual 173, 3) := by decide +kernel
theorem dX12_changed_43 : decode cX12_changed 43 = .ok (.istore 5, 2) := by decide +kernel
theorem dX12_changed_45 : decode cX12_changed 45 = .ok (.aload_n 0, 1) := by decide +kernel
theorem dX12_changed_46 : decode cX12_changed 46 = .ok (.iload_n 3, 1) := by decide +kernel
theorem dX12_changed_47 : decode cX12_changed 47 = .ok (.iload 4, 2) := by decide +kernel
theorem dX12_changed_49 : decode cX12_changed 49 = .ok (.invokevirtual 226, 3) := by decide +kernel
theorem dX12_changed_52 : decode cX12_changed 52 = .ok (.iload 5, 2) := by decide +kernel
theorem dX12_changed_54 : decode cX12_changed 54 = .ok (.iload_n 2, 1) := by decide +kernel
theorem dX12_changed_55 : decode cX12_changed 55 = .ok (.if_icmp .lt 6, 3) := by decide +kernel
theorem dX12_changed_58 : decode cX12_changed 58 = .ok (.goto 14, 3) := by decide +kernel
theorem dX12_changed_61 : decode cX12_changed 61 = .ok (.bipush 100, 2) := by decide +kernel
theorem dX12_changed_63 : decode cX12_changed 63 = .ok (.iload_n 3, 1) := by decide +kernel
theorem dX12_changed_64 : decode cX12_changed 64 = .ok (.imul, 1) := by decide +kernel
theorem dX12_changed_65 : decode cX12_changed 65 = .ok (.iload 4, 2) := by decide +kernel
theorem dX12_changed_67 : decode cX12_changed 67 = .ok (.iadd, 1) := by decide +kernel
theorem dX12_changed_68 : decode cX12_changed 68 = .ok (.istore_n 1, 1) := by decide +kernel
theorem dX12_changed_69 : decode cX12_changed 69 = .ok (.iload 5, 2) := by decide +kernel
theorem dX12_changed_71 : decode cX12_changed 71 = .ok (.istore_n 2, 1) := by decide +kernel
theorem dX12_changed_72 : decode cX12_changed 72 = .ok (.iinc 4 1, 3) := by decide +kernel
theorem dX12_changed_75 : decode cX12_changed 75 = .ok (.goto (-52), 3) := by decide +kernel
theorem dX12_changed_78 : decode cX12_changed 78 = .ok (.iinc 3 1, 3) := by decide +kernel
theorem dX12_changed_81 : decode cX12_changed 81 = .ok (.goto (-71), 3) := by decide +kernel
theorem dX12_changed_84 : decode cX12_changed 84 = .ok (.iload_n 1, 1) := by decide +kernel
theorem dX12_changed_85 : decode cX12_changed 85 = .ok (.ireturn, 1) := by decide +kernel
set_option maxRecDepth 100000 in
set_option maxHeartbeats 4000000 in
theorem c_X12_changed {l : Launch} {G : Gx} (hap : k_ap G shR.length) (M0 : Mem) (r : Int32 × Mem) (hf : f_X12_changed M0 = some r) : k_Met l yX12_changed cX12_changed 6 (some .int) 5 111 G shR [.ref (G.2.1 0)] M0 (k_Qi G shR r.1 r.2) := by
  refine k_Met_of (by decide) hap (Nat.le_of_ble_eq_true rfl) ?_
  intro p e s m args below meth c C hr hlk
  have C : Cx p s m args c cX12_changed RX12 6 G shR := C
  have k_b10 : ∀ (n10 : Nat) (v1 : Int32) (v2 : Int32) (v3 : Int32) (M : Mem), f_X12_changed_b10 n10 v1 v2 v3 M = some r → K p l e (k_rm 5 111) s m args below meth c 6 G shR (MQ below (k_Qi G shR r.1 r.2) args s 0 0 (k_A G shR.length)) 10 [(0, .ref (G.2.1 0)), (1, .int v1), (2, .int v2), (3, .int v3)] [] M := by
    intro n10
    induction n10 with
    | zero => intro v1 v2 v3 M hf; simp [f_X12_changed_b10] at hf
    | succ n10 ih10 =>
      have k_b23 : ∀ (n23 : Nat) (v1 : Int32) (v2 : Int32) (v3 : Int32) (v4 : Int32) (M : Mem), f_X12_changed_b23 (f_X12_changed_b10 n10) n23 v1 v2 v3 v4 M = some r → K p l e (k_rm 5 111) s m args below meth c 6 G shR (MQ below (k_Qi G shR r.1 r.2) args s 0 0 (k_A G shR.length)) 23 [(0, .ref (G.2.1 0)), (1, .int v1), (2, .int v2), (3, .int v3), (4, .int v4)] [] M := by
        intro n23
        induction n23 with
        | zero => intro v1 v2 v3 v4 M hf; simp [f_X12_changed_b23] at hf
        | succ n23 ih23 =>
          intro v1 v2 v3 v4 M hf
          unfold f_X12_changed_b23 at hf
          refine k_iload C dX12_changed_23 4 rfl ?_
          refine k_aload_n C dX12_changed_25 0 rfl ?_
          refine k_geti C shR_0 (j := 6) rfl FL_X12_108 dX12_changed_26 ?_
          rcases ite_g hf with ⟨c4, hf⟩ | ⟨c4, hf⟩
          · refine k_icmp_ge_t C dX12_changed_29 (tgt := 78) (by decide) c4 ?_
            refine k_iinc C dX12_changed_78 3 rfl (v := (v3 + (1 : Int32))) rfl (by decide) [1, 2, 3, 0] (lv' := [(0, .ref (G.2.1 0)), (1, .int v1), (2, .int v2), (3, .int (v3 + (1 : Int32)))]) rfl ?_
            refine k_goto C dX12_changed_81 (tgt := 10) (by decide) ?_
            exact ih10 v1 v2 (v3 + (1 : Int32)) M hf
          · refine k_icmp_ge_f C dX12_changed_29 (tgt := 78) (by decide) c4 ?_
            refine k_aload_n C dX12_changed_32 0 rfl ?_
            refine k_iload_n C dX12_changed_33 3 rfl ?_
            refine k_iload C dX12_changed_34 4 rfl ?_
            obtain ⟨M5, hM5, hf⟩ := bnd hf
            refine k_callVv C (As := [.int v3, .int v4]) (c_X12_exchanges hap v3 v4 M M5 hM5) ML_X12_exchanges wd_1621 shR_0 rfl rfl rfl ⟨Nat.le_of_ble_eq_true rfl, Nat.le_of_ble_eq_true rfl⟩ (Nat.le_of_ble_eq_true rfl) dX12_changed_36 ?_
            refine k_aload_n C dX12_changed_39 0 rfl ?_
            obtain ⟨t6, ht6, hf⟩ := bnd hf
            refine k_callVi C (As := []) (c_X12_all hap M5 t6 ht6) ML_X12_all wd_1502 shR_0 rfl rfl rfl ⟨Nat.le_of_ble_eq_true rfl, Nat.le_of_ble_eq_true rfl⟩ (Nat.le_of_ble_eq_true rfl) dX12_changed_40 ?_
            refine k_istore C dX12_changed_43 (by decide) [1, 2, 3, 4, 5, 0] (lv' := [(0, .ref (G.2.1 0)), (1, .int v1), (2, .int v2), (3, .int v3), (4, .int v4), (5, .int t6)]) rfl ?_
            refine k_aload_n C dX12_changed_45 0 rfl ?_
            refine k_iload_n C dX12_changed_46 3 rfl ?_
            refine k_iload C dX12_changed_47 4 rfl ?_
            obtain ⟨M7, hM7, hf⟩ := bnd hf
            refine k_callVv C (As := [.int v3, .int v4]) (c_X12_exchanges hap v3 v4 M5 M7 hM7) ML_X12_exchanges wd_1621 shR_0 rfl rfl rfl ⟨Nat.le_of_ble_eq_true rfl, Nat.le_of_ble_eq_true rfl⟩ (Nat.le_of_ble_eq_true rfl) dX12_changed_49 ?_
            refine k_iload C dX12_changed_52 5 rfl ?_
            refine k_iload_n C dX12_changed_54 2 rfl ?_
            rcases ite_g hf with ⟨c8, hf⟩ | ⟨c8, hf⟩
            · refine k_icmp_lt_t C dX12_changed_55 (tgt := 61) (by decide) c8 ?_
              refine k_bipush C dX12_changed_61 (v := (100 : Int32)) rfl ?_
              refine k_iload_n C dX12_changed_63 3 rfl ?_
              refine k_imul C dX12_changed_64 ?_
              refine k_iload C dX12_changed_65 4 rfl ?_
              refine k_iadd C dX12_changed_67 ?_
              refine k_istore_n C dX12_changed_68 (by decide) [1, 0, 3, 4, 5] (lv' := [(0, .ref (G.2.1 0)), (1, .int (((100 : Int32) * v3) + v4)), (3, .int v3), (4, .int v4), (5, .int t6)]) rfl ?_
              refine k_iload C dX12_changed_69 4 rfl ?_
              refine k_istore_n C dX12_changed_71 (by decide) [1, 2, 0, 3, 4] (lv' := [(0, .ref (G.2.1 0)), (1, .int (((100 : Int32) * v3) + v4)), (2, .int t6), (3, .int v3), (4, .int v4)]) rfl ?_
              refine k_iinc C dX12_changed_72 4 rfl (v := (v4 + (1 : Int32))) rfl (by decide) [1, 2, 3, 4, 0] (lv' := [(0, .ref (G.2.1 0)), (1, .int (((100 : Int32) * v3) + v4)), (2, .int t6), (3, .int v3), (4, .int (v4 + (1 : Int32)))]) rfl ?_
              refine k_goto C dX12_changed_75 (tgt := 23) (by decide) ?_
              exact ih23 (((100 : Int32) * v3) + v4) t6 v3 (v4 + (1 : Int32)) M7 hf
            · refine k_icmp_lt_f C dX12_changed_55 (tgt := 61) (by decide) c8 ?_
              refine k_goto C dX12_changed_58 (tgt := 72) (by decide) ?_
              refine k_iinc C dX12_changed_72 4 rfl (v := (v4 + (1 : Int32))) rfl (by decide) [1, 2, 3, 4, 0] (lv' := [(0, .ref (G.2.1 0)), (1, .int v1), (2, .int v2), (3, .int v3), (4, .int (v4 + (1 : Int32)))]) rfl ?_
              refine k_goto C dX12_changed_75 (tgt := 23) (by decide) ?_
              exact ih23 v1 v2 v3 (v4 + (1 : Int32)) M7 hf
      intro v1 v2 v3 M hf
      unfold f_X12_changed_b10 at hf
      refine k_iload_n C dX12_changed_10 3 rfl ?_
      refine k_aload_n C dX12_changed_11 0 rfl ?_
      refine k_geti C shR_0 (j := 6) rfl FL_X12_108 dX12_changed_12 ?_
      rcases ite_g hf with ⟨c2, hf⟩ | ⟨c2, hf⟩
      · refine k_icmp_ge_t C dX12_changed_15 (tgt := 84) (by decide) c2 ?_
        refine k_iload_n C dX12_changed_84 1 rfl ?_
        exact k_iret C hr hlk (prf hf) (prs hf) dX12_changed_85
      · refine k_icmp_ge_f C dX12_changed_15 (tgt := 84) (by decide) c2 ?_
        refine k_iload_n C dX12_changed_18 3 rfl ?_
        refine k_iconst C dX12_changed_19 (v := (1 : Int32)) rfl ?_
        refine k_iadd C dX12_changed_20 ?_
        refine k_istore C dX12_changed_21 (by decide) [1, 2, 3, 4, 0] (lv' := [(0, .ref (G.2.1 0)), (1, .int v1), (2, .int v2), (3, .int v3), (4, .int (v3 + (1 : Int32)))]) rfl ?_
        exact k_b23 FU v1 v2 v3 (v3 + (1 : Int32)) M hf
  unfold f_X12_changed at hf
  refine k_lv (lv' := [(0, .ref (G.2.1 0))]) [0] rfl ?_
  refine k_bipush C dX12_changed_0 (v := (-9 : Int32)) rfl ?_
  refine k_istore_n C dX12_changed_2 (by decide) [1, 0] (lv' := [(0, .ref (G.2.1 0)), (1, .int (-9 : Int32))]) rfl ?_
  refine k_aload_n C dX12_changed_3 0 rfl ?_
  obtain ⟨t1, ht1, hf⟩ := bnd hf
  refine k_callVi C (As := []) (c_X12_all hap M0 t1 ht1) ML_X12_all wd_1502 shR_0 rfl rfl rfl ⟨Nat.le_of_ble_eq_true rfl, Nat.le_of_ble_eq_true rfl⟩ (Nat.le_of_ble_eq_true rfl) dX12_changed_4 ?_
  refine k_istore_n C dX12_changed_7 (by decide) [1, 2, 0] (lv' := [(0, .ref (G.2.1 0)), (1, .int (-9 : Int32)), (2, .int t1)]) rfl ?_
  refine k_iconst C dX12_changed_8 (v := (0 : Int32)) rfl ?_
  refine k_istore_n C dX12_changed_9 (by decide) [1, 2, 3, 0] (lv' := [(0, .ref (G.2.1 0)), (1, .int (-9 : Int32)), (2, .int t1), (3, .int (0 : Int32))]) rfl ?_
  exact k_b10 FU (-9 : Int32) t1 (0 : Int32) M0 hf
theorem dX12_marksOf_0 : decode cX12_marksOf 0 = .ok (.iconst 0, 1) := by decide +kernel
theorem dX12_marksOf_1 : decode cX12_marksOf 1 = .ok (.istore_n 2, 1) := by decide +kernel
theorem dX12_marksOf_2 : decode cX12_marksOf 2 = .ok (.iconst 0, 1) := by decide +kernel
theorem dX12_marksOf_3 : decode cX12_marksOf 3 = .ok (.istore_n 3, 1) := by decide +kernel
theorem dX12_marksOf_4 : decode cX12_marksOf 4 = .ok (.iload_n 3, 1) := by decide +kernel
theorem dX12_marksOf_5 : decode cX12_marksOf 5 = .ok (.aload_n 0, 1) := by decide +kernel
theorem dX12_marksOf_6 : decode cX12_marksOf 6 = .ok (.getfield 62, 3) := by decide +kernel
theorem dX12_marksOf_9 : decode cX12_marksOf 9 = .ok (.if_icmp .ge 30, 3) := by decide +kernel
theorem dX12_marksOf_12 : decode cX12_marksOf 12 = .ok (.iload_n 2, 1) := by decide +kernel
theorem dX12_marksOf_13 : decode cX12_marksOf 13 = .ok (.iload_n 1, 1) := by decide +kernel
theorem dX12_marksOf_14 : decode cX12_marksOf 14 = .ok (.iload_n 3, 1) := by decide +kernel
theorem dX12_marksOf_15 : decode cX12_marksOf 15 = .ok (.invokestatic 179, 3) := by decide +kernel
theorem dX12_marksOf_18 : decode cX12_marksOf 18 = .ok (.ifCond .eq 12, 3) := by decide +kernel
theorem dX12_marksOf_21 : decode cX12_marksOf 21 = .ok (.aload_n 0, 1) := by decide +kernel
theorem dX12_marksOf_22 : decode cX12_marksOf 22 = .ok (.getfield 19, 3) := by decide +kernel
theorem dX12_marksOf_25 : decode cX12_marksOf 25 = .ok (.iload_n 3, 1) := by decide +kernel
theorem dX12_marksOf_26 : decode cX12_marksOf 26 = .ok (.iaload, 1) := by decide +kernel
theorem dX12_marksOf_27 : decode cX12_marksOf 27 = .ok (.goto 4, 3) := by decide +kernel
theorem dX12_marksOf_30 : decode cX12_marksOf 30 = .ok (.iconst 0, 1) := by decide +kernel
theorem dX12_marksOf_31 : decode cX12_marksOf 31 = .ok (.ior, 1) := by decide +kernel
theorem dX12_marksOf_32 : decode cX12_marksOf 32 = .ok (.istore_n 2, 1) := by decide +kernel
theorem dX12_marksOf_33 : decode cX12_marksOf 33 = .ok (.iinc 3 1, 3) := by decide +kernel
theorem dX12_marksOf_36 : decode cX12_marksOf 36 = .ok (.goto (-32), 3) := by decide +kernel
theorem dX12_marksOf_39 : decode cX12_marksOf 39 = .ok (.iload_n 2, 1) := by decide +kernel
theorem dX12_marksOf_40 : decode cX12_marksOf 40 = .ok (.ireturn, 1) := by decide +kernel
set_option maxRecDepth 100000 in
set_option maxHeartbeats 4000000 in
theorem c_X12_marksOf {l : Launch} {G : Gx} (hap : k_ap G shR.length) (v1 : Int32) (M0 : Mem) (r : Int32) (hf : f_X12_marksOf v1 M0 = some r) : k_Met l yX12_marksOf cX12_marksOf 4 (some .int) 1 21 G shR [.ref (G.2.1 0), .int v1] M0 (k_Qi G shR r M0) := by
  refine k_Met_of (by decide) hap (Nat.le_of_ble_eq_true rfl) ?_
  intro p e s m args below meth c C hr hlk
  have C : Cx p s m args c cX12_marksOf RX12 4 G shR := C
  have k_b4 : ∀ (n4 : Nat) (v1 : Int32) (v2 : Int32) (v3 : Int32), f_X12_marksOf_b4 M0 n4 v1 v2 v3 = some r → K p l e (k_rm 1 21) s m args below meth c 4 G shR (MQ below (k_Qi G shR r M0) args s 0 0 (k_A G shR.length)) 4 [(0, .ref (G.2.1 0)), (1, .int v1), (2, .int v2), (3, .int v3)] [] M0 := by
    intro n4
    induction n4 with
    | zero => intro v1 v2 v3 hf; simp [f_X12_marksOf_b4] at hf
    | succ n4 ih4 =>
      intro v1 v2 v3 hf
      unfold f_X12_marksOf_b4 at hf
      refine k_iload_n C dX12_marksOf_4 3 rfl ?_
      refine k_aload_n C dX12_marksOf_5 0 rfl ?_
      refine k_geti C shR_0 (j := 5) rfl FL_X12_62 dX12_marksOf_6 ?_
      rcases ite_g hf with ⟨c1, hf⟩ | ⟨c1, hf⟩
      · refine k_icmp_ge_t C dX12_marksOf_9 (tgt := 39) (by decide) c1 ?_
        refine k_iload_n C dX12_marksOf_39 2 rfl ?_
        exact k_iret C hr hlk (Option.some.inj hf) rfl dX12_marksOf_40
      · refine k_icmp_ge_f C dX12_marksOf_9 (tgt := 39) (by decide) c1 ?_
        refine k_iload_n C dX12_marksOf_12 2 rfl ?_
        refine k_iload_n C dX12_marksOf_13 1 rfl ?_
        refine k_iload_n C dX12_marksOf_14 3 rfl ?_
        refine k_callSi C (As := [.int v1, .int v3]) (c_X12_has hap v1 v3 M0 _ rfl) MS_X12_has wd_1531 rfl rfl ⟨Nat.le_of_ble_eq_true rfl, Nat.le_of_ble_eq_true rfl⟩ (Nat.le_of_ble_eq_true rfl) dX12_marksOf_15 ?_
        rcases ite_g hf with ⟨c2, hf⟩ | ⟨c2, hf⟩
        · refine k_if_eq_t C dX12_marksOf_18 (tgt := 30) (by decide) c2 ?_
          refine k_iconst C dX12_marksOf_30 (v := (0 : Int32)) rfl ?_
          refine k_ior C dX12_marksOf_31 ?_
          refine k_istore_n C dX12_marksOf_32 (by decide) [1, 2, 0, 3] (lv' := [(0, .ref (G.2.1 0)), (1, .int v1), (2, .int (v2 ||| (0 : Int32))), (3, .int v3)]) rfl ?_
          refine k_iinc C dX12_marksOf_33 3 rfl (v := (v3 + (1 : Int32))) rfl (by decide) [1, 2, 3, 0] (lv' := [(0, .ref (G.2.1 0)), (1, .int v1), (2, .int (v2 ||| (0 : Int32))), (3, .int (v3 + (1 : Int32)))]) rfl ?_
          refine k_goto C dX12_marksOf_36 (tgt := 4) (by decide) ?_
          exact ih4 v1 (v2 ||| (0 : Int32)) (v3 + (1 : Int32)) hf
        · refine k_if_eq_f C dX12_marksOf_18 (tgt := 30) (by decide) c2 ?_
          refine k_aload_n C dX12_marksOf_21 0 rfl ?_
          refine k_getr C shR_0 (j := 3) rfl FL_X12_19 dX12_marksOf_22 ?_
          refine k_iload_n C dX12_marksOf_25 3 rfl ?_
          obtain ⟨t3, ht3, hf⟩ := bnd hf
          refine k_iald C shR_4 ht3 dX12_marksOf_26 ?_
          refine k_goto C dX12_marksOf_27 (tgt := 31) (by decide) ?_
          refine k_ior C dX12_marksOf_31 ?_
          refine k_istore_n C dX12_marksOf_32 (by decide) [1, 2, 0, 3] (lv' := [(0, .ref (G.2.1 0)), (1, .int v1), (2, .int (v2 ||| t3)), (3, .int v3)]) rfl ?_
          refine k_iinc C dX12_marksOf_33 3 rfl (v := (v3 + (1 : Int32))) rfl (by decide) [1, 2, 3, 0] (lv' := [(0, .ref (G.2.1 0)), (1, .int v1), (2, .int (v2 ||| t3)), (3, .int (v3 + (1 : Int32)))]) rfl ?_
          refine k_goto C dX12_marksOf_36 (tgt := 4) (by decide) ?_
          exact ih4 v1 (v2 ||| t3) (v3 + (1 : Int32)) hf
  unfold f_X12_marksOf at hf
  refine k_lv (lv' := [(0, .ref (G.2.1 0)), (1, .int v1)]) [0, 1] rfl ?_
  refine k_iconst C dX12_marksOf_0 (v := (0 : Int32)) rfl ?_
  refine k_istore_n C dX12_marksOf_1 (by decide) [1, 2, 0] (lv' := [(0, .ref (G.2.1 0)), (1, .int v1), (2, .int (0 : Int32))]) rfl ?_
  refine k_iconst C dX12_marksOf_2 (v := (0 : Int32)) rfl ?_
  refine k_istore_n C dX12_marksOf_3 (by decide) [1, 2, 3, 0] (lv' := [(0, .ref (G.2.1 0)), (1, .int v1), (2, .int (0 : Int32)), (3, .int (0 : Int32))]) rfl ?_
  exact k_b4 FU v1 (0 : Int32) (0 : Int32) hf
theorem dX12_nextsOf_0 : decode cX12_nextsOf 0 = .ok (.iconst 0, 1) := by decide +kernel
theorem dX12_nextsOf_1 : decode cX12_nextsOf 1 = .ok (.istore_n 2, 1) := by decide +kernel
theorem dX12_nextsOf_2 : decode cX12_nextsOf 2 = .ok (.iconst 0, 1) := by decide +kernel
theorem dX12_nextsOf_3 : decode cX12_nextsOf 3 = .ok (.istore_n 3, 1) := by decide +kernel
theorem dX12_nextsOf_4 : decode cX12_nextsOf 4 = .ok (.iload_n 3, 1) := by decide +kernel
theorem dX12_nextsOf_5 : decode cX12_nextsOf 5 = .ok (.aload_n 0, 1) := by decide +kernel
theorem dX12_nextsOf_6 : decode cX12_nextsOf 6 = .ok (.getfield 62, 3) := by decide +kernel
theorem dX12_nextsOf_9 : decode cX12_nextsOf 9 = .ok (.if_icmp .ge 29, 3) := by decide +kernel
theorem dX12_nextsOf_12 : decode cX12_nextsOf 12 = .ok (.iload_n 2, 1) := by decide +kernel
theorem dX12_nextsOf_13 : decode cX12_nextsOf 13 = .ok (.iload_n 1, 1) := by decide +kernel
theorem dX12_nextsOf_14 : decode cX12_nextsOf 14 = .ok (.iload_n 3, 1) := by decide +kernel
theorem dX12_nextsOf_15 : decode cX12_nextsOf 15 = .ok (.invokestatic 179, 3) := by decide +kernel
theorem dX12_nextsOf_18 : decode cX12_nextsOf 18 = .ok (.ifCond .eq 11, 3) := by decide +kernel
theorem dX12_nextsOf_21 : decode cX12_nextsOf 21 = .ok (.aload_n 0, 1) := by decide +kernel
theorem dX12_nextsOf_22 : decode cX12_nextsOf 22 = .ok (.iload_n 3, 1) := by decide +kernel
theorem dX12_nextsOf_23 : decode cX12_nextsOf 23 = .ok (.invokevirtual 176, 3) := by decide +kernel
theorem dX12_nextsOf_26 : decode cX12_nextsOf 26 = .ok (.goto 4, 3) := by decide +kernel
theorem dX12_nextsOf_29 : decode cX12_nextsOf 29 = .ok (.iconst 0, 1) := by decide +kernel
theorem dX12_nextsOf_30 : decode cX12_nextsOf 30 = .ok (.iadd, 1) := by decide +kernel
theorem dX12_nextsOf_31 : decode cX12_nextsOf 31 = .ok (.istore_n 2, 1) := by decide +kernel
theorem dX12_nextsOf_32 : decode cX12_nextsOf 32 = .ok (.iinc 3 1, 3) := by decide +kernel
theorem dX12_nextsOf_35 : decode cX12_nextsOf 35 = .ok (.goto (-31), 3) := by decide +kernel
theorem dX12_nextsOf_38 : decode cX12_nextsOf 38 = .ok (.iload_n 2, 1) := by decide +kernel
theorem dX12_nextsOf_39 : decode cX12_nextsOf 39 = .ok (.ireturn, 1) := by decide +kernel
set_option maxRecDepth 100000 in
set_option maxHeartbeats 4000000 in
theorem c_X12_nextsOf {l : Launch} {G : Gx} (hap : k_ap G shR.length) (v1 : Int32) (M0 : Mem) (r : Int32) (hf : f_X12_nextsOf v1 M0 = some r) : k_Met l yX12_nextsOf cX12_nextsOf 4 (some .int) 4 89 G shR [.ref (G.2.1 0), .int v1] M0 (k_Qi G shR r M0) := by
  refine k_Met_of (by decide) hap (Nat.le_of_ble_eq_true rfl) ?_
  intro p e s m args below meth c C hr hlk
  have C : Cx p s m args c cX12_nextsOf RX12 4 G shR := C
  have k_b4 : ∀ (n4 : Nat) (v1 : Int32) (v2 : Int32) (v3 : Int32), f_X12_nextsOf_b4 M0 n4 v1 v2 v3 = some r → K p l e (k_rm 4 89) s m args below meth c 4 G shR (MQ below (k_Qi G shR r M0) args s 0 0 (k_A G shR.length)) 4 [(0, .ref (G.2.1 0)), (1, .int v1), (2, .int v2), (3, .int v3)] [] M0 := by
    intro n4
    induction n4 with
    | zero => intro v1 v2 v3 hf; simp [f_X12_nextsOf_b4] at hf
    | succ n4 ih4 =>
      intro v1 v2 v3 hf
      unfold f_X12_nextsOf_b4 at hf
      refine k_iload_n C dX12_nextsOf_4 3 rfl ?_
      refine k_aload_n C dX12_nextsOf_5 0 rfl ?_
      refine k_geti C shR_0 (j := 5) rfl FL_X12_62 dX12_nextsOf_6 ?_
      rcases ite_g hf with ⟨c1, hf⟩ | ⟨c1, hf⟩
      · refine k_icmp_ge_t C dX12_nextsOf_9 (tgt := 38) (by decide) c1 ?_
        refine k_iload_n C dX12_nextsOf_38 2 rfl ?_
        exact k_iret C hr hlk (Option.some.inj hf) rfl dX12_nextsOf_39
      · refine k_icmp_ge_f C dX12_nextsOf_9 (tgt := 38) (by decide) c1 ?_
        refine k_iload_n C dX12_nextsOf_12 2 rfl ?_
        refine k_iload_n C dX12_nextsOf_13 1 rfl ?_
        refine k_iload_n C dX12_nextsOf_14 3 rfl ?_
        refine k_callSi C (As := [.int v1, .int v3]) (c_X12_has hap v1 v3 M0 _ rfl) MS_X12_has wd_1531 rfl rfl ⟨Nat.le_of_ble_eq_true rfl, Nat.le_of_ble_eq_true rfl⟩ (Nat.le_of_ble_eq_true rfl) dX12_nextsOf_15 ?_
        rcases ite_g hf with ⟨c3, hf⟩ | ⟨c3, hf⟩
        · refine k_if_eq_t C dX12_nextsOf_18 (tgt := 29) (by decide) c3 ?_
          refine k_iconst C dX12_nextsOf_29 (v := (0 : Int32)) rfl ?_
          refine k_iadd C dX12_nextsOf_30 ?_
          refine k_istore_n C dX12_nextsOf_31 (by decide) [1, 2, 0, 3] (lv' := [(0, .ref (G.2.1 0)), (1, .int v1), (2, .int (v2 + (0 : Int32))), (3, .int v3)]) rfl ?_
          refine k_iinc C dX12_nextsOf_32 3 rfl (v := (v3 + (1 : Int32))) rfl (by decide) [1, 2, 3, 0] (lv' := [(0, .ref (G.2.1 0)), (1, .int v1), (2, .int (v2 + (0 : Int32))), (3, .int (v3 + (1 : Int32)))]) rfl ?_
          refine k_goto C dX12_nextsOf_35 (tgt := 4) (by decide) ?_
          exact ih4 v1 (v2 + (0 : Int32)) (v3 + (1 : Int32)) hf
        · refine k_if_eq_f C dX12_nextsOf_18 (tgt := 29) (by decide) c3 ?_
          refine k_aload_n C dX12_nextsOf_21 0 rfl ?_
          refine k_iload_n C dX12_nextsOf_22 3 rfl ?_
          obtain ⟨t4, ht4, hf⟩ := bnd hf
          refine k_callVi C (As := [.int v3]) (c_X12_nextOf hap v3 M0 t4 ht4) ML_X12_nextOf wd_1510 shR_0 rfl rfl rfl ⟨Nat.le_of_ble_eq_true rfl, Nat.le_of_ble_eq_true rfl⟩ (Nat.le_of_ble_eq_true rfl) dX12_nextsOf_23 ?_
          refine k_goto C dX12_nextsOf_26 (tgt := 30) (by decide) ?_
          refine k_iadd C dX12_nextsOf_30 ?_
          refine k_istore_n C dX12_nextsOf_31 (by decide) [1, 2, 0, 3] (lv' := [(0, .ref (G.2.1 0)), (1, .int v1), (2, .int (v2 + t4)), (3, .int v3)]) rfl ?_
          refine k_iinc C dX12_nextsOf_32 3 rfl (v := (v3 + (1 : Int32))) rfl (by decide) [1, 2, 3, 0] (lv' := [(0, .ref (G.2.1 0)), (1, .int v1), (2, .int (v2 + t4)), (3, .int (v3 + (1 : Int32)))]) rfl ?_
          refine k_goto C dX12_nextsOf_35 (tgt := 4) (by decide) ?_
          exact ih4 v1 (v2 + t4) (v3 + (1 : Int32)) hf
  unfold f_X12_nextsOf at hf
  refine k_lv (lv' := [(0, .ref (G.2.1 0)), (1, .int v1)]) [0, 1] rfl ?_
  refine k_iconst C dX12_nextsOf_0 (v := (0 : Int32)) rfl ?_
  refine k_istore_n C dX12_nextsOf_1 (by decide) [1, 2, 0] (lv' := [(0, .ref (G.2.1 0)), (1, .int v1), (2, .int (0 : Int32))]) rfl ?_
  refine k_iconst C dX12_nextsOf_2 (v := (0 : Int32)) rfl ?_
  refine k_istore_n C dX12_nextsOf_3 (by decide) [1, 2, 3, 0] (lv' := [(0, .ref (G.2.1 0)), (1, .int v1), (2, .int (0 : Int32)), (3, .int (0 : Int32))]) rfl ?_
  exact k_b4 FU v1 (0 : Int32) (0 : Int32) hf
theorem dX12_wants_0 : decode cX12_wants 0 = .ok (.iload_n 1, 1) := by decide +kernel
theorem dX12_wants_1 : decode cX12_wants 1 = .ok (.iconst 0, 1) := by decide +kernel
theorem dX12_wants_2 : decode cX12_wants 2 = .ok (.sipush 255, 3) := by decide +kernel
theorem dX12_wants_5 : decode cX12_wants 5 = .ok (.invokestatic 68, 3) := by decide +kernel
theorem dX12_wants_8 : decode cX12_wants 8 = .ok (.istore_n 3, 1) := by decide +kernel
theorem dX12_wants_9 : decode cX12_wants 9 = .ok (.iload_n 3, 1) := by decide +kernel
theorem dX12_wants_10 : decode cX12_wants 10 = .ok (.ifCond .ne 15, 3) := by decide +kernel
theorem dX12_wants_13 : decode cX12_wants 13 = .ok (.iload_n 2, 1) := by decide +kernel
theorem dX12_wants_14 : decode cX12_wants 14 = .ok (.iconst 0, 1) := by decide +kernel
theorem dX12_wants_15 : decode cX12_wants 15 = .ok (.iconst 2, 1) := by decide +kernel
theorem dX12_wants_16 : decode cX12_wants 16 = .ok (.invokestatic 86, 3) := by decide +kernel
theorem dX12_wants_19 : decode cX12_wants 19 = .ok (.ifCond .ne 6, 3) := by decide +kernel
theorem dX12_wants_22 : decode cX12_wants 22 = .ok (.bipush (-2), 2) := by decide +kernel
theorem dX12_wants_24 : decode cX12_wants 24 = .ok (.istore_n 3, 1) := by decide +kernel
theorem dX12_wants_25 : decode cX12_wants 25 = .ok (.iload_n 3, 1) := by decide +kernel
theorem dX12_wants_26 : decode cX12_wants 26 = .ok (.ifCond .eq 9, 3) := by decide +kernel
theorem dX12_wants_29 : decode cX12_wants 29 = .ok (.aload_n 0, 1) := by decide +kernel
theorem dX12_wants_30 : decode cX12_wants 30 = .ok (.iload_n 3, 1) := by decide +kernel
theorem dX12_wants_31 : decode cX12_wants 31 = .ok (.invokevirtual 75, 3) := by decide +kernel
theorem dX12_wants_34 : decode cX12_wants 34 = .ok (.ireturn, 1) := by decide +kernel
theorem dX12_wants_35 : decode cX12_wants 35 = .ok (.bipush (-9), 2) := by decide +kernel
theorem dX12_wants_37 : decode cX12_wants 37 = .ok (.istore 4, 2) := by decide +kernel
theorem dX12_wants_39 : decode cX12_wants 39 = .ok (.bipush (-9), 2) := by decide +kernel
theorem dX12_wants_41 : decode cX12_wants 41 = .ok (.istore 5, 2) := by decide +kernel
theorem dX12_wants_43 : decode cX12_wants 43 = .ok (.iconst 0, 1) := by decide +kernel
theorem dX12_wants_44 : decode cX12_wants 44 = .ok (.istore 6, 2) := by decide +kernel
theorem dX12_wants_46 : decode cX12_wants 46 = .ok (.iload 6, 2) := by decide +kernel
theorem dX12_wants_48 : decode cX12_wants 48 = .ok (.iconst 1, 1) := by decide +kernel
theorem dX12_wants_49 : decode cX12_wants 49 = .ok (.aload_n 0, 1) := by decide +kernel
theorem dX12_wants_50 : decode cX12_wants 50 = .ok (.getfield 62, 3) := by decide +kernel
theorem dX12_wants_53 : decode cX12_wants 53 = .ok (.ishl, 1) := by decide +kernel
theorem dX12_wants_54 : decode cX12_wants 54 = .ok (.if_icmp .ge 71, 3) := by decide +kernel
theorem dX12_wants_57 : decode cX12_wants 57 = .ok (.iload_n 1, 1) := by decide +kernel
theorem dX12_wants_58 : decode cX12_wants 58 = .ok (.aload_n 0, 1) := by decide +kernel
theorem dX12_wants_59 : decode cX12_wants 59 = .ok (.iload 6, 2) := by decide +kernel
theorem dX12_wants_61 : decode cX12_wants 61 = .ok (.invokevirtual 230, 3) := by decide +kernel
theorem dX12_wants_64 : decode cX12_wants 64 = .ok (.iconst (-1), 1) := by decide +kernel
theorem dX12_wants_65 : decode cX12_wants 65 = .ok (.ixor, 1) := by decide +kernel
theorem dX12_wants_66 : decode cX12_wants 66 = .ok (.iand, 1) := by decide +kernel
theorem dX12_wants_67 : decode cX12_wants 67 = .ok (.ifCond .eq 6, 3) := by decide +kernel
theorem dX12_wants_70 : decode cX12_wants 70 = .ok (.goto 49, 3) := by decide +kernel
theorem dX12_wants_73 : decode cX12_wants 73 = .ok (.iload 4, 2) := by decide +kernel
theorem dX12_wants_75 : decode cX12_wants 75 = .ok (.ifCond .lt 16, 3) := by decide +kernel
theorem dX12_wants_78 : decode cX12_wants 78 = .ok (.iload 6, 2) := by decide +kernel
theorem dX12_wants_80 : decode cX12_wants 80 = .ok (.invokestatic 151, 3) := by decide +kernel
theorem dX12_wants_83 : decode cX12_wants 83 = .ok (.iload 4, 2) := by decide +kernel
theorem dX12_wants_85 : decode cX12_wants 85 = .ok (.invokestatic 151, 3) := by decide +kernel
theorem dX12_wants_88 : decode cX12_wants 88 = .ok (.if_icmp .ge 7, 3) := by decide +kernel
theorem dX12_wants_91 : decode cX12_wants 91 = .ok (.iload 6, 2) := by decide +kernel
theorem dX12_wants_93 : decode cX12_wants 93 = .ok (.istore 4, 2) := by decide +kernel
theorem dX12_wants_95 : decode cX12_wants 95 = .ok (.iload 5, 2) := by decide +kernel
theorem dX12_wants_97 : decode cX12_wants 97 = .ok (.ifCond .lt 18, 3) := by decide +kernel
theorem dX12_wants_100 : decode cX12_wants 100 = .ok (.aload_n 0, 1) := by decide +kernel
theorem dX12_wants_101 : decode cX12_wants 101 = .ok (.iload 6, 2) := by decide +kernel
theorem dX12_wants_103 : decode cX12_wants 103 = .ok (.invokevirtual 233, 3) := by decide +kernel
theorem dX12_wants_106 : decode cX12_wants 106 = .ok (.aload_n 0, 1) := by decide +kernel
theorem dX12_wants_107 : decode cX12_wants 107 = .ok (.iload 5, 2) := by decide +kernel
theorem dX12_wants_109 : decode cX12_wants 109 = .ok (.invokevirtual 233, 3) := by decide +kernel
theorem dX12_wants_112 : decode cX12_wants 112 = .ok (.if_icmp .ge 7, 3) := by decide +kernel
theorem dX12_wants_115 : decode cX12_wants 115 = .ok (.iload 6, 2) := by decide +kernel
theorem dX12_wants_117 : decode cX12_wants 117 = .ok (.istore 5, 2) := by decide +kernel
theorem dX12_wants_119 : decode cX12_wants 119 = .ok (.iinc 6 1, 3) := by decide +kernel
theorem dX12_wants_122 : decode cX12_wants 122 = .ok (.goto (-76), 3) := by decide +kernel
theorem dX12_wants_125 : decode cX12_wants 125 = .ok (.iload_n 2, 1) := by decide +kernel
theorem dX12_wants_126 : decode cX12_wants 126 = .ok (.ifCond .ne 8, 3) := by decide +kernel
theorem dX12_wants_129 : decode cX12_wants 129 = .ok (.iload 4, 2) := by decide +kernel
theorem dX12_wants_131 : decode cX12_wants 131 = .ok (.goto 24, 3) := by decide +kernel
theorem dX12_wants_134 : decode cX12_wants 134 = .ok (.iload_n 2, 1) := by decide +kernel
theorem dX12_wants_135 : decode cX12_wants 135 = .ok (.iconst 1, 1) := by decide +kernel
theorem dX12_wants_136 : decode cX12_wants 136 = .ok (.if_icmp .eq 8, 3) := by decide +kernel
theorem dX12_wants_139 : decode cX12_wants 139 = .ok (.iload 5, 2) := by decide +kernel
theorem dX12_wants_141 : decode cX12_wants 141 = .ok (.ifCond .ge 8, 3) := by decide +kernel
theorem dX12_wants_144 : decode cX12_wants 144 = .ok (.iload 5, 2) := by decide +kernel
theorem dX12_wants_146 : decode cX12_wants 146 = .ok (.goto 9, 3) := by decide +kernel
theorem dX12_wants_149 : decode cX12_wants 149 = .ok (.aload_n 0, 1) := by decide +kernel
theorem dX12_wants_150 : decode cX12_wants 150 = .ok (.iload 5, 2) := by decide +kernel
theorem dX12_wants_152 : decode cX12_wants 152 = .ok (.invokevirtual 233, 3) := by decide +kernel
theorem dX12_wants_155 : decode cX12_wants 155 = .ok (.ireturn, 1) := by decide +kernel
set_option maxRecDepth 100000 in
set_option maxHeartbeats 4000000 in
theorem c_X12_wants {l : Launch} {G : Gx} (hap : k_ap G shR.length) (v1 : Int32) (v2 : Int32) (M0 : Mem) (r : Int32 × Mem) (hf : f_X12_wants v1 v2 M0 = some r) : k_Met l yX12_wants cX12_wants 7 (some .int) 5 112 G shR [.ref (G.2.1 0), .int v1, .int v2] M0 (k_Qi G shR r.1 r.2) := by
  refine k_Met_of (by decide) hap (Nat.le_of_ble_eq_true rfl) ?_
  intro p e s m args below meth c C hr hlk
  have C : Cx p s m args c cX12_wants RX12 7 G shR := C
  have k_b46 : ∀ (n46 : Nat) (v1 : Int32) (v2 : Int32) (v4 : Int32) (v5 : Int32) (v6 : Int32) (M : Mem), f_X12_wants_b46 n46 v1 v2 v4 v5 v6 M = some r → K p l e (k_rm 5 112) s m args below meth c 7 G shR (MQ below (k_Qi G shR r.1 r.2) args s 0 0 (k_A G shR.length)) 46 [(0, .ref (G.2.1 0)), (1, .int v1), (2, .int v2), (4, .int v4), (5, .int v5), (6, .int v6)] [] M := by
    intro n46
    induction n46 with
    | zero => intro v1 v2 v4 v5 v6 M hf; simp [f_X12_wants_b46] at hf
    | succ n46 ih46 =>
      have k_b95 : ∀ (v1 : Int32) (v2 : Int32) (v4 : Int32) (v5 : Int32) (v6 : Int32) (M : Mem), f_X12_wants_b95 (f_X12_wants_b46 n46) v1 v2 v4 v5 v6 M = some r → K p l e (k_rm 5 112) s m args below meth c 7 G shR (MQ below (k_Qi G shR r.1 r.2) args s 0 0 (k_A G shR.length)) 95 [(0, .ref (G.2.1 0)), (1, .int v1), (2, .int v2), (4, .int v4), (5, .int v5), (6, .int v6)] [] M := by
        intro v1 v2 v4 v5 v6 M hf
        unfold f_X12_wants_b95 at hf
        refine k_iload C dX12_wants_95 4 rfl ?_
        rcases ite_g hf with ⟨c12, hf⟩ | ⟨c12, hf⟩
        · refine k_if_lt_t C dX12_wants_97 (tgt := 115) (by decide) c12 ?_
          refine k_iload C dX12_wants_115 5 rfl ?_
          refine k_istore C dX12_wants_117 (by decide) [1, 2, 3, 4, 0, 5] (lv' := [(0, .ref (G.2.1 0)), (1, .int v1), (2, .int v2), (4, .int v4), (5, .int v6), (6, .int v6)]) rfl ?_
          refine k_iinc C dX12_wants_119 5 rfl (v := (v6 + (1 : Int32))) rfl (by decide) [1, 2, 3, 4, 5, 0] (lv' := [(0, .ref (G.2.1 0)), (1, .int v1), (2, .int v2), (4, .int v4), (5, .int v6), (6, .int (v6 + (1 : Int32)))]) rfl ?_
          refine k_goto C dX12_wants_122 (tgt := 46) (by decide) ?_
          exact ih46 v1 v2 v4 v6 (v6 + (1 : Int32)) M hf
        · refine k_if_lt_f C dX12_wants_97 (tgt := 115) (by decide) c12 ?_
          refine k_aload_n C dX12_wants_100 0 rfl ?_
          refine k_iload C dX12_wants_101 5 rfl ?_
          obtain ⟨t13, ht13, hf⟩ := bnd hf
          refine k_callVi C (As := [.int v6]) (c_X12_nextsOf hap v6 M t13 ht13) ML_X12_nextsOf wd_1637 shR_0 rfl rfl rfl ⟨Nat.le_of_ble_eq_true rfl, Nat.le_of_ble_eq_true rfl⟩ (Nat.le_of_ble_eq_true rfl) dX12_wants_103 ?_
          refine k_aload_n C dX12_wants_106 0 rfl ?_
          refine k_iload C dX12_wants_107 4 rfl ?_
          obtain ⟨t14, ht14, hf⟩ := bnd hf
          refine k_callVi C (As := [.int v5]) (c_X12_nextsOf hap v5 M t14 ht14) ML_X12_nextsOf wd_1637 shR_0 rfl rfl rfl ⟨Nat.le_of_ble_eq_true rfl, Nat.le_of_ble_eq_true rfl⟩ (Nat.le_of_ble_eq_true rfl) dX12_wants_109 ?_
          rcases ite_g hf with ⟨c15, hf⟩ | ⟨c15, hf⟩
          · refine k_icmp_ge_t C dX12_wants_112 (tgt := 119) (by decide) c15 ?_
            refine k_iinc C dX12_wants_119 5 rfl (v := (v6 + (1 : Int32))) rfl (by decide) [1, 2, 3, 4, 5, 0] (lv' := [(0, .ref (G.2.1 0)), (1, .int v1), (2, .int v2), (4, .int v4), (5, .int v5), (6, .int (v6 + (1 : Int32)))]) rfl ?_
            refine k_goto C dX12_wants_122 (tgt := 46) (by decide) ?_
            exact ih46 v1 v2 v4 v5 (v6 + (1 : Int32)) M hf
          · refine k_icmp_ge_f C dX12_wants_112 (tgt := 119) (by decide) c15 ?_
            refine k_iload C dX12_wants_115 5 rfl ?_
            refine k_istore C dX12_wants_117 (by decide) [1, 2, 3, 4, 0, 5] (lv' := [(0, .ref (G.2.1 0)), (1, .int v1), (2, .int v2), (4, .int v4), (5, .int v6), (6, .int v6)]) rfl ?_
            refine k_iinc C dX12_wants_119 5 rfl (v := (v6 + (1 : Int32))) rfl (by decide) [1, 2, 3, 4, 5, 0] (lv' := [(0, .ref (G.2.1 0)), (1, .int v1), (2, .int v2), (4, .int v4), (5, .int v6), (6, .int (v6 + (1 : Int32)))]) rfl ?_
            refine k_goto C dX12_wants_122 (tgt := 46) (by decide) ?_
            exact ih46 v1 v2 v4 v6 (v6 + (1 : Int32)) M hf
      have k_b91 : ∀ (v1 : Int32) (v2 : Int32) (v5 : Int32) (v6 : Int32) (M : Mem), f_X12_wants_b91 (f_X12_wants_b46 n46) v1 v2 v5 v6 M = some r → K p l e (k_rm 5 112) s m args below meth c 7 G shR (MQ below (k_Qi G shR r.1 r.2) args s 0 0 (k_A G shR.length)) 91 [(0, .ref (G.2.1 0)), (1, .int v1), (2, .int v2), (5, .int v5), (6, .int v6)] [] M := by
        intro v1 v2 v5 v6 M hf
        unfold f_X12_wants_b91 at hf
        refine k_iload C dX12_wants_91 4 rfl ?_
        refine k_istore C dX12_wants_93 (by decide) [1, 2, 3, 0, 4, 5] (lv' := [(0, .ref (G.2.1 0)), (1, .int v1), (2, .int v2), (4, .int v6), (5, .int v5), (6, .int v6)]) rfl ?_
        exact k_b95 v1 v2 v6 v5 v6 M hf
      intro v1 v2 v4 v5 v6 M hf
      unfold f_X12_wants_b46 at hf
      refine k_iload C dX12_wants_46 5 rfl ?_
      refine k_iconst C dX12_wants_48 (v := (1 : Int32)) rfl ?_
      refine k_aload_n C dX12_wants_49 0 rfl ?_
      refine k_geti C shR_0 (j := 5) rfl FL_X12_62 dX12_wants_50 ?_
      refine k_ishlJ C dX12_wants_53 ?_
      rcases ite_g hf with ⟨c4, hf⟩ | ⟨c4, hf⟩
      · refine k_icmp_ge_t C dX12_wants_54 (tgt := 125) (by decide) c4 ?_
        refine k_iload_n C dX12_wants_125 2 rfl ?_
        rcases ite_g hf with ⟨c5, hf⟩ | ⟨c5, hf⟩
        · refine k_if_ne_f C dX12_wants_126 (tgt := 134) (by decide) c5 ?_
          refine k_iload C dX12_wants_129 3 rfl ?_
          refine k_goto C dX12_wants_131 (tgt := 155) (by decide) ?_
          exact k_iret C hr hlk (prf hf) (prs hf) dX12_wants_155
        · refine k_if_ne_t C dX12_wants_126 (tgt := 134) (by decide) c5 ?_
          refine k_iload_n C dX12_wants_134 2 rfl ?_
          refine k_iconst C dX12_wants_135 (v := (1 : Int32)) rfl ?_
          rcases ite_g hf with ⟨c6, hf⟩ | ⟨c6, hf⟩
          · refine k_icmp_eq_t C dX12_wants_136 (tgt := 144) (by decide) c6 ?_
            refine k_iload C dX12_wants_144 4 rfl ?_
            refine k_goto C dX12_wants_146 (tgt := 155) (by decide) ?_
            exact k_iret C hr hlk (prf hf) (prs hf) dX12_wants_155
          · refine k_icmp_eq_f C dX12_wants_136 (tgt := 144) (by decide) c6 ?_
            refine k_iload C dX12_wants_139 4 rfl ?_
            rcases ite_g hf with ⟨c7, hf⟩ | ⟨c7, hf⟩
            · refine k_if_ge_t C dX12_wants_141 (tgt := 149) (by decide) c7 ?_
              refine k_aload_n C dX12_wants_149 0 rfl ?_
              refine k_iload C dX12_wants_150 4 rfl ?_
              obtain ⟨t8, ht8, hf⟩ := bnd hf
              refine k_callVi C (As := [.int v5]) (c_X12_nextsOf hap v5 M t8 ht8) ML_X12_nextsOf wd_1637 shR_0 rfl rfl rfl ⟨Nat.le_of_ble_eq_true rfl, Nat.le_of_ble_eq_true rfl⟩ (Nat.le_of_ble_eq_true rfl) dX12_wants_152 ?_
              exact k_iret C hr hlk (prf hf) (prs hf) dX12_wants_155
            · refine k_if_ge_f C dX12_wants_141 (tgt := 149) (by decide) c7 ?_
              refine k_iload C dX12_wants_144 4 rfl ?_
              refine k_goto C dX12_wants_146 (tgt := 155) (by decide) ?_
              exact k_iret C hr hlk (prf hf) (prs hf) dX12_wants_155
      · refine k_icmp_ge_f C dX12_wants_54 (tgt := 125) (by decide) c4 ?_
        refine k_iload_n C dX12_wants_57 1 rfl ?_
        refine k_aload_n C dX12_wants_58 0 rfl ?_
        refine k_iload C dX12_wants_59 5 rfl ?_
        obtain ⟨t9, ht9, hf⟩ := bnd hf
        refine k_callVi C (As := [.int v6]) (c_X12_marksOf hap v6 M t9 ht9) ML_X12_marksOf wd_1633 shR_0 rfl rfl rfl ⟨Nat.le_of_ble_eq_true rfl, Nat.le_of_ble_eq_true rfl⟩ (Nat.le_of_ble_eq_true rfl) dX12_wants_61 ?_
        refine k_iconst C dX12_wants_64 (v := (-1 : Int32)) rfl ?_
        refine k_ixor C dX12_wants_65 ?_
        refine k_iand C dX12_wants_66 ?_
        rcases ite_g hf with ⟨c10, hf⟩ | ⟨c10, hf⟩
        · refine k_if_eq_t C dX12_wants_67 (tgt := 73) (by decide) c10 ?_
          refine k_iload C dX12_wants_73 3 rfl ?_
          rcases ite_g hf with ⟨c11, hf⟩ | ⟨c11, hf⟩
          · refine k_if_lt_t C dX12_wants_75 (tgt := 91) (by decide) c11 ?_
            refine k_lv [0, 1, 2, 4, 5] rfl ?_
            exact k_b91 v1 v2 v5 v6 M hf
          · refine k_if_lt_f C dX12_wants_75 (tgt := 91) (by decide) c11 ?_
            refine k_iload C dX12_wants_78 5 rfl ?_
            obtain ⟨t16, ht16, hf⟩ := bnd hf
            refine k_callSi C (As := [.int v6]) (c_X12_bits hap v6 M t16 ht16) MS_X12_bits wd_1463 rfl rfl ⟨Nat.le_of_ble_eq_true rfl, Nat.le_of_ble_eq_true rfl⟩ (Nat.le_of_ble_eq_true rfl) dX12_wants_80 ?_
            refine k_iload C dX12_wants_83 3 rfl ?_
            obtain ⟨t17, ht17, hf⟩ := bnd hf
            refine k_callSi C (As := [.int v4]) (c_X12_bits hap v4 M t17 ht17) MS_X12_bits wd_1463 rfl rfl ⟨Nat.le_of_ble_eq_true rfl, Nat.le_of_ble_eq_true rfl⟩ (Nat.le_of_ble_eq_true rfl) dX12_wants_85 ?_
            rcases ite_g hf with ⟨c18, hf⟩ | ⟨c18, hf⟩
            · refine k_icmp_ge_t C dX12_wants_88 (tgt := 95) (by decide) c18 ?_
              exact k_b95 v1 v2 v4 v5 v6 M hf
            · refine k_icmp_ge_f C dX12_wants_88 (tgt := 95) (by decide) c18 ?_
              refine k_lv [0, 1, 2, 4, 5] rfl ?_
              exact k_b91 v1 v2 v5 v6 M hf
        · refine k_if_eq_f C dX12_wants_67 (tgt := 73) (by decide) c10 ?_
          refine k_goto C dX12_wants_70 (tgt := 119) (by decide) ?_
          refine k_iinc C dX12_wants_119 5 rfl (v := (v6 + (1 : Int32))) rfl (by decide) [1, 2, 3, 4, 5, 0] (lv' := [(0, .ref (G.2.1 0)), (1, .int v1), (2, .int v2), (4, .int v4), (5, .int v5), (6, .int (v6 + (1 : Int32)))]) rfl ?_
          refine k_goto C dX12_wants_122 (tgt := 46) (by decide) ?_
          exact ih46 v1 v2 v4 v5 (v6 + (1 : Int32)) M hf
  have k_b25 : ∀ (v1 : Int32) (v2 : Int32) (v3 : Int32) (M : Mem), f_X12_wants_b25 v1 v2 v3 M = some r → K p l e (k_rm 5 112) s m args below meth c 7 G shR (MQ below (k_Qi G shR r.1 r.2) args s 0 0 (k_A G shR.length)) 25 [(0, .ref (G.2.1 0)), (1, .int v1), (2, .int v2), (3, .int v3)] [] M := by
    intro v1 v2 v3 M hf
    unfold f_X12_wants_b25 at hf
    refine k_iload_n C dX12_wants_25 3 rfl ?_
    rcases ite_g hf with ⟨c2, hf⟩ | ⟨c2, hf⟩
    · refine k_if_eq_t C dX12_wants_26 (tgt := 35) (by decide) c2 ?_
      refine k_bipush C dX12_wants_35 (v := (-9 : Int32)) rfl ?_
      refine k_istore C dX12_wants_37 (by decide) [1, 2, 3, 0] (lv' := [(0, .ref (G.2.1 0)), (1, .int v1), (2, .int v2), (4, .int (-9 : Int32))]) rfl ?_
      refine k_bipush C dX12_wants_39 (v := (-9 : Int32)) rfl ?_
      refine k_istore C dX12_wants_41 (by decide) [1, 2, 3, 4, 0] (lv' := [(0, .ref (G.2.1 0)), (1, .int v1), (2, .int v2), (4, .int (-9 : Int32)), (5, .int (-9 : Int32))]) rfl ?_
      refine k_iconst C dX12_wants_43 (v := (0 : Int32)) rfl ?_
      refine k_istore C dX12_wants_44 (by decide) [1, 2, 3, 4, 5, 0] (lv' := [(0, .ref (G.2.1 0)), (1, .int v1), (2, .int v2), (4, .int (-9 : Int32)), (5, .int (-9 : Int32)), (6, .int (0 : Int32))]) rfl ?_
      exact k_b46 FU v1 v2 (-9 : Int32) (-9 : Int32) (0 : Int32) M hf
    · refine k_if_eq_f C dX12_wants_26 (tgt := 35) (by decide) c2 ?_
      refine k_aload_n C dX12_wants_29 0 rfl ?_
      refine k_iload_n C dX12_wants_30 3 rfl ?_
      obtain ⟨⟨t19, M19⟩, ht19, hf⟩ := bnd hf
      replace hf := bp_s hf
      refine k_callVi C (As := [.int v3]) (c_X12_no hap v3 M (t19, M19) ht19) ML_X12_no wd_1369 shR_0 rfl rfl rfl ⟨Nat.le_of_ble_eq_true rfl, Nat.le_of_ble_eq_true rfl⟩ (Nat.le_of_ble_eq_true rfl) dX12_wants_31 ?_
      exact k_iret C hr hlk (prf hf) (prs hf) dX12_wants_34
  unfold f_X12_wants at hf
  refine k_lv (lv' := [(0, .ref (G.2.1 0)), (1, .int v1), (2, .int v2)]) [0, 1, 2] rfl ?_
  refine k_iload_n C dX12_wants_0 1 rfl ?_
  refine k_iconst C dX12_wants_1 (v := (0 : Int32)) rfl ?_
  refine k_sipush C dX12_wants_2 (v := (255 : Int32)) rfl ?_
  refine k_callSi C (As := [.int v1, .int (0 : Int32), .int (255 : Int32)]) (c_X12_bound hap v1 (0 : Int32) (255 : Int32) M0 _ rfl) MS_X12_bound wd_1366 rfl rfl ⟨Nat.le_of_ble_eq_true rfl, Nat.le_of_ble_eq_true rfl⟩ (Nat.le_of_ble_eq_true rfl) dX12_wants_5 ?_
  refine k_istore_n C dX12_wants_8 (by decide) [1, 2, 3, 0] (lv' := [(0, .ref (G.2.1 0)), (1, .int v1), (2, .int v2), (3, .int (f_X12_bound v1 (0 : Int32) (255 : Int32)))]) rfl ?_
  refine k_iload_n C dX12_wants_9 3 rfl ?_
  rcases ite_g hf with ⟨c1, hf⟩ | ⟨c1, hf⟩
  · refine k_if_ne_f C dX12_wants_10 (tgt := 25) (by decide) c1 ?_
    refine k_iload_n C dX12_wants_13 2 rfl ?_
    refine k_iconst C dX12_wants_14 (v := (0 : Int32)) rfl ?_
    refine k_iconst C dX12_wants_15 (v := (2 : Int32)) rfl ?_
    refine k_callSi C (As := [.int v2, .int (0 : Int32), .int (2 : Int32)]) (c_X12_isIn hap v2 (0 : Int32) (2 : Int32) M0 _ rfl) MS_X12_isIn wd_1393 rfl rfl ⟨Nat.le_of_ble_eq_true rfl, Nat.le_of_ble_eq_true rfl⟩ (Nat.le_of_ble_eq_true rfl) dX12_wants_16 ?_
    rcases ite_g hf with ⟨c20, hf⟩ | ⟨c20, hf⟩
    · refine k_if_ne_f C dX12_wants_19 (tgt := 25) (by decide) c20 ?_
      refine k_bipush C dX12_wants_22 (v := (-2 : Int32)) rfl ?_
      refine k_istore_n C dX12_wants_24 (by decide) [1, 2, 3, 0] (lv' := [(0, .ref (G.2.1 0)), (1, .int v1), (2, .int v2), (3, .int (-2 : Int32))]) rfl ?_
      exact k_b25 v1 v2 (-2 : Int32) M0 hf
    · refine k_if_ne_t C dX12_wants_19 (tgt := 25) (by decide) c20 ?_
      exact k_b25 v1 v2 (f_X12_bound v1 (0 : Int32) (255 : Int32)) M0 hf
  · refine k_if_ne_t C dX12_wants_10 (tgt := 25) (by decide) c1 ?_
    exact k_b25 v1 v2 (f_X12_bound v1 (0 : Int32) (255 : Int32)) M0 hf
