/-! walks, printed by a program of mine: each method meets its function -/
theorem dX3_sumOfKind_0 : decode cX3_sumOfKind 0 = .ok (.iconst 0, 1) := by decide +kernel
theorem dX3_sumOfKind_1 : decode cX3_sumOfKind 1 = .ok (.istore_n 2, 1) := by decide +kernel
theorem dX3_sumOfKind_2 : decode cX3_sumOfKind 2 = .ok (.iconst 0, 1) := by decide +kernel
theorem dX3_sumOfKind_3 : decode cX3_sumOfKind 3 = .ok (.istore_n 3, 1) := by decide +kernel
theorem dX3_sumOfKind_4 : decode cX3_sumOfKind 4 = .ok (.iload_n 3, 1) := by decide +kernel
theorem dX3_sumOfKind_5 : decode cX3_sumOfKind 5 = .ok (.aload_n 0, 1) := by decide +kernel
theorem dX3_sumOfKind_6 : decode cX3_sumOfKind 6 = .ok (.getfield 21, 3) := by decide +kernel
theorem dX3_sumOfKind_9 : decode cX3_sumOfKind 9 = .ok (.getfield 34, 3) := by decide +kernel
theorem dX3_sumOfKind_12 : decode cX3_sumOfKind 12 = .ok (.if_icmp .ge 39, 3) := by decide +kernel
theorem dX3_sumOfKind_15 : decode cX3_sumOfKind 15 = .ok (.aload_n 0, 1) := by decide +kernel
theorem dX3_sumOfKind_16 : decode cX3_sumOfKind 16 = .ok (.getfield 21, 3) := by decide +kernel
theorem dX3_sumOfKind_19 : decode cX3_sumOfKind 19 = .ok (.getfield 58, 3) := by decide +kernel
theorem dX3_sumOfKind_22 : decode cX3_sumOfKind 22 = .ok (.aload_n 0, 1) := by decide +kernel
theorem dX3_sumOfKind_23 : decode cX3_sumOfKind 23 = .ok (.getfield 21, 3) := by decide +kernel
theorem dX3_sumOfKind_26 : decode cX3_sumOfKind 26 = .ok (.getfield 40, 3) := by decide +kernel
theorem dX3_sumOfKind_29 : decode cX3_sumOfKind 29 = .ok (.iload_n 3, 1) := by decide +kernel
theorem dX3_sumOfKind_30 : decode cX3_sumOfKind 30 = .ok (.iaload, 1) := by decide +kernel
theorem dX3_sumOfKind_31 : decode cX3_sumOfKind 31 = .ok (.iaload, 1) := by decide +kernel
theorem dX3_sumOfKind_32 : decode cX3_sumOfKind 32 = .ok (.iload_n 1, 1) := by decide +kernel
theorem dX3_sumOfKind_33 : decode cX3_sumOfKind 33 = .ok (.if_icmp .ne 12, 3) := by decide +kernel
theorem dX3_sumOfKind_36 : decode cX3_sumOfKind 36 = .ok (.iload_n 2, 1) := by decide +kernel
theorem dX3_sumOfKind_37 : decode cX3_sumOfKind 37 = .ok (.aload_n 0, 1) := by decide +kernel
theorem dX3_sumOfKind_38 : decode cX3_sumOfKind 38 = .ok (.getfield 15, 3) := by decide +kernel
theorem dX3_sumOfKind_41 : decode cX3_sumOfKind 41 = .ok (.iload_n 3, 1) := by decide +kernel
theorem dX3_sumOfKind_42 : decode cX3_sumOfKind 42 = .ok (.iaload, 1) := by decide +kernel
theorem dX3_sumOfKind_43 : decode cX3_sumOfKind 43 = .ok (.iadd, 1) := by decide +kernel
theorem dX3_sumOfKind_44 : decode cX3_sumOfKind 44 = .ok (.istore_n 2, 1) := by decide +kernel
theorem dX3_sumOfKind_45 : decode cX3_sumOfKind 45 = .ok (.iinc 3 1, 3) := by decide +kernel
theorem dX3_sumOfKind_48 : decode cX3_sumOfKind 48 = .ok (.goto (-44), 3) := by decide +kernel
theorem dX3_sumOfKind_51 : decode cX3_sumOfKind 51 = .ok (.iload_n 2, 1) := by decide +kernel
theorem dX3_sumOfKind_52 : decode cX3_sumOfKind 52 = .ok (.ireturn, 1) := by decide +kernel
set_option maxRecDepth 100000 in
set_option maxHeartbeats 4000000 in
theorem c_X3_sumOfKind {l : Launch} {G : Gx} (hap : k_ap G shC.length) (v1 : Int32) (M0 : Mem) (r : Int32) (hf : f_X3_sumOfKind v1 M0 = some r) : k_Met l yX3_sumOfKind cX3_sumOfKind 4 (some .int) 0 0 G shC [.ref (G.2.1 28), .int v1] M0 (k_Qi G shC r M0) := by
  refine k_Met_of (by decide) hap (Nat.le_of_ble_eq_true rfl) ?_
  intro p e s m args below meth c C hr hlk
  have C : Cx p s m args c cX3_sumOfKind RX3 4 G shC := C
  have k_b4 : ∀ (n4 : Nat) (v1 : Int32) (v2 : Int32) (v3 : Int32), f_X3_sumOfKind_b4 M0 n4 v1 v2 v3 = some r → K p l e (k_rm 0 0) s m args below meth c 4 G shC (MQ below (k_Qi G shC r M0) args s 0 0 (k_A G shC.length)) 4 [(0, .ref (G.2.1 28)), (1, .int v1), (2, .int v2), (3, .int v3)] [] M0 := by
    intro n4
    induction n4 with
    | zero => intro v1 v2 v3 hf; simp [f_X3_sumOfKind_b4] at hf
    | succ n4 ih4 =>
      intro v1 v2 v3 hf
      unfold f_X3_sumOfKind_b4 at hf
      refine k_iload_n C dX3_sumOfKind_4 3 rfl ?_
      refine k_aload_n C dX3_sumOfKind_5 0 rfl ?_
      refine k_getr C shC_28 (j := 0) rfl FL_X3_21 dX3_sumOfKind_6 ?_
      refine k_geti C shC_1 (j := 5) rfl FL_X3_34 dX3_sumOfKind_9 ?_
      rcases ite_g hf with ⟨c1, hf⟩ | ⟨c1, hf⟩
      · refine k_icmp_ge_t C dX3_sumOfKind_12 (tgt := 51) (by decide) c1 ?_
        refine k_iload_n C dX3_sumOfKind_51 2 rfl ?_
        exact k_iret C hr hlk (Option.some.inj hf) rfl dX3_sumOfKind_52
      · refine k_icmp_ge_f C dX3_sumOfKind_12 (tgt := 51) (by decide) c1 ?_
        refine k_aload_n C dX3_sumOfKind_15 0 rfl ?_
        refine k_getr C shC_28 (j := 0) rfl FL_X3_21 dX3_sumOfKind_16 ?_
        refine k_getr C shC_1 (j := 0) rfl FL_X3_58 dX3_sumOfKind_19 ?_
        refine k_aload_n C dX3_sumOfKind_22 0 rfl ?_
        refine k_getr C shC_28 (j := 0) rfl FL_X3_21 dX3_sumOfKind_23 ?_
        refine k_getr C shC_1 (j := 3) rfl FL_X3_40 dX3_sumOfKind_26 ?_
        refine k_iload_n C dX3_sumOfKind_29 3 rfl ?_
        obtain ⟨t2, ht2, hf⟩ := bnd hf
        refine k_iald C shC_5 ht2 dX3_sumOfKind_30 ?_
        obtain ⟨t3, ht3, hf⟩ := bnd hf
        refine k_iald C shC_2 ht3 dX3_sumOfKind_31 ?_
        refine k_iload_n C dX3_sumOfKind_32 1 rfl ?_
        rcases ite_g hf with ⟨c4, hf⟩ | ⟨c4, hf⟩
        · refine k_icmp_ne_f C dX3_sumOfKind_33 (tgt := 45) (by decide) c4 ?_
          refine k_iload_n C dX3_sumOfKind_36 2 rfl ?_
          refine k_aload_n C dX3_sumOfKind_37 0 rfl ?_
          refine k_getr C shC_28 (j := 3) rfl FL_X3_15 dX3_sumOfKind_38 ?_
          refine k_iload_n C dX3_sumOfKind_41 3 rfl ?_
          obtain ⟨t5, ht5, hf⟩ := bnd hf
          refine k_iald C shC_30 ht5 dX3_sumOfKind_42 ?_
          refine k_iadd C dX3_sumOfKind_43 ?_
          refine k_istore_n C dX3_sumOfKind_44 (by decide) [1, 2, 0, 3] (lv' := [(0, .ref (G.2.1 28)), (1, .int v1), (2, .int (v2 + t5)), (3, .int v3)]) rfl ?_
          refine k_iinc C dX3_sumOfKind_45 3 rfl (v := (v3 + (1 : Int32))) rfl (by decide) [1, 2, 3, 0] (lv' := [(0, .ref (G.2.1 28)), (1, .int v1), (2, .int (v2 + t5)), (3, .int (v3 + (1 : Int32)))]) rfl ?_
          refine k_goto C dX3_sumOfKind_48 (tgt := 4) (by decide) ?_
          exact ih4 v1 (v2 + t5) (v3 + (1 : Int32)) hf
        · refine k_icmp_ne_t C dX3_sumOfKind_33 (tgt := 45) (by decide) c4 ?_
          refine k_iinc C dX3_sumOfKind_45 3 rfl (v := (v3 + (1 : Int32))) rfl (by decide) [1, 2, 3, 0] (lv' := [(0, .ref (G.2.1 28)), (1, .int v1), (2, .int v2), (3, .int (v3 + (1 : Int32)))]) rfl ?_
          refine k_goto C dX3_sumOfKind_48 (tgt := 4) (by decide) ?_
          exact ih4 v1 v2 (v3 + (1 : Int32)) hf
  unfold f_X3_sumOfKind at hf
  refine k_lv (lv' := [(0, .ref (G.2.1 28)), (1, .int v1)]) [0, 1] rfl ?_
  refine k_iconst C dX3_sumOfKind_0 (v := (0 : Int32)) rfl ?_
  refine k_istore_n C dX3_sumOfKind_1 (by decide) [1, 2, 0] (lv' := [(0, .ref (G.2.1 28)), (1, .int v1), (2, .int (0 : Int32))]) rfl ?_
  refine k_iconst C dX3_sumOfKind_2 (v := (0 : Int32)) rfl ?_
  refine k_istore_n C dX3_sumOfKind_3 (by decide) [1, 2, 3, 0] (lv' := [(0, .ref (G.2.1 28)), (1, .int v1), (2, .int (0 : Int32)), (3, .int (0 : Int32))]) rfl ?_
  exact k_b4 FU v1 (0 : Int32) (0 : Int32) hf
theorem dX3_totalOfKind_0 : decode cX3_totalOfKind 0 = .ok (.aload_n 0, 1) := by decide +kernel
theorem dX3_totalOfKind_1 : decode cX3_totalOfKind 1 = .ok (.invokevirtual 52, 3) := by decide +kernel
theorem dX3_totalOfKind_4 : decode cX3_totalOfKind 4 = .ok (.aload_n 0, 1) := by decide +kernel
theorem dX3_totalOfKind_5 : decode cX3_totalOfKind 5 = .ok (.iload_n 1, 1) := by decide +kernel
theorem dX3_totalOfKind_6 : decode cX3_totalOfKind 6 = .ok (.invokevirtual 55, 3) := by decide +kernel
theorem dX3_totalOfKind_9 : decode cX3_totalOfKind 9 = .ok (.ireturn, 1) := by decide +kernel
set_option maxRecDepth 100000 in
set_option maxHeartbeats 4000000 in
theorem c_X3_totalOfKind {l : Launch} {G : Gx} (hap : k_ap G shC.length) (v1 : Int32) (M0 : Mem) (r : Int32 × Mem) (hf : f_X3_totalOfKind v1 M0 = some r) : k_Met l yX3_totalOfKind cX3_totalOfKind 2 (some .int) 5 110 G shC [.ref (G.2.1 28), .int v1] M0 (k_Qi G shC r.1 r.2) := by
  refine k_Met_of (by decide) hap (Nat.le_of_ble_eq_true rfl) ?_
  intro p e s m args below meth c C hr hlk
  have C : Cx p s m args c cX3_totalOfKind RX3 2 G shC := C
  unfold f_X3_totalOfKind at hf
  refine k_lv (lv' := [(0, .ref (G.2.1 28)), (1, .int v1)]) [0, 1] rfl ?_
  refine k_aload_n C dX3_totalOfKind_0 0 rfl ?_
  obtain ⟨M1, hM1, hf⟩ := bnd hf
  refine k_callVv C (As := []) (c_X3_reckonPlaces hap M0 M1 hM1) ML_X3_reckonPlaces wd_670 shC_28 rfl rfl rfl ⟨Nat.le_of_ble_eq_true rfl, Nat.le_of_ble_eq_true rfl⟩ (Nat.le_of_ble_eq_true rfl) dX3_totalOfKind_1 ?_
  refine k_aload_n C dX3_totalOfKind_4 0 rfl ?_
  refine k_iload_n C dX3_totalOfKind_5 1 rfl ?_
  obtain ⟨t2, ht2, hf⟩ := bnd hf
  refine k_callVi C (As := [.int v1]) (c_X3_sumOfKind hap v1 M1 t2 ht2) ML_X3_sumOfKind wd_1153 shC_28 rfl rfl rfl ⟨Nat.le_of_ble_eq_true rfl, Nat.le_of_ble_eq_true rfl⟩ (Nat.le_of_ble_eq_true rfl) dX3_totalOfKind_6 ?_
  exact k_iret C hr hlk (prf hf) (prs hf) dX3_totalOfKind_9
theorem dX3_dearestKind_0 : decode cX3_dearestKind 0 = .ok (.aload_n 0, 1) := by decide +kernel
theorem dX3_dearestKind_1 : decode cX3_dearestKind 1 = .ok (.getfield 21, 3) := by decide +kernel
theorem dX3_dearestKind_4 : decode cX3_dearestKind 4 = .ok (.getfield 34, 3) := by decide +kernel
theorem dX3_dearestKind_7 : decode cX3_dearestKind 7 = .ok (.ifCond .ne 6, 3) := by decide +kernel
theorem dX3_dearestKind_10 : decode cX3_dearestKind 10 = .ok (.bipush (-9), 2) := by decide +kernel
theorem dX3_dearestKind_12 : decode cX3_dearestKind 12 = .ok (.ireturn, 1) := by decide +kernel
theorem dX3_dearestKind_13 : decode cX3_dearestKind 13 = .ok (.aload_n 0, 1) := by decide +kernel
theorem dX3_dearestKind_14 : decode cX3_dearestKind 14 = .ok (.invokevirtual 52, 3) := by decide +kernel
theorem dX3_dearestKind_17 : decode cX3_dearestKind 17 = .ok (.iconst 0, 1) := by decide +kernel
theorem dX3_dearestKind_18 : decode cX3_dearestKind 18 = .ok (.istore_n 1, 1) := by decide +kernel
theorem dX3_dearestKind_19 : decode cX3_dearestKind 19 = .ok (.iconst (-1), 1) := by decide +kernel
theorem dX3_dearestKind_20 : decode cX3_dearestKind 20 = .ok (.istore_n 2, 1) := by decide +kernel
theorem dX3_dearestKind_21 : decode cX3_dearestKind 21 = .ok (.iconst 0, 1) := by decide +kernel
theorem dX3_dearestKind_22 : decode cX3_dearestKind 22 = .ok (.istore_n 3, 1) := by decide +kernel
theorem dX3_dearestKind_23 : decode cX3_dearestKind 23 = .ok (.iload_n 3, 1) := by decide +kernel
theorem dX3_dearestKind_24 : decode cX3_dearestKind 24 = .ok (.bipush 6, 2) := by decide +kernel
theorem dX3_dearestKind_26 : decode cX3_dearestKind 26 = .ok (.if_icmp .ge 27, 3) := by decide +kernel
theorem dX3_dearestKind_29 : decode cX3_dearestKind 29 = .ok (.aload_n 0, 1) := by decide +kernel
theorem dX3_dearestKind_30 : decode cX3_dearestKind 30 = .ok (.iload_n 3, 1) := by decide +kernel
theorem dX3_dearestKind_31 : decode cX3_dearestKind 31 = .ok (.invokevirtual 55, 3) := by decide +kernel
theorem dX3_dearestKind_34 : decode cX3_dearestKind 34 = .ok (.istore 4, 2) := by decide +kernel
theorem dX3_dearestKind_36 : decode cX3_dearestKind 36 = .ok (.iload 4, 2) := by decide +kernel
theorem dX3_dearestKind_38 : decode cX3_dearestKind 38 = .ok (.iload_n 2, 1) := by decide +kernel
theorem dX3_dearestKind_39 : decode cX3_dearestKind 39 = .ok (.if_icmp .le 8, 3) := by decide +kernel
theorem dX3_dearestKind_42 : decode cX3_dearestKind 42 = .ok (.iload 4, 2) := by decide +kernel
theorem dX3_dearestKind_44 : decode cX3_dearestKind 44 = .ok (.istore_n 2, 1) := by decide +kernel
theorem dX3_dearestKind_45 : decode cX3_dearestKind 45 = .ok (.iload_n 3, 1) := by decide +kernel
theorem dX3_dearestKind_46 : decode cX3_dearestKind 46 = .ok (.istore_n 1, 1) := by decide +kernel
theorem dX3_dearestKind_47 : decode cX3_dearestKind 47 = .ok (.iinc 3 1, 3) := by decide +kernel
theorem dX3_dearestKind_50 : decode cX3_dearestKind 50 = .ok (.goto (-27), 3) := by decide +kernel
theorem dX3_dearestKind_53 : decode cX3_dearestKind 53 = .ok (.iload_n 1, 1) := by decide +kernel
theorem dX3_dearestKind_54 : decode cX3_dearestKind 54 = .ok (.ireturn, 1) := by decide +kernel
set_option maxRecDepth 100000 in
set_option maxHeartbeats 4000000 in
theorem c_X3_dearestKind {l : Launch} {G : Gx} (hap : k_ap G shC.length) (M0 : Mem) (r : Int32 × Mem) (hf : f_X3_dearestKind M0 = some r) : k_Met l yX3_dearestKind cX3_dearestKind 5 (some .int) 5 110 G shC [.ref (G.2.1 28)] M0 (k_Qi G shC r.1 r.2) := by
  refine k_Met_of (by decide) hap (Nat.le_of_ble_eq_true rfl) ?_
  intro p e s m args below meth c C hr hlk
  have C : Cx p s m args c cX3_dearestKind RX3 5 G shC := C
  have k_b23 : ∀ (n23 : Nat) (v1 : Int32) (v2 : Int32) (v3 : Int32) (M : Mem), f_X3_dearestKind_b23 n23 v1 v2 v3 M = some r → K p l e (k_rm 5 110) s m args below meth c 5 G shC (MQ below (k_Qi G shC r.1 r.2) args s 0 0 (k_A G shC.length)) 23 [(0, .ref (G.2.1 28)), (1, .int v1), (2, .int v2), (3, .int v3)] [] M := by
    intro n23
    induction n23 with
    | zero => intro v1 v2 v3 M hf; simp [f_X3_dearestKind_b23] at hf
    | succ n23 ih23 =>
      intro v1 v2 v3 M hf
      unfold f_X3_dearestKind_b23 at hf
      refine k_iload_n C dX3_dearestKind_23 3 rfl ?_
      refine k_bipush C dX3_dearestKind_24 (v := (6 : Int32)) rfl ?_
      rcases ite_g hf with ⟨c4, hf⟩ | ⟨c4, hf⟩
      · refine k_icmp_ge_t C dX3_dearestKind_26 (tgt := 53) (by decide) c4 ?_
        refine k_iload_n C dX3_dearestKind_53 1 rfl ?_
        exact k_iret C hr hlk (prf hf) (prs hf) dX3_dearestKind_54
      · refine k_icmp_ge_f C dX3_dearestKind_26 (tgt := 53) (by decide) c4 ?_
        refine k_aload_n C dX3_dearestKind_29 0 rfl ?_
        refine k_iload_n C dX3_dearestKind_30 3 rfl ?_
        obtain ⟨t5, ht5, hf⟩ := bnd hf
        refine k_callVi C (As := [.int v3]) (c_X3_sumOfKind hap v3 M t5 ht5) ML_X3_sumOfKind wd_1153 shC_28 rfl rfl rfl ⟨Nat.le_of_ble_eq_true rfl, Nat.le_of_ble_eq_true rfl⟩ (Nat.le_of_ble_eq_true rfl) dX3_dearestKind_31 ?_
        refine k_istore C dX3_dearestKind_34 (by decide) [1, 2, 3, 4, 0] (lv' := [(0, .ref (G.2.1 28)), (1, .int v1), (2, .int v2), (3, .int v3), (4, .int t5)]) rfl ?_
        refine k_iload C dX3_dearestKind_36 4 rfl ?_
        refine k_iload_n C dX3_dearestKind_38 2 rfl ?_
        rcases ite_g hf with ⟨c6, hf⟩ | ⟨c6, hf⟩
        · refine k_icmp_le_t C dX3_dearestKind_39 (tgt := 47) (by decide) c6 ?_
          refine k_iinc C dX3_dearestKind_47 3 rfl (v := (v3 + (1 : Int32))) rfl (by decide) [1, 2, 3, 0] (lv' := [(0, .ref (G.2.1 28)), (1, .int v1), (2, .int v2), (3, .int (v3 + (1 : Int32)))]) rfl ?_
          refine k_goto C dX3_dearestKind_50 (tgt := 23) (by decide) ?_
          exact ih23 v1 v2 (v3 + (1 : Int32)) M hf
        · refine k_icmp_le_f C dX3_dearestKind_39 (tgt := 47) (by decide) c6 ?_
          refine k_iload C dX3_dearestKind_42 4 rfl ?_
          refine k_istore_n C dX3_dearestKind_44 (by decide) [1, 0, 3] (lv' := [(0, .ref (G.2.1 28)), (2, .int t5), (3, .int v3)]) rfl ?_
          refine k_iload_n C dX3_dearestKind_45 2 rfl ?_
          refine k_istore_n C dX3_dearestKind_46 (by decide) [1, 0, 2, 3] (lv' := [(0, .ref (G.2.1 28)), (1, .int v3), (2, .int t5), (3, .int v3)]) rfl ?_
          refine k_iinc C dX3_dearestKind_47 3 rfl (v := (v3 + (1 : Int32))) rfl (by decide) [1, 2, 3, 0] (lv' := [(0, .ref (G.2.1 28)), (1, .int v3), (2, .int t5), (3, .int (v3 + (1 : Int32)))]) rfl ?_
          refine k_goto C dX3_dearestKind_50 (tgt := 23) (by decide) ?_
          exact ih23 v3 t5 (v3 + (1 : Int32)) M hf
  unfold f_X3_dearestKind at hf
  refine k_lv (lv' := [(0, .ref (G.2.1 28))]) [0] rfl ?_
  refine k_aload_n C dX3_dearestKind_0 0 rfl ?_
  refine k_getr C shC_28 (j := 0) rfl FL_X3_21 dX3_dearestKind_1 ?_
  refine k_geti C shC_1 (j := 5) rfl FL_X3_34 dX3_dearestKind_4 ?_
  rcases ite_g hf with ⟨c1, hf⟩ | ⟨c1, hf⟩
  · refine k_if_ne_f C dX3_dearestKind_7 (tgt := 13) (by decide) c1 ?_
    refine k_bipush C dX3_dearestKind_10 (v := (-9 : Int32)) rfl ?_
    exact k_iret C hr hlk (prf hf) (prs hf) dX3_dearestKind_12
  · refine k_if_ne_t C dX3_dearestKind_7 (tgt := 13) (by decide) c1 ?_
    refine k_aload_n C dX3_dearestKind_13 0 rfl ?_
    obtain ⟨M2, hM2, hf⟩ := bnd hf
    refine k_callVv C (As := []) (c_X3_reckonPlaces hap M0 M2 hM2) ML_X3_reckonPlaces wd_670 shC_28 rfl rfl rfl ⟨Nat.le_of_ble_eq_true rfl, Nat.le_of_ble_eq_true rfl⟩ (Nat.le_of_ble_eq_true rfl) dX3_dearestKind_14 ?_
    refine k_iconst C dX3_dearestKind_17 (v := (0 : Int32)) rfl ?_
    refine k_istore_n C dX3_dearestKind_18 (by decide) [1, 0] (lv' := [(0, .ref (G.2.1 28)), (1, .int (0 : Int32))]) rfl ?_
    refine k_iconst C dX3_dearestKind_19 (v := (-1 : Int32)) rfl ?_
    refine k_istore_n C dX3_dearestKind_20 (by decide) [1, 2, 0] (lv' := [(0, .ref (G.2.1 28)), (1, .int (0 : Int32)), (2, .int (-1 : Int32))]) rfl ?_
    refine k_iconst C dX3_dearestKind_21 (v := (0 : Int32)) rfl ?_
    refine k_istore_n C dX3_dearestKind_22 (by decide) [1, 2, 3, 0] (lv' := [(0, .ref (G.2.1 28)), (1, .int (0 : Int32)), (2, .int (-1 : Int32)), (3, .int (0 : Int32))]) rfl ?_
    exact k_b23 FU (0 : Int32) (-1 : Int32) (0 : Int32) M2 hf
theorem dX3_sumWithout_0 : decode cX3_sumWithout 0 = .ok (.aload_n 0, 1) := by decide +kernel
theorem dX3_sumWithout_1 : decode cX3_sumWithout 1 = .ok (.getfield 25, 3) := by decide +kernel
theorem dX3_sumWithout_4 : decode cX3_sumWithout 4 = .ok (.invokevirtual 61, 3) := by decide +kernel
theorem dX3_sumWithout_7 : decode cX3_sumWithout 7 = .ok (.iconst 0, 1) := by decide +kernel
theorem dX3_sumWithout_8 : decode cX3_sumWithout 8 = .ok (.istore_n 2, 1) := by decide +kernel
theorem dX3_sumWithout_9 : decode cX3_sumWithout 9 = .ok (.iconst 0, 1) := by decide +kernel
theorem dX3_sumWithout_10 : decode cX3_sumWithout 10 = .ok (.istore_n 3, 1) := by decide +kernel
theorem dX3_sumWithout_11 : decode cX3_sumWithout 11 = .ok (.iload_n 3, 1) := by decide +kernel
theorem dX3_sumWithout_12 : decode cX3_sumWithout 12 = .ok (.aload_n 0, 1) := by decide +kernel
theorem dX3_sumWithout_13 : decode cX3_sumWithout 13 = .ok (.getfield 21, 3) := by decide +kernel
theorem dX3_sumWithout_16 : decode cX3_sumWithout 16 = .ok (.getfield 34, 3) := by decide +kernel
theorem dX3_sumWithout_19 : decode cX3_sumWithout 19 = .ok (.if_icmp .ge 33, 3) := by decide +kernel
theorem dX3_sumWithout_22 : decode cX3_sumWithout 22 = .ok (.iload_n 3, 1) := by decide +kernel
theorem dX3_sumWithout_23 : decode cX3_sumWithout 23 = .ok (.iload_n 1, 1) := by decide +kernel
theorem dX3_sumWithout_24 : decode cX3_sumWithout 24 = .ok (.if_icmp .eq 22, 3) := by decide +kernel
theorem dX3_sumWithout_27 : decode cX3_sumWithout 27 = .ok (.iload_n 2, 1) := by decide +kernel
theorem dX3_sumWithout_28 : decode cX3_sumWithout 28 = .ok (.aload_n 0, 1) := by decide +kernel
theorem dX3_sumWithout_29 : decode cX3_sumWithout 29 = .ok (.getfield 25, 3) := by decide +kernel
theorem dX3_sumWithout_32 : decode cX3_sumWithout 32 = .ok (.aload_n 0, 1) := by decide +kernel
theorem dX3_sumWithout_33 : decode cX3_sumWithout 33 = .ok (.getfield 21, 3) := by decide +kernel
theorem dX3_sumWithout_36 : decode cX3_sumWithout 36 = .ok (.getfield 40, 3) := by decide +kernel
theorem dX3_sumWithout_39 : decode cX3_sumWithout 39 = .ok (.iload_n 3, 1) := by decide +kernel
theorem dX3_sumWithout_40 : decode cX3_sumWithout 40 = .ok (.iaload, 1) := by decide +kernel
theorem dX3_sumWithout_41 : decode cX3_sumWithout 41 = .ok (.invokevirtual 44, 3) := by decide +kernel
theorem dX3_sumWithout_44 : decode cX3_sumWithout 44 = .ok (.iadd, 1) := by decide +kernel
theorem dX3_sumWithout_45 : decode cX3_sumWithout 45 = .ok (.istore_n 2, 1) := by decide +kernel
theorem dX3_sumWithout_46 : decode cX3_sumWithout 46 = .ok (.iinc 3 1, 3) := by decide +kernel
theorem dX3_sumWithout_49 : decode cX3_sumWithout 49 = .ok (.goto (-38), 3) := by decide +kernel
theorem dX3_sumWithout_52 : decode cX3_sumWithout 52 = .ok (.iload_n 2, 1) := by decide +kernel
theorem dX3_sumWithout_53 : decode cX3_sumWithout 53 = .ok (.ireturn, 1) := by decide +kernel
set_option maxRecDepth 100000 in
set_option maxHeartbeats 4000000 in
theorem c_X3_sumWithout {l : Launch} {G : Gx} (hap : k_ap G shC.length) (v1 : Int32) (M0 : Mem) (r : Int32 × Mem) (hf : f_X3_sumWithout v1 M0 = some r) : k_Met l yX3_sumWithout cX3_sumWithout 4 (some .int) 2 46 G shC [.ref (G.2.1 28), .int v1] M0 (k_Qi G shC r.1 r.2) := by
  refine k_Met_of (by decide) hap (Nat.le_of_ble_eq_true rfl) ?_
  intro p e s m args below meth c C hr hlk
  have C : Cx p s m args c cX3_sumWithout RX3 4 G shC := C
  have k_b11 : ∀ (n11 : Nat) (v1 : Int32) (v2 : Int32) (v3 : Int32) (M : Mem), f_X3_sumWithout_b11 n11 v1 v2 v3 M = some r → K p l e (k_rm 2 46) s m args below meth c 4 G shC (MQ below (k_Qi G shC r.1 r.2) args s 0 0 (k_A G shC.length)) 11 [(0, .ref (G.2.1 28)), (1, .int v1), (2, .int v2), (3, .int v3)] [] M := by
    intro n11
    induction n11 with
    | zero => intro v1 v2 v3 M hf; simp [f_X3_sumWithout_b11] at hf
    | succ n11 ih11 =>
      intro v1 v2 v3 M hf
      unfold f_X3_sumWithout_b11 at hf
      refine k_iload_n C dX3_sumWithout_11 3 rfl ?_
      refine k_aload_n C dX3_sumWithout_12 0 rfl ?_
      refine k_getr C shC_28 (j := 0) rfl FL_X3_21 dX3_sumWithout_13 ?_
      refine k_geti C shC_1 (j := 5) rfl FL_X3_34 dX3_sumWithout_16 ?_
      rcases ite_g hf with ⟨c2, hf⟩ | ⟨c2, hf⟩
      · refine k_icmp_ge_t C dX3_sumWithout_19 (tgt := 52) (by decide) c2 ?_
        refine k_iload_n C dX3_sumWithout_52 2 rfl ?_
        exact k_iret C hr hlk (prf hf) (prs hf) dX3_sumWithout_53
      · refine k_icmp_ge_f C dX3_sumWithout_19 (tgt := 52) (by decide) c2 ?_
        refine k_iload_n C dX3_sumWithout_22 3 rfl ?_
        refine k_iload_n C dX3_sumWithout_23 1 rfl ?_
        rcases ite_g hf with ⟨c3, hf⟩ | ⟨c3, hf⟩
        · refine k_icmp_eq_t C dX3_sumWithout_24 (tgt := 46) (by decide) c3 ?_
          refine k_iinc C dX3_sumWithout_46 3 rfl (v := (v3 + (1 : Int32))) rfl (by decide) [1, 2, 3, 0] (lv' := [(0, .ref (G.2.1 28)), (1, .int v1), (2, .int v2), (3, .int (v3 + (1 : Int32)))]) rfl ?_
          refine k_goto C dX3_sumWithout_49 (tgt := 11) (by decide) ?_
          exact ih11 v1 v2 (v3 + (1 : Int32)) M hf
        · refine k_icmp_eq_f C dX3_sumWithout_24 (tgt := 46) (by decide) c3 ?_
          refine k_iload_n C dX3_sumWithout_27 2 rfl ?_
          refine k_aload_n C dX3_sumWithout_28 0 rfl ?_
          refine k_getr C shC_28 (j := 1) rfl FL_X3_25 dX3_sumWithout_29 ?_
          refine k_aload_n C dX3_sumWithout_32 0 rfl ?_
          refine k_getr C shC_28 (j := 0) rfl FL_X3_21 dX3_sumWithout_33 ?_
          refine k_getr C shC_1 (j := 3) rfl FL_X3_40 dX3_sumWithout_36 ?_
          refine k_iload_n C dX3_sumWithout_39 3 rfl ?_
          obtain ⟨t4, ht4, hf⟩ := bnd hf
          refine k_iald C shC_5 ht4 dX3_sumWithout_40 ?_
          obtain ⟨⟨t5, M5⟩, ht5, hf⟩ := bnd hf
          replace hf := bp_s hf
          refine k_callVi C (As := [.int t4]) (c_X8_step hap t4 M (t5, M5) ht5) ML_X8_step wd_675 shC_25 rfl rfl rfl ⟨Nat.le_of_ble_eq_true rfl, Nat.le_of_ble_eq_true rfl⟩ (Nat.le_of_ble_eq_true rfl) dX3_sumWithout_41 ?_
          refine k_iadd C dX3_sumWithout_44 ?_
          refine k_istore_n C dX3_sumWithout_45 (by decide) [1, 2, 0, 3] (lv' := [(0, .ref (G.2.1 28)), (1, .int v1), (2, .int (v2 + t5)), (3, .int v3)]) rfl ?_
          refine k_iinc C dX3_sumWithout_46 3 rfl (v := (v3 + (1 : Int32))) rfl (by decide) [1, 2, 3, 0] (lv' := [(0, .ref (G.2.1 28)), (1, .int v1), (2, .int (v2 + t5)), (3, .int (v3 + (1 : Int32)))]) rfl ?_
          refine k_goto C dX3_sumWithout_49 (tgt := 11) (by decide) ?_
          exact ih11 v1 (v2 + t5) (v3 + (1 : Int32)) M5 hf
  unfold f_X3_sumWithout at hf
  refine k_lv (lv' := [(0, .ref (G.2.1 28)), (1, .int v1)]) [0, 1] rfl ?_
  refine k_aload_n C dX3_sumWithout_0 0 rfl ?_
  refine k_getr C shC_28 (j := 1) rfl FL_X3_25 dX3_sumWithout_1 ?_
  obtain ⟨M1, hM1, hf⟩ := bnd hf
  refine k_callVv C (As := []) (c_X8_forgetSteps hap M0 M1 hM1) ML_X8_forgetSteps wd_908 shC_25 rfl rfl rfl ⟨Nat.le_of_ble_eq_true rfl, Nat.le_of_ble_eq_true rfl⟩ (Nat.le_of_ble_eq_true rfl) dX3_sumWithout_4 ?_
  refine k_iconst C dX3_sumWithout_7 (v := (0 : Int32)) rfl ?_
  refine k_istore_n C dX3_sumWithout_8 (by decide) [1, 2, 0] (lv' := [(0, .ref (G.2.1 28)), (1, .int v1), (2, .int (0 : Int32))]) rfl ?_
  refine k_iconst C dX3_sumWithout_9 (v := (0 : Int32)) rfl ?_
  refine k_istore_n C dX3_sumWithout_10 (by decide) [1, 2, 3, 0] (lv' := [(0, .ref (G.2.1 28)), (1, .int v1), (2, .int (0 : Int32)), (3, .int (0 : Int32))]) rfl ?_
  exact k_b11 FU v1 (0 : Int32) (0 : Int32) M1 hf
theorem dX3_savingOf_0 : decode cX3_savingOf 0 = .ok (.aload_n 0, 1) := by decide +kernel
theorem dX3_savingOf_1 : decode cX3_savingOf 1 = .ok (.getfield 25, 3) := by decide +kernel
theorem dX3_savingOf_4 : decode cX3_savingOf 4 = .ok (.invokevirtual 48, 3) := by decide +kernel
theorem dX3_savingOf_7 : decode cX3_savingOf 7 = .ok (.aload_n 0, 1) := by decide +kernel
theorem dX3_savingOf_8 : decode cX3_savingOf 8 = .ok (.iload_n 1, 1) := by decide +kernel
theorem dX3_savingOf_9 : decode cX3_savingOf 9 = .ok (.invokevirtual 64, 3) := by decide +kernel
theorem dX3_savingOf_12 : decode cX3_savingOf 12 = .ok (.isub, 1) := by decide +kernel
theorem dX3_savingOf_13 : decode cX3_savingOf 13 = .ok (.ireturn, 1) := by decide +kernel
set_option maxRecDepth 100000 in
set_option maxHeartbeats 4000000 in
theorem c_X3_savingOf {l : Launch} {G : Gx} (hap : k_ap G shC.length) (v1 : Int32) (M0 : Mem) (r : Int32 × Mem) (hf : f_X3_savingOf v1 M0 = some r) : k_Met l yX3_savingOf cX3_savingOf 2 (some .int) 4 88 G shC [.ref (G.2.1 28), .int v1] M0 (k_Qi G shC r.1 r.2) := by
  refine k_Met_of (by decide) hap (Nat.le_of_ble_eq_true rfl) ?_
  intro p e s m args below meth c C hr hlk
  have C : Cx p s m args c cX3_savingOf RX3 2 G shC := C
  unfold f_X3_savingOf at hf
  refine k_lv (lv' := [(0, .ref (G.2.1 28)), (1, .int v1)]) [0, 1] rfl ?_
  refine k_aload_n C dX3_savingOf_0 0 rfl ?_
  refine k_getr C shC_28 (j := 1) rfl FL_X3_25 dX3_savingOf_1 ?_
  obtain ⟨⟨t1, M1⟩, ht1, hf⟩ := bnd hf
  replace hf := bp_s hf
  refine k_callVi C (As := []) (c_X8_total hap M0 (t1, M1) ht1) ML_X8_total wd_684 shC_25 rfl rfl rfl ⟨Nat.le_of_ble_eq_true rfl, Nat.le_of_ble_eq_true rfl⟩ (Nat.le_of_ble_eq_true rfl) dX3_savingOf_4 ?_
  refine k_aload_n C dX3_savingOf_7 0 rfl ?_
  refine k_iload_n C dX3_savingOf_8 1 rfl ?_
  obtain ⟨⟨t2, M2⟩, ht2, hf⟩ := bnd hf
  replace hf := bp_s hf
  refine k_callVi C (As := [.int v1]) (c_X3_sumWithout hap v1 M1 (t2, M2) ht2) ML_X3_sumWithout wd_904 shC_28 rfl rfl rfl ⟨Nat.le_of_ble_eq_true rfl, Nat.le_of_ble_eq_true rfl⟩ (Nat.le_of_ble_eq_true rfl) dX3_savingOf_9 ?_
  refine k_isub C dX3_savingOf_12 ?_
  exact k_iret C hr hlk (prf hf) (prs hf) dX3_savingOf_13
theorem dX3_bestSaving_0 : decode cX3_bestSaving 0 = .ok (.aload_n 0, 1) := by decide +kernel
theorem dX3_bestSaving_1 : decode cX3_bestSaving 1 = .ok (.getfield 25, 3) := by decide +kernel
theorem dX3_bestSaving_4 : decode cX3_bestSaving 4 = .ok (.invokevirtual 29, 3) := by decide +kernel
theorem dX3_bestSaving_7 : decode cX3_bestSaving 7 = .ok (.bipush (-9), 2) := by decide +kernel
theorem dX3_bestSaving_9 : decode cX3_bestSaving 9 = .ok (.istore_n 1, 1) := by decide +kernel
theorem dX3_bestSaving_10 : decode cX3_bestSaving 10 = .ok (.ldc 67, 2) := by decide +kernel
theorem dX3_bestSaving_12 : decode cX3_bestSaving 12 = .ok (.istore_n 2, 1) := by decide +kernel
theorem dX3_bestSaving_13 : decode cX3_bestSaving 13 = .ok (.iconst 0, 1) := by decide +kernel
theorem dX3_bestSaving_14 : decode cX3_bestSaving 14 = .ok (.istore_n 3, 1) := by decide +kernel
theorem dX3_bestSaving_15 : decode cX3_bestSaving 15 = .ok (.iload_n 3, 1) := by decide +kernel
theorem dX3_bestSaving_16 : decode cX3_bestSaving 16 = .ok (.aload_n 0, 1) := by decide +kernel
theorem dX3_bestSaving_17 : decode cX3_bestSaving 17 = .ok (.getfield 21, 3) := by decide +kernel
theorem dX3_bestSaving_20 : decode cX3_bestSaving 20 = .ok (.getfield 34, 3) := by decide +kernel
theorem dX3_bestSaving_23 : decode cX3_bestSaving 23 = .ok (.if_icmp .ge 27, 3) := by decide +kernel
theorem dX3_bestSaving_26 : decode cX3_bestSaving 26 = .ok (.aload_n 0, 1) := by decide +kernel
theorem dX3_bestSaving_27 : decode cX3_bestSaving 27 = .ok (.iload_n 3, 1) := by decide +kernel
theorem dX3_bestSaving_28 : decode cX3_bestSaving 28 = .ok (.invokevirtual 64, 3) := by decide +kernel
theorem dX3_bestSaving_31 : decode cX3_bestSaving 31 = .ok (.istore 4, 2) := by decide +kernel
theorem dX3_bestSaving_33 : decode cX3_bestSaving 33 = .ok (.iload 4, 2) := by decide +kernel
theorem dX3_bestSaving_35 : decode cX3_bestSaving 35 = .ok (.iload_n 2, 1) := by decide +kernel
theorem dX3_bestSaving_36 : decode cX3_bestSaving 36 = .ok (.if_icmp .ge 8, 3) := by decide +kernel
theorem dX3_bestSaving_39 : decode cX3_bestSaving 39 = .ok (.iload 4, 2) := by decide +kernel
theorem dX3_bestSaving_41 : decode cX3_bestSaving 41 = .ok (.istore_n 2, 1) := by decide +kernel
theorem dX3_bestSaving_42 : decode cX3_bestSaving 42 = .ok (.iload_n 3, 1) := by decide +kernel
theorem dX3_bestSaving_43 : decode cX3_bestSaving 43 = .ok (.istore_n 1, 1) := by decide +kernel
theorem dX3_bestSaving_44 : decode cX3_bestSaving 44 = .ok (.iinc 3 1, 3) := by decide +kernel
theorem dX3_bestSaving_47 : decode cX3_bestSaving 47 = .ok (.goto (-32), 3) := by decide +kernel
theorem dX3_bestSaving_50 : decode cX3_bestSaving 50 = .ok (.iload_n 1, 1) := by decide +kernel
theorem dX3_bestSaving_51 : decode cX3_bestSaving 51 = .ok (.ireturn, 1) := by decide +kernel
set_option maxRecDepth 100000 in
set_option maxHeartbeats 4000000 in
theorem c_X3_bestSaving {l : Launch} {G : Gx} (hap : k_ap G shC.length) (M0 : Mem) (r : Int32 × Mem) (hf : f_X3_bestSaving M0 = some r) : k_Met l yX3_bestSaving cX3_bestSaving 5 (some .int) 4 88 G shC [.ref (G.2.1 28)] M0 (k_Qi G shC r.1 r.2) := by
  refine k_Met_of (by decide) hap (Nat.le_of_ble_eq_true rfl) ?_
  intro p e s m args below meth c C hr hlk
  have C : Cx p s m args c cX3_bestSaving RX3 5 G shC := C
  have k_b15 : ∀ (n15 : Nat) (v1 : Int32) (v2 : Int32) (v3 : Int32) (M : Mem), f_X3_bestSaving_b15 n15 v1 v2 v3 M = some r → K p l e (k_rm 4 88) s m args below meth c 5 G shC (MQ below (k_Qi G shC r.1 r.2) args s 0 0 (k_A G shC.length)) 15 [(0, .ref (G.2.1 28)), (1, .int v1), (2, .int v2), (3, .int v3)] [] M := by
    intro n15
    induction n15 with
    | zero => intro v1 v2 v3 M hf; simp [f_X3_bestSaving_b15] at hf
    | succ n15 ih15 =>
      intro v1 v2 v3 M hf
      unfold f_X3_bestSaving_b15 at hf
      refine k_iload_n C dX3_bestSaving_15 3 rfl ?_
      refine k_aload_n C dX3_bestSaving_16 0 rfl ?_
      refine k_getr C shC_28 (j := 0) rfl FL_X3_21 dX3_bestSaving_17 ?_
      refine k_geti C shC_1 (j := 5) rfl FL_X3_34 dX3_bestSaving_20 ?_
      rcases ite_g hf with ⟨c3, hf⟩ | ⟨c3, hf⟩
      · refine k_icmp_ge_t C dX3_bestSaving_23 (tgt := 50) (by decide) c3 ?_
        refine k_iload_n C dX3_bestSaving_50 1 rfl ?_
        exact k_iret C hr hlk (prf hf) (prs hf) dX3_bestSaving_51
      · refine k_icmp_ge_f C dX3_bestSaving_23 (tgt := 50) (by decide) c3 ?_
        refine k_aload_n C dX3_bestSaving_26 0 rfl ?_
        refine k_iload_n C dX3_bestSaving_27 3 rfl ?_
        obtain ⟨⟨t4, M4⟩, ht4, hf⟩ := bnd hf
        replace hf := bp_s hf
        refine k_callVi C (As := [.int v3]) (c_X3_sumWithout hap v3 M (t4, M4) ht4) ML_X3_sumWithout wd_904 shC_28 rfl rfl rfl ⟨Nat.le_of_ble_eq_true rfl, Nat.le_of_ble_eq_true rfl⟩ (Nat.le_of_ble_eq_true rfl) dX3_bestSaving_28 ?_
        refine k_istore C dX3_bestSaving_31 (by decide) [1, 2, 3, 4, 0] (lv' := [(0, .ref (G.2.1 28)), (1, .int v1), (2, .int v2), (3, .int v3), (4, .int t4)]) rfl ?_
        refine k_iload C dX3_bestSaving_33 4 rfl ?_
        refine k_iload_n C dX3_bestSaving_35 2 rfl ?_
        rcases ite_g hf with ⟨c5, hf⟩ | ⟨c5, hf⟩
        · refine k_icmp_ge_t C dX3_bestSaving_36 (tgt := 44) (by decide) c5 ?_
          refine k_iinc C dX3_bestSaving_44 3 rfl (v := (v3 + (1 : Int32))) rfl (by decide) [1, 2, 3, 0] (lv' := [(0, .ref (G.2.1 28)), (1, .int v1), (2, .int v2), (3, .int (v3 + (1 : Int32)))]) rfl ?_
          refine k_goto C dX3_bestSaving_47 (tgt := 15) (by decide) ?_
          exact ih15 v1 v2 (v3 + (1 : Int32)) M4 hf
        · refine k_icmp_ge_f C dX3_bestSaving_36 (tgt := 44) (by decide) c5 ?_
          refine k_iload C dX3_bestSaving_39 4 rfl ?_
          refine k_istore_n C dX3_bestSaving_41 (by decide) [1, 0, 3] (lv' := [(0, .ref (G.2.1 28)), (2, .int t4), (3, .int v3)]) rfl ?_
          refine k_iload_n C dX3_bestSaving_42 2 rfl ?_
          refine k_istore_n C dX3_bestSaving_43 (by decide) [1, 0, 2, 3] (lv' := [(0, .ref (G.2.1 28)), (1, .int v3), (2, .int t4), (3, .int v3)]) rfl ?_
          refine k_iinc C dX3_bestSaving_44 3 rfl (v := (v3 + (1 : Int32))) rfl (by decide) [1, 2, 3, 0] (lv' := [(0, .ref (G.2.1 28)), (1, .int v3), (2, .int t4), (3, .int (v3 + (1 : Int32)))]) rfl ?_
          refine k_goto C dX3_bestSaving_47 (tgt := 15) (by decide) ?_
          exact ih15 v3 t4 (v3 + (1 : Int32)) M4 hf
  unfold f_X3_bestSaving at hf
  refine k_lv (lv' := [(0, .ref (G.2.1 28))]) [0] rfl ?_
  refine k_aload_n C dX3_bestSaving_0 0 rfl ?_
  refine k_getr C shC_28 (j := 1) rfl FL_X3_25 dX3_bestSaving_1 ?_
  obtain ⟨M1, hM1, hf⟩ := bnd hf
  refine k_callVv C (As := []) (c_X8_open hap M0 M1 hM1) ML_X8_open wd_674 shC_25 rfl rfl rfl ⟨Nat.le_of_ble_eq_true rfl, Nat.le_of_ble_eq_true rfl⟩ (Nat.le_of_ble_eq_true rfl) dX3_bestSaving_4 ?_
  refine k_bipush C dX3_bestSaving_7 (v := (-9 : Int32)) rfl ?_
  refine k_istore_n C dX3_bestSaving_9 (by decide) [1, 0] (lv' := [(0, .ref (G.2.1 28)), (1, .int (-9 : Int32))]) rfl ?_
  refine k_ldc C dX3_bestSaving_10 wd_903 ?_
  refine k_istore_n C dX3_bestSaving_12 (by decide) [1, 2, 0] (lv' := [(0, .ref (G.2.1 28)), (1, .int (-9 : Int32)), (2, .int (2147483647 : Int32))]) rfl ?_
  refine k_iconst C dX3_bestSaving_13 (v := (0 : Int32)) rfl ?_
  refine k_istore_n C dX3_bestSaving_14 (by decide) [1, 2, 3, 0] (lv' := [(0, .ref (G.2.1 28)), (1, .int (-9 : Int32)), (2, .int (2147483647 : Int32)), (3, .int (0 : Int32))]) rfl ?_
  exact k_b15 FU (-9 : Int32) (2147483647 : Int32) (0 : Int32) M1 hf
theorem dX3_sumMoved_0 : decode cX3_sumMoved 0 = .ok (.aload_n 0, 1) := by decide +kernel
theorem dX3_sumMoved_1 : decode cX3_sumMoved 1 = .ok (.iload_n 1, 1) := by decide +kernel
theorem dX3_sumMoved_2 : decode cX3_sumMoved 2 = .ok (.invokevirtual 64, 3) := by decide +kernel
theorem dX3_sumMoved_5 : decode cX3_sumMoved 5 = .ok (.istore_n 2, 1) := by decide +kernel
theorem dX3_sumMoved_6 : decode cX3_sumMoved 6 = .ok (.iload_n 2, 1) := by decide +kernel
theorem dX3_sumMoved_7 : decode cX3_sumMoved 7 = .ok (.aload_n 0, 1) := by decide +kernel
theorem dX3_sumMoved_8 : decode cX3_sumMoved 8 = .ok (.getfield 25, 3) := by decide +kernel
theorem dX3_sumMoved_11 : decode cX3_sumMoved 11 = .ok (.aload_n 0, 1) := by decide +kernel
theorem dX3_sumMoved_12 : decode cX3_sumMoved 12 = .ok (.getfield 21, 3) := by decide +kernel
theorem dX3_sumMoved_15 : decode cX3_sumMoved 15 = .ok (.getfield 40, 3) := by decide +kernel
theorem dX3_sumMoved_18 : decode cX3_sumMoved 18 = .ok (.iload_n 1, 1) := by decide +kernel
theorem dX3_sumMoved_19 : decode cX3_sumMoved 19 = .ok (.iaload, 1) := by decide +kernel
theorem dX3_sumMoved_20 : decode cX3_sumMoved 20 = .ok (.invokevirtual 44, 3) := by decide +kernel
theorem dX3_sumMoved_23 : decode cX3_sumMoved 23 = .ok (.iadd, 1) := by decide +kernel
theorem dX3_sumMoved_24 : decode cX3_sumMoved 24 = .ok (.ireturn, 1) := by decide +kernel
set_option maxRecDepth 100000 in
set_option maxHeartbeats 4000000 in
theorem c_X3_sumMoved {l : Launch} {G : Gx} (hap : k_ap G shC.length) (v1 : Int32) (M0 : Mem) (r : Int32 × Mem) (hf : f_X3_sumMoved v1 M0 = some r) : k_Met l yX3_sumMoved cX3_sumMoved 3 (some .int) 3 69 G shC [.ref (G.2.1 28), .int v1] M0 (k_Qi G shC r.1 r.2) := by
  refine k_Met_of (by decide) hap (Nat.le_of_ble_eq_true rfl) ?_
  intro p e s m args below meth c C hr hlk
  have C : Cx p s m args c cX3_sumMoved RX3 3 G shC := C
  unfold f_X3_sumMoved at hf
  refine k_lv (lv' := [(0, .ref (G.2.1 28)), (1, .int v1)]) [0, 1] rfl ?_
  refine k_aload_n C dX3_sumMoved_0 0 rfl ?_
  refine k_iload_n C dX3_sumMoved_1 1 rfl ?_
  obtain ⟨⟨t1, M1⟩, ht1, hf⟩ := bnd hf
  replace hf := bp_s hf
  refine k_callVi C (As := [.int v1]) (c_X3_sumWithout hap v1 M0 (t1, M1) ht1) ML_X3_sumWithout wd_904 shC_28 rfl rfl rfl ⟨Nat.le_of_ble_eq_true rfl, Nat.le_of_ble_eq_true rfl⟩ (Nat.le_of_ble_eq_true rfl) dX3_sumMoved_2 ?_
  refine k_istore_n C dX3_sumMoved_5 (by decide) [1, 2, 0] (lv' := [(0, .ref (G.2.1 28)), (1, .int v1), (2, .int t1)]) rfl ?_
  refine k_iload_n C dX3_sumMoved_6 2 rfl ?_
  refine k_aload_n C dX3_sumMoved_7 0 rfl ?_
  refine k_getr C shC_28 (j := 1) rfl FL_X3_25 dX3_sumMoved_8 ?_
  refine k_aload_n C dX3_sumMoved_11 0 rfl ?_
  refine k_getr C shC_28 (j := 0) rfl FL_X3_21 dX3_sumMoved_12 ?_
  refine k_getr C shC_1 (j := 3) rfl FL_X3_40 dX3_sumMoved_15 ?_
  refine k_iload_n C dX3_sumMoved_18 1 rfl ?_
  obtain ⟨t2, ht2, hf⟩ := bnd hf
  refine k_iald C shC_5 ht2 dX3_sumMoved_19 ?_
  obtain ⟨⟨t3, M3⟩, ht3, hf⟩ := bnd hf
  replace hf := bp_s hf
  refine k_callVi C (As := [.int t2]) (c_X8_step hap t2 M1 (t3, M3) ht3) ML_X8_step wd_675 shC_25 rfl rfl rfl ⟨Nat.le_of_ble_eq_true rfl, Nat.le_of_ble_eq_true rfl⟩ (Nat.le_of_ble_eq_true rfl) dX3_sumMoved_20 ?_
  refine k_iadd C dX3_sumMoved_23 ?_
  exact k_iret C hr hlk (prf hf) (prs hf) dX3_sumMoved_24
theorem dX3_totalMoved_0 : decode cX3_totalMoved 0 = .ok (.aload_n 0, 1) := by decide +kernel
theorem dX3_totalMoved_1 : decode cX3_totalMoved 1 = .ok (.getfield 25, 3) := by decide +kernel
theorem dX3_totalMoved_4 : decode cX3_totalMoved 4 = .ok (.invokevirtual 29, 3) := by decide +kernel
theorem dX3_totalMoved_7 : decode cX3_totalMoved 7 = .ok (.aload_n 0, 1) := by decide +kernel
theorem dX3_totalMoved_8 : decode cX3_totalMoved 8 = .ok (.iload_n 1, 1) := by decide +kernel
theorem dX3_totalMoved_9 : decode cX3_totalMoved 9 = .ok (.invokevirtual 68, 3) := by decide +kernel
theorem dX3_totalMoved_12 : decode cX3_totalMoved 12 = .ok (.ireturn, 1) := by decide +kernel
set_option maxRecDepth 100000 in
set_option maxHeartbeats 4000000 in
theorem c_X3_totalMoved {l : Launch} {G : Gx} (hap : k_ap G shC.length) (v1 : Int32) (M0 : Mem) (r : Int32 × Mem) (hf : f_X3_totalMoved v1 M0 = some r) : k_Met l yX3_totalMoved cX3_totalMoved 2 (some .int) 4 91 G shC [.ref (G.2.1 28), .int v1] M0 (k_Qi G shC r.1 r.2) := by
  refine k_Met_of (by decide) hap (Nat.le_of_ble_eq_true rfl) ?_
  intro p e s m args below meth c C hr hlk
  have C : Cx p s m args c cX3_totalMoved RX3 2 G shC := C
  unfold f_X3_totalMoved at hf
  refine k_lv (lv' := [(0, .ref (G.2.1 28)), (1, .int v1)]) [0, 1] rfl ?_
  refine k_aload_n C dX3_totalMoved_0 0 rfl ?_
  refine k_getr C shC_28 (j := 1) rfl FL_X3_25 dX3_totalMoved_1 ?_
  obtain ⟨M1, hM1, hf⟩ := bnd hf
  refine k_callVv C (As := []) (c_X8_open hap M0 M1 hM1) ML_X8_open wd_674 shC_25 rfl rfl rfl ⟨Nat.le_of_ble_eq_true rfl, Nat.le_of_ble_eq_true rfl⟩ (Nat.le_of_ble_eq_true rfl) dX3_totalMoved_4 ?_
  refine k_aload_n C dX3_totalMoved_7 0 rfl ?_
  refine k_iload_n C dX3_totalMoved_8 1 rfl ?_
  obtain ⟨⟨t2, M2⟩, ht2, hf⟩ := bnd hf
  replace hf := bp_s hf
  refine k_callVi C (As := [.int v1]) (c_X3_sumMoved hap v1 M1 (t2, M2) ht2) ML_X3_sumMoved wd_1185 shC_28 rfl rfl rfl ⟨Nat.le_of_ble_eq_true rfl, Nat.le_of_ble_eq_true rfl⟩ (Nat.le_of_ble_eq_true rfl) dX3_totalMoved_9 ?_
  exact k_iret C hr hlk (prf hf) (prs hf) dX3_totalMoved_12
theorem dX3_bestMove_0 : decode cX3_bestMove 0 = .ok (.bipush (-9), 2) := by decide +kernel
theorem dX3_bestMove_2 : decode cX3_bestMove 2 = .ok (.istore_n 1, 1) := by decide +kernel
theorem dX3_bestMove_3 : decode cX3_bestMove 3 = .ok (.aload_n 0, 1) := by decide +kernel
theorem dX3_bestMove_4 : decode cX3_bestMove 4 = .ok (.getfield 25, 3) := by decide +kernel
theorem dX3_bestMove_7 : decode cX3_bestMove 7 = .ok (.invokevirtual 48, 3) := by decide +kernel
theorem dX3_bestMove_10 : decode cX3_bestMove 10 = .ok (.istore_n 2, 1) := by decide +kernel
theorem dX3_bestMove_11 : decode cX3_bestMove 11 = .ok (.iconst 0, 1) := by decide +kernel
theorem dX3_bestMove_12 : decode cX3_bestMove 12 = .ok (.istore_n 3, 1) := by decide +kernel
theorem dX3_bestMove_13 : decode cX3_bestMove 13 = .ok (.iload_n 3, 1) := by decide +kernel
theorem dX3_bestMove_14 : decode cX3_bestMove 14 = .ok (.aload_n 0, 1) := by decide +kernel
theorem dX3_bestMove_15 : decode cX3_bestMove 15 = .ok (.getfield 21, 3) := by decide +kernel
theorem dX3_bestMove_18 : decode cX3_bestMove 18 = .ok (.getfield 34, 3) := by decide +kernel
theorem dX3_bestMove_21 : decode cX3_bestMove 21 = .ok (.if_icmp .ge 27, 3) := by decide +kernel
theorem dX3_bestMove_24 : decode cX3_bestMove 24 = .ok (.aload_n 0, 1) := by decide +kernel
theorem dX3_bestMove_25 : decode cX3_bestMove 25 = .ok (.iload_n 3, 1) := by decide +kernel
theorem dX3_bestMove_26 : decode cX3_bestMove 26 = .ok (.invokevirtual 68, 3) := by decide +kernel
theorem dX3_bestMove_29 : decode cX3_bestMove 29 = .ok (.istore 4, 2) := by decide +kernel
theorem dX3_bestMove_31 : decode cX3_bestMove 31 = .ok (.iload 4, 2) := by decide +kernel
theorem dX3_bestMove_33 : decode cX3_bestMove 33 = .ok (.iload_n 2, 1) := by decide +kernel
theorem dX3_bestMove_34 : decode cX3_bestMove 34 = .ok (.if_icmp .ge 8, 3) := by decide +kernel
theorem dX3_bestMove_37 : decode cX3_bestMove 37 = .ok (.iload 4, 2) := by decide +kernel
theorem dX3_bestMove_39 : decode cX3_bestMove 39 = .ok (.istore_n 2, 1) := by decide +kernel
theorem dX3_bestMove_40 : decode cX3_bestMove 40 = .ok (.iload_n 3, 1) := by decide +kernel
theorem dX3_bestMove_41 : decode cX3_bestMove 41 = .ok (.istore_n 1, 1) := by decide +kernel
theorem dX3_bestMove_42 : decode cX3_bestMove 42 = .ok (.iinc 3 1, 3) := by decide +kernel
theorem dX3_bestMove_45 : decode cX3_bestMove 45 = .ok (.goto (-32), 3) := by decide +kernel
theorem dX3_bestMove_48 : decode cX3_bestMove 48 = .ok (.iload_n 1, 1) := by decide +kernel
theorem dX3_bestMove_49 : decode cX3_bestMove 49 = .ok (.ireturn, 1) := by decide +kernel
set_option maxRecDepth 100000 in
set_option maxHeartbeats 4000000 in
theorem c_X3_bestMove {l : Launch} {G : Gx} (hap : k_ap G shC.length) (M0 : Mem) (r : Int32 × Mem) (hf : f_X3_bestMove M0 = some r) : k_Met l yX3_bestMove cX3_bestMove 5 (some .int) 4 91 G shC [.ref (G.2.1 28)] M0 (k_Qi G shC r.1 r.2) := by
  refine k_Met_of (by decide) hap (Nat.le_of_ble_eq_true rfl) ?_
  intro p e s m args below meth c C hr hlk
  have C : Cx p s m args c cX3_bestMove RX3 5 G shC := C
  have k_b13 : ∀ (n13 : Nat) (v1 : Int32) (v2 : Int32) (v3 : Int32) (M : Mem), f_X3_bestMove_b13 n13 v1 v2 v3 M = some r → K p l e (k_rm 4 91) s m args below meth c 5 G shC (MQ below (k_Qi G shC r.1 r.2) args s 0 0 (k_A G shC.length)) 13 [(0, .ref (G.2.1 28)), (1, .int v1), (2, .int v2), (3, .int v3)] [] M := by
    intro n13
    induction n13 with
    | zero => intro v1 v2 v3 M hf; simp [f_X3_bestMove_b13] at hf
    | succ n13 ih13 =>
      intro v1 v2 v3 M hf
      unfold f_X3_bestMove_b13 at hf
      refine k_iload_n C dX3_bestMove_13 3 rfl ?_
      refine k_aload_n C dX3_bestMove_14 0 rfl ?_
      refine k_getr C shC_28 (j := 0) rfl FL_X3_21 dX3_bestMove_15 ?_
      refine k_geti C shC_1 (j := 5) rfl FL_X3_34 dX3_bestMove_18 ?_
      rcases ite_g hf with ⟨c3, hf⟩ | ⟨c3, hf⟩
      · refine k_icmp_ge_t C dX3_bestMove_21 (tgt := 48) (by decide) c3 ?_
        refine k_iload_n C dX3_bestMove_48 1 rfl ?_
        exact k_iret C hr hlk (prf hf) (prs hf) dX3_bestMove_49
      · refine k_icmp_ge_f C dX3_bestMove_21 (tgt := 48) (by decide) c3 ?_
        refine k_aload_n C dX3_bestMove_24 0 rfl ?_
        refine k_iload_n C dX3_bestMove_25 3 rfl ?_
        obtain ⟨⟨t4, M4⟩, ht4, hf⟩ := bnd hf
        replace hf := bp_s hf
        refine k_callVi C (As := [.int v3]) (c_X3_sumMoved hap v3 M (t4, M4) ht4) ML_X3_sumMoved wd_1185 shC_28 rfl rfl rfl ⟨Nat.le_of_ble_eq_true rfl, Nat.le_of_ble_eq_true rfl⟩ (Nat.le_of_ble_eq_true rfl) dX3_bestMove_26 ?_
        refine k_istore C dX3_bestMove_29 (by decide) [1, 2, 3, 4, 0] (lv' := [(0, .ref (G.2.1 28)), (1, .int v1), (2, .int v2), (3, .int v3), (4, .int t4)]) rfl ?_
        refine k_iload C dX3_bestMove_31 4 rfl ?_
        refine k_iload_n C dX3_bestMove_33 2 rfl ?_
        rcases ite_g hf with ⟨c5, hf⟩ | ⟨c5, hf⟩
        · refine k_icmp_ge_t C dX3_bestMove_34 (tgt := 42) (by decide) c5 ?_
          refine k_iinc C dX3_bestMove_42 3 rfl (v := (v3 + (1 : Int32))) rfl (by decide) [1, 2, 3, 0] (lv' := [(0, .ref (G.2.1 28)), (1, .int v1), (2, .int v2), (3, .int (v3 + (1 : Int32)))]) rfl ?_
          refine k_goto C dX3_bestMove_45 (tgt := 13) (by decide) ?_
          exact ih13 v1 v2 (v3 + (1 : Int32)) M4 hf
        · refine k_icmp_ge_f C dX3_bestMove_34 (tgt := 42) (by decide) c5 ?_
          refine k_iload C dX3_bestMove_37 4 rfl ?_
          refine k_istore_n C dX3_bestMove_39 (by decide) [1, 0, 3] (lv' := [(0, .ref (G.2.1 28)), (2, .int t4), (3, .int v3)]) rfl ?_
          refine k_iload_n C dX3_bestMove_40 2 rfl ?_
          refine k_istore_n C dX3_bestMove_41 (by decide) [1, 0, 2, 3] (lv' := [(0, .ref (G.2.1 28)), (1, .int v3), (2, .int t4), (3, .int v3)]) rfl ?_
          refine k_iinc C dX3_bestMove_42 3 rfl (v := (v3 + (1 : Int32))) rfl (by decide) [1, 2, 3, 0] (lv' := [(0, .ref (G.2.1 28)), (1, .int v3), (2, .int t4), (3, .int (v3 + (1 : Int32)))]) rfl ?_
          refine k_goto C dX3_bestMove_45 (tgt := 13) (by decide) ?_
          exact ih13 v3 t4 (v3 + (1 : Int32)) M4 hf
  unfold f_X3_bestMove at hf
  refine k_lv (lv' := [(0, .ref (G.2.1 28))]) [0] rfl ?_
  refine k_bipush C dX3_bestMove_0 (v := (-9 : Int32)) rfl ?_
  refine k_istore_n C dX3_bestMove_2 (by decide) [1, 0] (lv' := [(0, .ref (G.2.1 28)), (1, .int (-9 : Int32))]) rfl ?_
  refine k_aload_n C dX3_bestMove_3 0 rfl ?_
  refine k_getr C shC_28 (j := 1) rfl FL_X3_25 dX3_bestMove_4 ?_
  obtain ⟨⟨t1, M1⟩, ht1, hf⟩ := bnd hf
  replace hf := bp_s hf
  refine k_callVi C (As := []) (c_X8_total hap M0 (t1, M1) ht1) ML_X8_total wd_684 shC_25 rfl rfl rfl ⟨Nat.le_of_ble_eq_true rfl, Nat.le_of_ble_eq_true rfl⟩ (Nat.le_of_ble_eq_true rfl) dX3_bestMove_7 ?_
  refine k_istore_n C dX3_bestMove_10 (by decide) [1, 2, 0] (lv' := [(0, .ref (G.2.1 28)), (1, .int (-9 : Int32)), (2, .int t1)]) rfl ?_
  refine k_iconst C dX3_bestMove_11 (v := (0 : Int32)) rfl ?_
  refine k_istore_n C dX3_bestMove_12 (by decide) [1, 2, 3, 0] (lv' := [(0, .ref (G.2.1 28)), (1, .int (-9 : Int32)), (2, .int t1), (3, .int (0 : Int32))]) rfl ?_
  exact k_b13 FU (-9 : Int32) t1 (0 : Int32) M1 hf
theorem dX3_totalFromBehind_0 : decode cX3_totalFromBehind 0 = .ok (.aload_n 0, 1) := by decide +kernel
theorem dX3_totalFromBehind_1 : decode cX3_totalFromBehind 1 = .ok (.getfield 25, 3) := by decide +kernel
theorem dX3_totalFromBehind_4 : decode cX3_totalFromBehind 4 = .ok (.invokevirtual 29, 3) := by decide +kernel
theorem dX3_totalFromBehind_7 : decode cX3_totalFromBehind 7 = .ok (.iconst 0, 1) := by decide +kernel
theorem dX3_totalFromBehind_8 : decode cX3_totalFromBehind 8 = .ok (.istore_n 1, 1) := by decide +kernel
theorem dX3_totalFromBehind_9 : decode cX3_totalFromBehind 9 = .ok (.aload_n 0, 1) := by decide +kernel
theorem dX3_totalFromBehind_10 : decode cX3_totalFromBehind 10 = .ok (.getfield 21, 3) := by decide +kernel
theorem dX3_totalFromBehind_13 : decode cX3_totalFromBehind 13 = .ok (.getfield 34, 3) := by decide +kernel
theorem dX3_totalFromBehind_16 : decode cX3_totalFromBehind 16 = .ok (.iconst 1, 1) := by decide +kernel
theorem dX3_totalFromBehind_17 : decode cX3_totalFromBehind 17 = .ok (.isub, 1) := by decide +kernel
theorem dX3_totalFromBehind_18 : decode cX3_totalFromBehind 18 = .ok (.istore_n 2, 1) := by decide +kernel
theorem dX3_totalFromBehind_19 : decode cX3_totalFromBehind 19 = .ok (.iload_n 2, 1) := by decide +kernel
theorem dX3_totalFromBehind_20 : decode cX3_totalFromBehind 20 = .ok (.ifCond .lt 28, 3) := by decide +kernel
theorem dX3_totalFromBehind_23 : decode cX3_totalFromBehind 23 = .ok (.iload_n 1, 1) := by decide +kernel
theorem dX3_totalFromBehind_24 : decode cX3_totalFromBehind 24 = .ok (.aload_n 0, 1) := by decide +kernel
theorem dX3_totalFromBehind_25 : decode cX3_totalFromBehind 25 = .ok (.getfield 25, 3) := by decide +kernel
theorem dX3_totalFromBehind_28 : decode cX3_totalFromBehind 28 = .ok (.aload_n 0, 1) := by decide +kernel
theorem dX3_totalFromBehind_29 : decode cX3_totalFromBehind 29 = .ok (.getfield 21, 3) := by decide +kernel
theorem dX3_totalFromBehind_32 : decode cX3_totalFromBehind 32 = .ok (.getfield 40, 3) := by decide +kernel
theorem dX3_totalFromBehind_35 : decode cX3_totalFromBehind 35 = .ok (.iload_n 2, 1) := by decide +kernel
theorem dX3_totalFromBehind_36 : decode cX3_totalFromBehind 36 = .ok (.iaload, 1) := by decide +kernel
theorem dX3_totalFromBehind_37 : decode cX3_totalFromBehind 37 = .ok (.invokevirtual 44, 3) := by decide +kernel
theorem dX3_totalFromBehind_40 : decode cX3_totalFromBehind 40 = .ok (.iadd, 1) := by decide +kernel
theorem dX3_totalFromBehind_41 : decode cX3_totalFromBehind 41 = .ok (.istore_n 1, 1) := by decide +kernel
theorem dX3_totalFromBehind_42 : decode cX3_totalFromBehind 42 = .ok (.iinc 2 (-1), 3) := by decide +kernel
theorem dX3_totalFromBehind_45 : decode cX3_totalFromBehind 45 = .ok (.goto (-26), 3) := by decide +kernel
theorem dX3_totalFromBehind_48 : decode cX3_totalFromBehind 48 = .ok (.iload_n 1, 1) := by decide +kernel
theorem dX3_totalFromBehind_49 : decode cX3_totalFromBehind 49 = .ok (.ireturn, 1) := by decide +kernel
set_option maxRecDepth 100000 in
set_option maxHeartbeats 4000000 in
theorem c_X3_totalFromBehind {l : Launch} {G : Gx} (hap : k_ap G shC.length) (M0 : Mem) (r : Int32 × Mem) (hf : f_X3_totalFromBehind M0 = some r) : k_Met l yX3_totalFromBehind cX3_totalFromBehind 3 (some .int) 4 88 G shC [.ref (G.2.1 28)] M0 (k_Qi G shC r.1 r.2) := by
  refine k_Met_of (by decide) hap (Nat.le_of_ble_eq_true rfl) ?_
  intro p e s m args below meth c C hr hlk
  have C : Cx p s m args c cX3_totalFromBehind RX3 3 G shC := C
  have k_b19 : ∀ (n19 : Nat) (v1 : Int32) (v2 : Int32) (M : Mem), f_X3_totalFromBehind_b19 n19 v1 v2 M = some r → K p l e (k_rm 4 88) s m args below meth c 3 G shC (MQ below (k_Qi G shC r.1 r.2) args s 0 0 (k_A G shC.length)) 19 [(0, .ref (G.2.1 28)), (1, .int v1), (2, .int v2)] [] M := by
    intro n19
    induction n19 with
    | zero => intro v1 v2 M hf; simp [f_X3_totalFromBehind_b19] at hf
    | succ n19 ih19 =>
      intro v1 v2 M hf
      unfold f_X3_totalFromBehind_b19 at hf
      refine k_iload_n C dX3_totalFromBehind_19 2 rfl ?_
      rcases ite_g hf with ⟨c2, hf⟩ | ⟨c2, hf⟩
      · refine k_if_lt_t C dX3_totalFromBehind_20 (tgt := 48) (by decide) c2 ?_
        refine k_iload_n C dX3_totalFromBehind_48 1 rfl ?_
        exact k_iret C hr hlk (prf hf) (prs hf) dX3_totalFromBehind_49
      · refine k_if_lt_f C dX3_totalFromBehind_20 (tgt := 48) (by decide) c2 ?_
        refine k_iload_n C dX3_totalFromBehind_23 1 rfl ?_
        refine k_aload_n C dX3_totalFromBehind_24 0 rfl ?_
        refine k_getr C shC_28 (j := 1) rfl FL_X3_25 dX3_totalFromBehind_25 ?_
        refine k_aload_n C dX3_totalFromBehind_28 0 rfl ?_
        refine k_getr C shC_28 (j := 0) rfl FL_X3_21 dX3_totalFromBehind_29 ?_
        refine k_getr C shC_1 (j := 3) rfl FL_X3_40 dX3_totalFromBehind_32 ?_
        refine k_iload_n C dX3_totalFromBehind_35 2 rfl ?_
        obtain ⟨t3, ht3, hf⟩ := bnd hf
        refine k_iald C shC_5 ht3 dX3_totalFromBehind_36 ?_
        obtain ⟨⟨t4, M4⟩, ht4, hf⟩ := bnd hf
        replace hf := bp_s hf
        refine k_callVi C (As := [.int t3]) (c_X8_step hap t3 M (t4, M4) ht4) ML_X8_step wd_675 shC_25 rfl rfl rfl ⟨Nat.le_of_ble_eq_true rfl, Nat.le_of_ble_eq_true rfl⟩ (Nat.le_of_ble_eq_true rfl) dX3_totalFromBehind_37 ?_
        refine k_iadd C dX3_totalFromBehind_40 ?_
        refine k_istore_n C dX3_totalFromBehind_41 (by decide) [1, 0, 2] (lv' := [(0, .ref (G.2.1 28)), (1, .int (v1 + t4)), (2, .int v2)]) rfl ?_
        refine k_iinc C dX3_totalFromBehind_42 2 rfl (v := (v2 + (-1 : Int32))) rfl (by decide) [1, 2, 0] (lv' := [(0, .ref (G.2.1 28)), (1, .int (v1 + t4)), (2, .int (v2 + (-1 : Int32)))]) rfl ?_
        refine k_goto C dX3_totalFromBehind_45 (tgt := 19) (by decide) ?_
        exact ih19 (v1 + t4) (v2 + (-1 : Int32)) M4 hf
  unfold f_X3_totalFromBehind at hf
  refine k_lv (lv' := [(0, .ref (G.2.1 28))]) [0] rfl ?_
  refine k_aload_n C dX3_totalFromBehind_0 0 rfl ?_
  refine k_getr C shC_28 (j := 1) rfl FL_X3_25 dX3_totalFromBehind_1 ?_
  obtain ⟨M1, hM1, hf⟩ := bnd hf
  refine k_callVv C (As := []) (c_X8_open hap M0 M1 hM1) ML_X8_open wd_674 shC_25 rfl rfl rfl ⟨Nat.le_of_ble_eq_true rfl, Nat.le_of_ble_eq_true rfl⟩ (Nat.le_of_ble_eq_true rfl) dX3_totalFromBehind_4 ?_
  refine k_iconst C dX3_totalFromBehind_7 (v := (0 : Int32)) rfl ?_
  refine k_istore_n C dX3_totalFromBehind_8 (by decide) [1, 0] (lv' := [(0, .ref (G.2.1 28)), (1, .int (0 : Int32))]) rfl ?_
  refine k_aload_n C dX3_totalFromBehind_9 0 rfl ?_
  refine k_getr C shC_28 (j := 0) rfl FL_X3_21 dX3_totalFromBehind_10 ?_
  refine k_geti C shC_1 (j := 5) rfl FL_X3_34 dX3_totalFromBehind_13 ?_
  refine k_iconst C dX3_totalFromBehind_16 (v := (1 : Int32)) rfl ?_
  refine k_isub C dX3_totalFromBehind_17 ?_
  refine k_istore_n C dX3_totalFromBehind_18 (by decide) [1, 2, 0] (lv' := [(0, .ref (G.2.1 28)), (1, .int (0 : Int32)), (2, .int ((M1.1 1 5) - (1 : Int32)))]) rfl ?_
  exact k_b19 FU (0 : Int32) ((M1.1 1 5) - (1 : Int32)) M1 hf
theorem dX3_sumExchanged_0 : decode cX3_sumExchanged 0 = .ok (.aload_n 0, 1) := by decide +kernel
theorem dX3_sumExchanged_1 : decode cX3_sumExchanged 1 = .ok (.getfield 25, 3) := by decide +kernel
theorem dX3_sumExchanged_4 : decode cX3_sumExchanged 4 = .ok (.invokevirtual 61, 3) := by decide +kernel
theorem dX3_sumExchanged_7 : decode cX3_sumExchanged 7 = .ok (.iconst 0, 1) := by decide +kernel
theorem dX3_sumExchanged_8 : decode cX3_sumExchanged 8 = .ok (.istore_n 3, 1) := by decide +kernel
theorem dX3_sumExchanged_9 : decode cX3_sumExchanged 9 = .ok (.iconst 0, 1) := by decide +kernel
theorem dX3_sumExchanged_10 : decode cX3_sumExchanged 10 = .ok (.istore 4, 2) := by decide +kernel
theorem dX3_sumExchanged_12 : decode cX3_sumExchanged 12 = .ok (.iload 4, 2) := by decide +kernel
theorem dX3_sumExchanged_14 : decode cX3_sumExchanged 14 = .ok (.aload_n 0, 1) := by decide +kernel
theorem dX3_sumExchanged_15 : decode cX3_sumExchanged 15 = .ok (.getfield 21, 3) := by decide +kernel
theorem dX3_sumExchanged_18 : decode cX3_sumExchanged 18 = .ok (.getfield 34, 3) := by decide +kernel
theorem dX3_sumExchanged_21 : decode cX3_sumExchanged 21 = .ok (.if_icmp .ge 53, 3) := by decide +kernel
theorem dX3_sumExchanged_24 : decode cX3_sumExchanged 24 = .ok (.iload 4, 2) := by decide +kernel
theorem dX3_sumExchanged_26 : decode cX3_sumExchanged 26 = .ok (.iload_n 1, 1) := by decide +kernel
theorem dX3_sumExchanged_27 : decode cX3_sumExchanged 27 = .ok (.if_icmp .ne 7, 3) := by decide +kernel
theorem dX3_sumExchanged_30 : decode cX3_sumExchanged 30 = .ok (.iload_n 2, 1) := by decide +kernel
theorem dX3_sumExchanged_31 : decode cX3_sumExchanged 31 = .ok (.goto 15, 3) := by decide +kernel
theorem dX3_sumExchanged_34 : decode cX3_sumExchanged 34 = .ok (.iload 4, 2) := by decide +kernel
theorem dX3_sumExchanged_36 : decode cX3_sumExchanged 36 = .ok (.iload_n 2, 1) := by decide +kernel
theorem dX3_sumExchanged_37 : decode cX3_sumExchanged 37 = .ok (.if_icmp .ne 7, 3) := by decide +kernel
theorem dX3_sumExchanged_40 : decode cX3_sumExchanged 40 = .ok (.iload_n 1, 1) := by decide +kernel
theorem dX3_sumExchanged_41 : decode cX3_sumExchanged 41 = .ok (.goto 5, 3) := by decide +kernel
theorem dX3_sumExchanged_44 : decode cX3_sumExchanged 44 = .ok (.iload 4, 2) := by decide +kernel
theorem dX3_sumExchanged_46 : decode cX3_sumExchanged 46 = .ok (.istore 5, 2) := by decide +kernel
theorem dX3_sumExchanged_48 : decode cX3_sumExchanged 48 = .ok (.iload_n 3, 1) := by decide +kernel
theorem dX3_sumExchanged_49 : decode cX3_sumExchanged 49 = .ok (.aload_n 0, 1) := by decide +kernel
theorem dX3_sumExchanged_50 : decode cX3_sumExchanged 50 = .ok (.getfield 25, 3) := by decide +kernel
theorem dX3_sumExchanged_53 : decode cX3_sumExchanged 53 = .ok (.aload_n 0, 1) := by decide +kernel
theorem dX3_sumExchanged_54 : decode cX3_sumExchanged 54 = .ok (.getfield 21, 3) := by decide +kernel
theorem dX3_sumExchanged_57 : decode cX3_sumExchanged 57 = .ok (.getfield 40, 3) := by decide +kernel
theorem dX3_sumExchanged_60 : decode cX3_sumExchanged 60 = .ok (.iload 5, 2) := by decide +kernel
theorem dX3_sumExchanged_62 : decode cX3_sumExchanged 62 = .ok (.iaload, 1) := by decide +kernel
theorem dX3_sumExchanged_63 : decode cX3_sumExchanged 63 = .ok (.invokevirtual 44, 3) := by decide +kernel
theorem dX3_sumExchanged_66 : decode cX3_sumExchanged 66 = .ok (.iadd, 1) := by decide +kernel
theorem dX3_sumExchanged_67 : decode cX3_sumExchanged 67 = .ok (.istore_n 3, 1) := by decide +kernel
theorem dX3_sumExchanged_68 : decode cX3_sumExchanged 68 = .ok (.iinc 4 1, 3) := by decide +kernel
theorem dX3_sumExchanged_71 : decode cX3_sumExchanged 71 = .ok (.goto (-59), 3) := by decide +kernel
theorem dX3_sumExchanged_74 : decode cX3_sumExchanged 74 = .ok (.iload_n 3, 1) := by decide +kernel
theorem dX3_sumExchanged_75 : decode cX3_sumExchanged 75 = .ok (.ireturn, 1) := by decide +kernel
set_option maxRecDepth 100000 in
set_option maxHeartbeats 4000000 in
theorem c_X3_sumExchanged {l : Launch} {G : Gx} (hap : k_ap G shC.length) (v1 : Int32) (v2 : Int32) (M0 : Mem) (r : Int32 × Mem) (hf : f_X3_sumExchanged v1 v2 M0 = some r) : k_Met l yX3_sumExchanged cX3_sumExchanged 6 (some .int) 2 46 G shC [.ref (G.2.1 28), .int v1, .int v2] M0 (k_Qi G shC r.1 r.2) := by
  refine k_Met_of (by decide) hap (Nat.le_of_ble_eq_true rfl) ?_
  intro p e s m args below meth c C hr hlk
  have C : Cx p s m args c cX3_sumExchanged RX3 6 G shC := C
  have k_b12 : ∀ (n12 : Nat) (v1 : Int32) (v2 : Int32) (v3 : Int32) (v4 : Int32) (M : Mem), f_X3_sumExchanged_b12 n12 v1 v2 v3 v4 M = some r → K p l e (k_rm 2 46) s m args below meth c 6 G shC (MQ below (k_Qi G shC r.1 r.2) args s 0 0 (k_A G shC.length)) 12 [(0, .ref (G.2.1 28)), (1, .int v1), (2, .int v2), (3, .int v3), (4, .int v4)] [] M := by
    intro n12
    induction n12 with
    | zero => intro v1 v2 v3 v4 M hf; simp [f_X3_sumExchanged_b12] at hf
    | succ n12 ih12 =>
      have k_b46 : ∀ (v1 : Int32) (v2 : Int32) (v3 : Int32) (v4 : Int32) (s0 : Int32) (M : Mem), f_X3_sumExchanged_b46 (f_X3_sumExchanged_b12 n12) v1 v2 v3 v4 s0 M = some r → K p l e (k_rm 2 46) s m args below meth c 6 G shC (MQ below (k_Qi G shC r.1 r.2) args s 0 0 (k_A G shC.length)) 46 [(0, .ref (G.2.1 28)), (1, .int v1), (2, .int v2), (3, .int v3), (4, .int v4)] [.int s0] M := by
        intro v1 v2 v3 v4 s0 M hf
        unfold f_X3_sumExchanged_b46 at hf
        refine k_istore C dX3_sumExchanged_46 (by decide) [1, 2, 3, 4, 5, 0] (lv' := [(0, .ref (G.2.1 28)), (1, .int v1), (2, .int v2), (3, .int v3), (4, .int v4), (5, .int s0)]) rfl ?_
        refine k_iload_n C dX3_sumExchanged_48 3 rfl ?_
        refine k_aload_n C dX3_sumExchanged_49 0 rfl ?_
        refine k_getr C shC_28 (j := 1) rfl FL_X3_25 dX3_sumExchanged_50 ?_
        refine k_aload_n C dX3_sumExchanged_53 0 rfl ?_
        refine k_getr C shC_28 (j := 0) rfl FL_X3_21 dX3_sumExchanged_54 ?_
        refine k_getr C shC_1 (j := 3) rfl FL_X3_40 dX3_sumExchanged_57 ?_
        refine k_iload C dX3_sumExchanged_60 5 rfl ?_
        obtain ⟨t3, ht3, hf⟩ := bnd hf
        refine k_iald C shC_5 ht3 dX3_sumExchanged_62 ?_
        obtain ⟨⟨t4, M4⟩, ht4, hf⟩ := bnd hf
        replace hf := bp_s hf
        refine k_callVi C (As := [.int t3]) (c_X8_step hap t3 M (t4, M4) ht4) ML_X8_step wd_675 shC_25 rfl rfl rfl ⟨Nat.le_of_ble_eq_true rfl, Nat.le_of_ble_eq_true rfl⟩ (Nat.le_of_ble_eq_true rfl) dX3_sumExchanged_63 ?_
        refine k_iadd C dX3_sumExchanged_66 ?_
        refine k_istore_n C dX3_sumExchanged_67 (by decide) [1, 2, 3, 0, 4] (lv' := [(0, .ref (G.2.1 28)), (1, .int v1), (2, .int v2), (3, .int (v3 + t4)), (4, .int v4)]) rfl ?_
        refine k_iinc C dX3_sumExchanged_68 4 rfl (v := (v4 + (1 : Int32))) rfl (by decide) [1, 2, 3, 4, 0] (lv' := [(0, .ref (G.2.1 28)), (1, .int v1), (2, .int v2), (3, .int (v3 + t4)), (4, .int (v4 + (1 : Int32)))]) rfl ?_
        refine k_goto C dX3_sumExchanged_71 (tgt := 12) (by decide) ?_
        exact ih12 v1 v2 (v3 + t4) (v4 + (1 : Int32)) M4 hf
      intro v1 v2 v3 v4 M hf
      unfold f_X3_sumExchanged_b12 at hf
      refine k_iload C dX3_sumExchanged_12 4 rfl ?_
      refine k_aload_n C dX3_sumExchanged_14 0 rfl ?_
      refine k_getr C shC_28 (j := 0) rfl FL_X3_21 dX3_sumExchanged_15 ?_
      refine k_geti C shC_1 (j := 5) rfl FL_X3_34 dX3_sumExchanged_18 ?_
      rcases ite_g hf with ⟨c2, hf⟩ | ⟨c2, hf⟩
      · refine k_icmp_ge_t C dX3_sumExchanged_21 (tgt := 74) (by decide) c2 ?_
        refine k_iload_n C dX3_sumExchanged_74 3 rfl ?_
        exact k_iret C hr hlk (prf hf) (prs hf) dX3_sumExchanged_75
      · refine k_icmp_ge_f C dX3_sumExchanged_21 (tgt := 74) (by decide) c2 ?_
        refine k_iload C dX3_sumExchanged_24 4 rfl ?_
        refine k_iload_n C dX3_sumExchanged_26 1 rfl ?_
        have hj5 : K p l e (k_rm 2 46) s m args below meth c 6 G shC (MQ below (k_Qi G shC r.1 r.2) args s 0 0 (k_A G shC.length)) 46 [(0, .ref (G.2.1 28)), (1, .int v1), (2, .int v2), (3, .int v3), (4, .int v4)] [.int (if v4 = v1 then v2 else (if v4 = v2 then v1 else v4))] M := by
          exact k_b46 v1 v2 v3 v4 (if v4 = v1 then v2 else (if v4 = v2 then v1 else v4)) M hf
        by_cases c6 : v4 = v1
        · refine k_icmp_ne_f C dX3_sumExchanged_27 (tgt := 34) (by decide) c6 ?_
          refine k_iload_n C dX3_sumExchanged_30 2 rfl ?_
          refine k_goto C dX3_sumExchanged_31 (tgt := 46) (by decide) ?_
          exact k_val (by rw [if_pos c6]) hj5
        · refine k_icmp_ne_t C dX3_sumExchanged_27 (tgt := 34) (by decide) c6 ?_
          refine k_iload C dX3_sumExchanged_34 4 rfl ?_
          refine k_iload_n C dX3_sumExchanged_36 2 rfl ?_
          by_cases c7 : v4 = v2
          · refine k_icmp_ne_f C dX3_sumExchanged_37 (tgt := 44) (by decide) c7 ?_
            refine k_iload_n C dX3_sumExchanged_40 1 rfl ?_
            refine k_goto C dX3_sumExchanged_41 (tgt := 46) (by decide) ?_
            exact k_val (by rw [if_neg c6, if_pos c7]) hj5
          · refine k_icmp_ne_t C dX3_sumExchanged_37 (tgt := 44) (by decide) c7 ?_
            refine k_iload C dX3_sumExchanged_44 4 rfl ?_
            exact k_val (by rw [if_neg c6, if_neg c7]) hj5
  unfold f_X3_sumExchanged at hf
  refine k_lv (lv' := [(0, .ref (G.2.1 28)), (1, .int v1), (2, .int v2)]) [0, 1, 2] rfl ?_
  refine k_aload_n C dX3_sumExchanged_0 0 rfl ?_
  refine k_getr C shC_28 (j := 1) rfl FL_X3_25 dX3_sumExchanged_1 ?_
  obtain ⟨M1, hM1, hf⟩ := bnd hf
  refine k_callVv C (As := []) (c_X8_forgetSteps hap M0 M1 hM1) ML_X8_forgetSteps wd_908 shC_25 rfl rfl rfl ⟨Nat.le_of_ble_eq_true rfl, Nat.le_of_ble_eq_true rfl⟩ (Nat.le_of_ble_eq_true rfl) dX3_sumExchanged_4 ?_
  refine k_iconst C dX3_sumExchanged_7 (v := (0 : Int32)) rfl ?_
  refine k_istore_n C dX3_sumExchanged_8 (by decide) [1, 2, 3, 0] (lv' := [(0, .ref (G.2.1 28)), (1, .int v1), (2, .int v2), (3, .int (0 : Int32))]) rfl ?_
  refine k_iconst C dX3_sumExchanged_9 (v := (0 : Int32)) rfl ?_
  refine k_istore C dX3_sumExchanged_10 (by decide) [1, 2, 3, 4, 0] (lv' := [(0, .ref (G.2.1 28)), (1, .int v1), (2, .int v2), (3, .int (0 : Int32)), (4, .int (0 : Int32))]) rfl ?_
  exact k_b12 FU v1 v2 (0 : Int32) (0 : Int32) M1 hf
theorem dX3_bestExchange_0 : decode cX3_bestExchange 0 = .ok (.bipush (-9), 2) := by decide +kernel
theorem dX3_bestExchange_2 : decode cX3_bestExchange 2 = .ok (.istore_n 1, 1) := by decide +kernel
theorem dX3_bestExchange_3 : decode cX3_bestExchange 3 = .ok (.aload_n 0, 1) := by decide +kernel
theorem dX3_bestExchange_4 : decode cX3_bestExchange 4 = .ok (.getfield 25, 3) := by decide +kernel
theorem dX3_bestExchange_7 : decode cX3_bestExchange 7 = .ok (.invokevirtual 48, 3) := by decide +kernel
theorem dX3_bestExchange_10 : decode cX3_bestExchange 10 = .ok (.istore_n 2, 1) := by decide +kernel
theorem dX3_bestExchange_11 : decode cX3_bestExchange 11 = .ok (.iconst 0, 1) := by decide +kernel
theorem dX3_bestExchange_12 : decode cX3_bestExchange 12 = .ok (.istore_n 3, 1) := by decide +kernel
theorem dX3_bestExchange_13 : decode cX3_bestExchange 13 = .ok (.iload_n 3, 1) := by decide +kernel
theorem dX3_bestExchange_14 : decode cX3_bestExchange 14 = .ok (.aload_n 0, 1) := by decide +kernel
theorem dX3_bestExchange_15 : decode cX3_bestExchange 15 = .ok (.getfield 21, 3) := by decide +kernel
theorem dX3_bestExchange_18 : decode cX3_bestExchange 18 = .ok (.getfield 34, 3) := by decide +kernel
theorem dX3_bestExchange_21 : decode cX3_bestExchange 21 = .ok (.if_icmp .ge 58, 3) := by decide +kernel
theorem dX3_bestExchange_24 : decode cX3_bestExchange 24 = .ok (.iload_n 3, 1) := by decide +kernel
theorem dX3_bestExchange_25 : decode cX3_bestExchange 25 = .ok (.iconst 1, 1) := by decide +kernel
theorem dX3_bestExchange_26 : decode cX3_bestExchange 26 = .ok (.iadd, 1) := by decide +kernel
theorem dX3_bestExchange_27 : decode cX3_bestExchange 27 = .ok (.istore 4, 2) := by decide +kernel
theorem dX3_bestExchange_29 : decode cX3_bestExchange 29 = .ok (.iload 4, 2) := by decide +kernel
theorem dX3_bestExchange_31 : decode cX3_bestExchange 31 = .ok (.aload_n 0, 1) := by decide +kernel
theorem dX3_bestExchange_32 : decode cX3_bestExchange 32 = .ok (.getfield 21, 3) := by decide +kernel
theorem dX3_bestExchange_35 : decode cX3_bestExchange 35 = .ok (.getfield 34, 3) := by decide +kernel
theorem dX3_bestExchange_38 : decode cX3_bestExchange 38 = .ok (.if_icmp .ge 35, 3) := by decide +kernel
theorem dX3_bestExchange_41 : decode cX3_bestExchange 41 = .ok (.aload_n 0, 1) := by decide +kernel
theorem dX3_bestExchange_42 : decode cX3_bestExchange 42 = .ok (.iload_n 3, 1) := by decide +kernel
theorem dX3_bestExchange_43 : decode cX3_bestExchange 43 = .ok (.iload 4, 2) := by decide +kernel
theorem dX3_bestExchange_45 : decode cX3_bestExchange 45 = .ok (.invokevirtual 71, 3) := by decide +kernel
theorem dX3_bestExchange_48 : decode cX3_bestExchange 48 = .ok (.istore 5, 2) := by decide +kernel
theorem dX3_bestExchange_50 : decode cX3_bestExchange 50 = .ok (.iload 5, 2) := by decide +kernel
theorem dX3_bestExchange_52 : decode cX3_bestExchange 52 = .ok (.iload_n 2, 1) := by decide +kernel
theorem dX3_bestExchange_53 : decode cX3_bestExchange 53 = .ok (.if_icmp .ge 14, 3) := by decide +kernel
theorem dX3_bestExchange_56 : decode cX3_bestExchange 56 = .ok (.iload 5, 2) := by decide +kernel
theorem dX3_bestExchange_58 : decode cX3_bestExchange 58 = .ok (.istore_n 2, 1) := by decide +kernel
theorem dX3_bestExchange_59 : decode cX3_bestExchange 59 = .ok (.bipush 100, 2) := by decide +kernel
theorem dX3_bestExchange_61 : decode cX3_bestExchange 61 = .ok (.iload_n 3, 1) := by decide +kernel
theorem dX3_bestExchange_62 : decode cX3_bestExchange 62 = .ok (.imul, 1) := by decide +kernel
theorem dX3_bestExchange_63 : decode cX3_bestExchange 63 = .ok (.iload 4, 2) := by decide +kernel
theorem dX3_bestExchange_65 : decode cX3_bestExchange 65 = .ok (.iadd, 1) := by decide +kernel
theorem dX3_bestExchange_66 : decode cX3_bestExchange 66 = .ok (.istore_n 1, 1) := by decide +kernel
theorem dX3_bestExchange_67 : decode cX3_bestExchange 67 = .ok (.iinc 4 1, 3) := by decide +kernel
theorem dX3_bestExchange_70 : decode cX3_bestExchange 70 = .ok (.goto (-41), 3) := by decide +kernel
theorem dX3_bestExchange_73 : decode cX3_bestExchange 73 = .ok (.iinc 3 1, 3) := by decide +kernel
theorem dX3_bestExchange_76 : decode cX3_bestExchange 76 = .ok (.goto (-63), 3) := by decide +kernel
theorem dX3_bestExchange_79 : decode cX3_bestExchange 79 = .ok (.iload_n 1, 1) := by decide +kernel
theorem dX3_bestExchange_80 : decode cX3_bestExchange 80 = .ok (.ireturn, 1) := by decide +kernel
set_option maxRecDepth 100000 in
set_option maxHeartbeats 4000000 in
theorem c_X3_bestExchange {l : Launch} {G : Gx} (hap : k_ap G shC.length) (M0 : Mem) (r : Int32 × Mem) (hf : f_X3_bestExchange M0 = some r) : k_Met l yX3_bestExchange cX3_bestExchange 6 (some .int) 4 88 G shC [.ref (G.2.1 28)] M0 (k_Qi G shC r.1 r.2) := by
  refine k_Met_of (by decide) hap (Nat.le_of_ble_eq_true rfl) ?_
  intro p e s m args below meth c C hr hlk
  have C : Cx p s m args c cX3_bestExchange RX3 6 G shC := C
  have k_b13 : ∀ (n13 : Nat) (v1 : Int32) (v2 : Int32) (v3 : Int32) (M : Mem), f_X3_bestExchange_b13 n13 v1 v2 v3 M = some r → K p l e (k_rm 4 88) s m args below meth c 6 G shC (MQ below (k_Qi G shC r.1 r.2) args s 0 0 (k_A G shC.length)) 13 [(0, .ref (G.2.1 28)), (1, .int v1), (2, .int v2), (3, .int v3)] [] M := by
    intro n13
    induction n13 with
    | zero => intro v1 v2 v3 M hf; simp [f_X3_bestExchange_b13] at hf
    | succ n13 ih13 =>
      have k_b29 : ∀ (n29 : Nat) (v1 : Int32) (v2 : Int32) (v3 : Int32) (v4 : Int32) (M : Mem), f_X3_bestExchange_b29 (f_X3_bestExchange_b13 n13) n29 v1 v2 v3 v4 M = some r → K p l e (k_rm 4 88) s m args below meth c 6 G shC (MQ below (k_Qi G shC r.1 r.2) args s 0 0 (k_A G shC.length)) 29 [(0, .ref (G.2.1 28)), (1, .int v1), (2, .int v2), (3, .int v3), (4, .int v4)] [] M := by
        intro n29
        induction n29 with
        | zero => intro v1 v2 v3 v4 M hf; simp [f_X3_bestExchange_b29] at hf
        | succ n29 ih29 =>
          intro v1 v2 v3 v4 M hf
          unfold f_X3_bestExchange_b29 at hf
          refine k_iload C dX3_bestExchange_29 4 rfl ?_
          refine k_aload_n C dX3_bestExchange_31 0 rfl ?_
          refine k_getr C shC_28 (j := 0) rfl FL_X3_21 dX3_bestExchange_32 ?_
          refine k_geti C shC_1 (j := 5) rfl FL_X3_34 dX3_bestExchange_35 ?_
          rcases ite_g hf with ⟨c4, hf⟩ | ⟨c4, hf⟩
          · refine k_icmp_ge_t C dX3_bestExchange_38 (tgt := 73) (by decide) c4 ?_
            refine k_iinc C dX3_bestExchange_73 3 rfl (v := (v3 + (1 : Int32))) rfl (by decide) [1, 2, 3, 0] (lv' := [(0, .ref (G.2.1 28)), (1, .int v1), (2, .int v2), (3, .int (v3 + (1 : Int32)))]) rfl ?_
            refine k_goto C dX3_bestExchange_76 (tgt := 13) (by decide) ?_
            exact ih13 v1 v2 (v3 + (1 : Int32)) M hf
          · refine k_icmp_ge_f C dX3_bestExchange_38 (tgt := 73) (by decide) c4 ?_
            refine k_aload_n C dX3_bestExchange_41 0 rfl ?_
            refine k_iload_n C dX3_bestExchange_42 3 rfl ?_
            refine k_iload C dX3_bestExchange_43 4 rfl ?_
            obtain ⟨⟨t5, M5⟩, ht5, hf⟩ := bnd hf
            replace hf := bp_s hf
            refine k_callVi C (As := [.int v3, .int v4]) (c_X3_sumExchanged hap v3 v4 M (t5, M5) ht5) ML_X3_sumExchanged wd_929 shC_28 rfl rfl rfl ⟨Nat.le_of_ble_eq_true rfl, Nat.le_of_ble_eq_true rfl⟩ (Nat.le_of_ble_eq_true rfl) dX3_bestExchange_45 ?_
            refine k_istore C dX3_bestExchange_48 (by decide) [1, 2, 3, 4, 5, 0] (lv' := [(0, .ref (G.2.1 28)), (1, .int v1), (2, .int v2), (3, .int v3), (4, .int v4), (5, .int t5)]) rfl ?_
            refine k_iload C dX3_bestExchange_50 5 rfl ?_
            refine k_iload_n C dX3_bestExchange_52 2 rfl ?_
            rcases ite_g hf with ⟨c6, hf⟩ | ⟨c6, hf⟩
            · refine k_icmp_ge_t C dX3_bestExchange_53 (tgt := 67) (by decide) c6 ?_
              refine k_iinc C dX3_bestExchange_67 4 rfl (v := (v4 + (1 : Int32))) rfl (by decide) [1, 2, 3, 4, 0] (lv' := [(0, .ref (G.2.1 28)), (1, .int v1), (2, .int v2), (3, .int v3), (4, .int (v4 + (1 : Int32)))]) rfl ?_
              refine k_goto C dX3_bestExchange_70 (tgt := 29) (by decide) ?_
              exact ih29 v1 v2 v3 (v4 + (1 : Int32)) M5 hf
            · refine k_icmp_ge_f C dX3_bestExchange_53 (tgt := 67) (by decide) c6 ?_
              refine k_iload C dX3_bestExchange_56 5 rfl ?_
              refine k_istore_n C dX3_bestExchange_58 (by decide) [1, 0, 3, 4] (lv' := [(0, .ref (G.2.1 28)), (2, .int t5), (3, .int v3), (4, .int v4)]) rfl ?_
              refine k_bipush C dX3_bestExchange_59 (v := (100 : Int32)) rfl ?_
              refine k_iload_n C dX3_bestExchange_61 2 rfl ?_
              refine k_imul C dX3_bestExchange_62 ?_
              refine k_iload C dX3_bestExchange_63 3 rfl ?_
              refine k_iadd C dX3_bestExchange_65 ?_
              refine k_istore_n C dX3_bestExchange_66 (by decide) [1, 0, 2, 3, 4] (lv' := [(0, .ref (G.2.1 28)), (1, .int (((100 : Int32) * v3) + v4)), (2, .int t5), (3, .int v3), (4, .int v4)]) rfl ?_
              refine k_iinc C dX3_bestExchange_67 4 rfl (v := (v4 + (1 : Int32))) rfl (by decide) [1, 2, 3, 4, 0] (lv' := [(0, .ref (G.2.1 28)), (1, .int (((100 : Int32) * v3) + v4)), (2, .int t5), (3, .int v3), (4, .int (v4 + (1 : Int32)))]) rfl ?_
              refine k_goto C dX3_bestExchange_70 (tgt := 29) (by decide) ?_
              exact ih29 (((100 : Int32) * v3) + v4) t5 v3 (v4 + (1 : Int32)) M5 hf
      intro v1 v2 v3 M hf
      unfold f_X3_bestExchange_b13 at hf
      refine k_iload_n C dX3_bestExchange_13 3 rfl ?_
      refine k_aload_n C dX3_bestExchange_14 0 rfl ?_
      refine k_getr C shC_28 (j := 0) rfl FL_X3_21 dX3_bestExchange_15 ?_
      refine k_geti C shC_1 (j := 5) rfl FL_X3_34 dX3_bestExchange_18 ?_
      rcases ite_g hf with ⟨c2, hf⟩ | ⟨c2, hf⟩
      · refine k_icmp_ge_t C dX3_bestExchange_21 (tgt := 79) (by decide) c2 ?_
        refine k_iload_n C dX3_bestExchange_79 1 rfl ?_
        exact k_iret C hr hlk (prf hf) (prs hf) dX3_bestExchange_80
      · refine k_icmp_ge_f C dX3_bestExchange_21 (tgt := 79) (by decide) c2 ?_
        refine k_iload_n C dX3_bestExchange_24 3 rfl ?_
        refine k_iconst C dX3_bestExchange_25 (v := (1 : Int32)) rfl ?_
        refine k_iadd C dX3_bestExchange_26 ?_
        refine k_istore C dX3_bestExchange_27 (by decide) [1, 2, 3, 4, 0] (lv' := [(0, .ref (G.2.1 28)), (1, .int v1), (2, .int v2), (3, .int v3), (4, .int (v3 + (1 : Int32)))]) rfl ?_
        exact k_b29 FU v1 v2 v3 (v3 + (1 : Int32)) M hf
  unfold f_X3_bestExchange at hf
  refine k_lv (lv' := [(0, .ref (G.2.1 28))]) [0] rfl ?_
  refine k_bipush C dX3_bestExchange_0 (v := (-9 : Int32)) rfl ?_
  refine k_istore_n C dX3_bestExchange_2 (by decide) [1, 0] (lv' := [(0, .ref (G.2.1 28)), (1, .int (-9 : Int32))]) rfl ?_
  refine k_aload_n C dX3_bestExchange_3 0 rfl ?_
  refine k_getr C shC_28 (j := 1) rfl FL_X3_25 dX3_bestExchange_4 ?_
  obtain ⟨⟨t1, M1⟩, ht1, hf⟩ := bnd hf
  replace hf := bp_s hf
  refine k_callVi C (As := []) (c_X8_total hap M0 (t1, M1) ht1) ML_X8_total wd_684 shC_25 rfl rfl rfl ⟨Nat.le_of_ble_eq_true rfl, Nat.le_of_ble_eq_true rfl⟩ (Nat.le_of_ble_eq_true rfl) dX3_bestExchange_7 ?_
  refine k_istore_n C dX3_bestExchange_10 (by decide) [1, 2, 0] (lv' := [(0, .ref (G.2.1 28)), (1, .int (-9 : Int32)), (2, .int t1)]) rfl ?_
  refine k_iconst C dX3_bestExchange_11 (v := (0 : Int32)) rfl ?_
  refine k_istore_n C dX3_bestExchange_12 (by decide) [1, 2, 3, 0] (lv' := [(0, .ref (G.2.1 28)), (1, .int (-9 : Int32)), (2, .int t1), (3, .int (0 : Int32))]) rfl ?_
  exact k_b13 FU (-9 : Int32) t1 (0 : Int32) M1 hf
theorem dX3_isInLog_0 : decode cX3_isInLog 0 = .ok (.iconst 0, 1) := by decide +kernel
theorem dX3_isInLog_1 : decode cX3_isInLog 1 = .ok (.istore_n 2, 1) := by decide +kernel
theorem dX3_isInLog_2 : decode cX3_isInLog 2 = .ok (.iload_n 2, 1) := by decide +kernel
theorem dX3_isInLog_3 : decode cX3_isInLog 3 = .ok (.aload_n 0, 1) := by decide +kernel
theorem dX3_isInLog_4 : decode cX3_isInLog 4 = .ok (.getfield 21, 3) := by decide +kernel
theorem dX3_isInLog_7 : decode cX3_isInLog 7 = .ok (.getfield 34, 3) := by decide +kernel
theorem dX3_isInLog_10 : decode cX3_isInLog 10 = .ok (.if_icmp .ge 24, 3) := by decide +kernel
theorem dX3_isInLog_13 : decode cX3_isInLog 13 = .ok (.aload_n 0, 1) := by decide +kernel
theorem dX3_isInLog_14 : decode cX3_isInLog 14 = .ok (.getfield 21, 3) := by decide +kernel
theorem dX3_isInLog_17 : decode cX3_isInLog 17 = .ok (.getfield 40, 3) := by decide +kernel
theorem dX3_isInLog_20 : decode cX3_isInLog 20 = .ok (.iload_n 2, 1) := by decide +kernel
theorem dX3_isInLog_21 : decode cX3_isInLog 21 = .ok (.iaload, 1) := by decide +kernel
theorem dX3_isInLog_22 : decode cX3_isInLog 22 = .ok (.iload_n 1, 1) := by decide +kernel
theorem dX3_isInLog_23 : decode cX3_isInLog 23 = .ok (.if_icmp .ne 5, 3) := by decide +kernel
theorem dX3_isInLog_26 : decode cX3_isInLog 26 = .ok (.iconst 1, 1) := by decide +kernel
theorem dX3_isInLog_27 : decode cX3_isInLog 27 = .ok (.ireturn, 1) := by decide +kernel
theorem dX3_isInLog_28 : decode cX3_isInLog 28 = .ok (.iinc 2 1, 3) := by decide +kernel
theorem dX3_isInLog_31 : decode cX3_isInLog 31 = .ok (.goto (-29), 3) := by decide +kernel
theorem dX3_isInLog_34 : decode cX3_isInLog 34 = .ok (.iconst 0, 1) := by decide +kernel
theorem dX3_isInLog_35 : decode cX3_isInLog 35 = .ok (.ireturn, 1) := by decide +kernel
set_option maxRecDepth 100000 in
set_option maxHeartbeats 4000000 in
theorem c_X3_isInLog {l : Launch} {G : Gx} (hap : k_ap G shC.length) (v1 : Int32) (M0 : Mem) (r : Int32) (hf : f_X3_isInLog v1 M0 = some r) : k_Met l yX3_isInLog cX3_isInLog 3 (some .boolean) 0 0 G shC [.ref (G.2.1 28), .int v1] M0 (k_Qi G shC r M0) := by
  refine k_Met_of (by decide) hap (Nat.le_of_ble_eq_true rfl) ?_
  intro p e s m args below meth c C hr hlk
  have C : Cx p s m args c cX3_isInLog RX3 3 G shC := C
  have k_b2 : ∀ (n2 : Nat) (v1 : Int32) (v2 : Int32), f_X3_isInLog_b2 M0 n2 v1 v2 = some r → K p l e (k_rm 0 0) s m args below meth c 3 G shC (MQ below (k_Qi G shC r M0) args s 0 0 (k_A G shC.length)) 2 [(0, .ref (G.2.1 28)), (1, .int v1), (2, .int v2)] [] M0 := by
    intro n2
    induction n2 with
    | zero => intro v1 v2 hf; simp [f_X3_isInLog_b2] at hf
    | succ n2 ih2 =>
      intro v1 v2 hf
      unfold f_X3_isInLog_b2 at hf
      refine k_iload_n C dX3_isInLog_2 2 rfl ?_
      refine k_aload_n C dX3_isInLog_3 0 rfl ?_
      refine k_getr C shC_28 (j := 0) rfl FL_X3_21 dX3_isInLog_4 ?_
      refine k_geti C shC_1 (j := 5) rfl FL_X3_34 dX3_isInLog_7 ?_
      rcases ite_g hf with ⟨c1, hf⟩ | ⟨c1, hf⟩
      · refine k_icmp_ge_t C dX3_isInLog_10 (tgt := 34) (by decide) c1 ?_
        refine k_iconst C dX3_isInLog_34 (v := (0 : Int32)) rfl ?_
        exact k_zret C hr hlk (gZ0.trans (congrArg some (Option.some.inj hf))) rfl dX3_isInLog_35
      · refine k_icmp_ge_f C dX3_isInLog_10 (tgt := 34) (by decide) c1 ?_
        refine k_aload_n C dX3_isInLog_13 0 rfl ?_
        refine k_getr C shC_28 (j := 0) rfl FL_X3_21 dX3_isInLog_14 ?_
        refine k_getr C shC_1 (j := 3) rfl FL_X3_40 dX3_isInLog_17 ?_
        refine k_iload_n C dX3_isInLog_20 2 rfl ?_
        obtain ⟨t2, ht2, hf⟩ := bnd hf
        refine k_iald C shC_5 ht2 dX3_isInLog_21 ?_
        refine k_iload_n C dX3_isInLog_22 1 rfl ?_
        rcases ite_g hf with ⟨c3, hf⟩ | ⟨c3, hf⟩
        · refine k_icmp_ne_f C dX3_isInLog_23 (tgt := 28) (by decide) c3 ?_
          refine k_iconst C dX3_isInLog_26 (v := (1 : Int32)) rfl ?_
          exact k_zret C hr hlk (gZ1.trans (congrArg some (Option.some.inj hf))) rfl dX3_isInLog_27
        · refine k_icmp_ne_t C dX3_isInLog_23 (tgt := 28) (by decide) c3 ?_
          refine k_iinc C dX3_isInLog_28 2 rfl (v := (v2 + (1 : Int32))) rfl (by decide) [1, 2, 0] (lv' := [(0, .ref (G.2.1 28)), (1, .int v1), (2, .int (v2 + (1 : Int32)))]) rfl ?_
          refine k_goto C dX3_isInLog_31 (tgt := 2) (by decide) ?_
          exact ih2 v1 (v2 + (1 : Int32)) hf
  unfold f_X3_isInLog at hf
  refine k_lv (lv' := [(0, .ref (G.2.1 28)), (1, .int v1)]) [0, 1] rfl ?_
  refine k_iconst C dX3_isInLog_0 (v := (0 : Int32)) rfl ?_
  refine k_istore_n C dX3_isInLog_1 (by decide) [1, 2, 0] (lv' := [(0, .ref (G.2.1 28)), (1, .int v1), (2, .int (0 : Int32))]) rfl ?_
  exact k_b2 FU v1 (0 : Int32) hf
theorem dX3_sumBanning_0 : decode cX3_sumBanning 0 = .ok (.aload_n 0, 1) := by decide +kernel
theorem dX3_sumBanning_1 : decode cX3_sumBanning 1 = .ok (.getfield 25, 3) := by decide +kernel
theorem dX3_sumBanning_4 : decode cX3_sumBanning 4 = .ok (.invokevirtual 61, 3) := by decide +kernel
theorem dX3_sumBanning_7 : decode cX3_sumBanning 7 = .ok (.iconst 0, 1) := by decide +kernel
theorem dX3_sumBanning_8 : decode cX3_sumBanning 8 = .ok (.istore_n 2, 1) := by decide +kernel
theorem dX3_sumBanning_9 : decode cX3_sumBanning 9 = .ok (.iconst 0, 1) := by decide +kernel
theorem dX3_sumBanning_10 : decode cX3_sumBanning 10 = .ok (.istore_n 3, 1) := by decide +kernel
theorem dX3_sumBanning_11 : decode cX3_sumBanning 11 = .ok (.iload_n 3, 1) := by decide +kernel
theorem dX3_sumBanning_12 : decode cX3_sumBanning 12 = .ok (.aload_n 0, 1) := by decide +kernel
theorem dX3_sumBanning_13 : decode cX3_sumBanning 13 = .ok (.getfield 21, 3) := by decide +kernel
theorem dX3_sumBanning_16 : decode cX3_sumBanning 16 = .ok (.getfield 34, 3) := by decide +kernel
theorem dX3_sumBanning_19 : decode cX3_sumBanning 19 = .ok (.if_icmp .ge 41, 3) := by decide +kernel
theorem dX3_sumBanning_22 : decode cX3_sumBanning 22 = .ok (.aload_n 0, 1) := by decide +kernel
theorem dX3_sumBanning_23 : decode cX3_sumBanning 23 = .ok (.getfield 21, 3) := by decide +kernel
theorem dX3_sumBanning_26 : decode cX3_sumBanning 26 = .ok (.getfield 40, 3) := by decide +kernel
theorem dX3_sumBanning_29 : decode cX3_sumBanning 29 = .ok (.iload_n 3, 1) := by decide +kernel
theorem dX3_sumBanning_30 : decode cX3_sumBanning 30 = .ok (.iaload, 1) := by decide +kernel
theorem dX3_sumBanning_31 : decode cX3_sumBanning 31 = .ok (.iload_n 1, 1) := by decide +kernel
theorem dX3_sumBanning_32 : decode cX3_sumBanning 32 = .ok (.if_icmp .eq 22, 3) := by decide +kernel
theorem dX3_sumBanning_35 : decode cX3_sumBanning 35 = .ok (.iload_n 2, 1) := by decide +kernel
theorem dX3_sumBanning_36 : decode cX3_sumBanning 36 = .ok (.aload_n 0, 1) := by decide +kernel
theorem dX3_sumBanning_37 : decode cX3_sumBanning 37 = .ok (.getfield 25, 3) := by decide +kernel
theorem dX3_sumBanning_40 : decode cX3_sumBanning 40 = .ok (.aload_n 0, 1) := by decide +kernel
theorem dX3_sumBanning_41 : decode cX3_sumBanning 41 = .ok (.getfield 21, 3) := by decide +kernel
theorem dX3_sumBanning_44 : decode cX3_sumBanning 44 = .ok (.getfield 40, 3) := by decide +kernel
theorem dX3_sumBanning_47 : decode cX3_sumBanning 47 = .ok (.iload_n 3, 1) := by decide +kernel
theorem dX3_sumBanning_48 : decode cX3_sumBanning 48 = .ok (.iaload, 1) := by decide +kernel
theorem dX3_sumBanning_49 : decode cX3_sumBanning 49 = .ok (.invokevirtual 44, 3) := by decide +kernel
theorem dX3_sumBanning_52 : decode cX3_sumBanning 52 = .ok (.iadd, 1) := by decide +kernel
theorem dX3_sumBanning_53 : decode cX3_sumBanning 53 = .ok (.istore_n 2, 1) := by decide +kernel
theorem dX3_sumBanning_54 : decode cX3_sumBanning 54 = .ok (.iinc 3 1, 3) := by decide +kernel
theorem dX3_sumBanning_57 : decode cX3_sumBanning 57 = .ok (.goto (-46), 3) := by decide +kernel
theorem dX3_sumBanning_60 : decode cX3_sumBanning 60 = .ok (.iload_n 2, 1) := by decide +kernel
theorem dX3_sumBanning_61 : decode cX3_sumBanning 61 = .ok (.ireturn, 1) := by decide +kernel
set_option maxRecDepth 100000 in
set_option maxHeartbeats 4000000 in
theorem c_X3_sumBanning {l : Launch} {G : Gx} (hap : k_ap G shC.length) (v1 : Int32) (M0 : Mem) (r : Int32 × Mem) (hf : f_X3_sumBanning v1 M0 = some r) : k_Met l yX3_sumBanning cX3_sumBanning 4 (some .int) 2 46 G shC [.ref (G.2.1 28), .int v1] M0 (k_Qi G shC r.1 r.2) := by
  refine k_Met_of (by decide) hap (Nat.le_of_ble_eq_true rfl) ?_
  intro p e s m args below meth c C hr hlk
  have C : Cx p s m args c cX3_sumBanning RX3 4 G shC := C
  have k_b11 : ∀ (n11 : Nat) (v1 : Int32) (v2 : Int32) (v3 : Int32) (M : Mem), f_X3_sumBanning_b11 n11 v1 v2 v3 M = some r → K p l e (k_rm 2 46) s m args below meth c 4 G shC (MQ below (k_Qi G shC r.1 r.2) args s 0 0 (k_A G shC.length)) 11 [(0, .ref (G.2.1 28)), (1, .int v1), (2, .int v2), (3, .int v3)] [] M := by
    intro n11
    induction n11 with
    | zero => intro v1 v2 v3 M hf; simp [f_X3_sumBanning_b11] at hf
    | succ n11 ih11 =>
      intro v1 v2 v3 M hf
      unfold f_X3_sumBanning_b11 at hf
      refine k_iload_n C dX3_sumBanning_11 3 rfl ?_
      refine k_aload_n C dX3_sumBanning_12 0 rfl ?_
      refine k_getr C shC_28 (j := 0) rfl FL_X3_21 dX3_sumBanning_13 ?_
      refine k_geti C shC_1 (j := 5) rfl FL_X3_34 dX3_sumBanning_16 ?_
      rcases ite_g hf with ⟨c2, hf⟩ | ⟨c2, hf⟩
      · refine k_icmp_ge_t C dX3_sumBanning_19 (tgt := 60) (by decide) c2 ?_
        refine k_iload_n C dX3_sumBanning_60 2 rfl ?_
        exact k_iret C hr hlk (prf hf) (prs hf) dX3_sumBanning_61
      · refine k_icmp_ge_f C dX3_sumBanning_19 (tgt := 60) (by decide) c2 ?_
        refine k_aload_n C dX3_sumBanning_22 0 rfl ?_
        refine k_getr C shC_28 (j := 0) rfl FL_X3_21 dX3_sumBanning_23 ?_
        refine k_getr C shC_1 (j := 3) rfl FL_X3_40 dX3_sumBanning_26 ?_
        refine k_iload_n C dX3_sumBanning_29 3 rfl ?_
        obtain ⟨t3, ht3, hf⟩ := bnd hf
        refine k_iald C shC_5 ht3 dX3_sumBanning_30 ?_
        refine k_iload_n C dX3_sumBanning_31 1 rfl ?_
        rcases ite_g hf with ⟨c4, hf⟩ | ⟨c4, hf⟩
        · refine k_icmp_eq_t C dX3_sumBanning_32 (tgt := 54) (by decide) c4 ?_
          refine k_iinc C dX3_sumBanning_54 3 rfl (v := (v3 + (1 : Int32))) rfl (by decide) [1, 2, 3, 0] (lv' := [(0, .ref (G.2.1 28)), (1, .int v1), (2, .int v2), (3, .int (v3 + (1 : Int32)))]) rfl ?_
          refine k_goto C dX3_sumBanning_57 (tgt := 11) (by decide) ?_
          exact ih11 v1 v2 (v3 + (1 : Int32)) M hf
        · refine k_icmp_eq_f C dX3_sumBanning_32 (tgt := 54) (by decide) c4 ?_
          refine k_iload_n C dX3_sumBanning_35 2 rfl ?_
          refine k_aload_n C dX3_sumBanning_36 0 rfl ?_
          refine k_getr C shC_28 (j := 1) rfl FL_X3_25 dX3_sumBanning_37 ?_
          refine k_aload_n C dX3_sumBanning_40 0 rfl ?_
          refine k_getr C shC_28 (j := 0) rfl FL_X3_21 dX3_sumBanning_41 ?_
          refine k_getr C shC_1 (j := 3) rfl FL_X3_40 dX3_sumBanning_44 ?_
          refine k_iload_n C dX3_sumBanning_47 3 rfl ?_
          obtain ⟨t5, ht5, hf⟩ := bnd hf
          refine k_iald C shC_5 ht5 dX3_sumBanning_48 ?_
          obtain ⟨⟨t6, M6⟩, ht6, hf⟩ := bnd hf
          replace hf := bp_s hf
          refine k_callVi C (As := [.int t5]) (c_X8_step hap t5 M (t6, M6) ht6) ML_X8_step wd_675 shC_25 rfl rfl rfl ⟨Nat.le_of_ble_eq_true rfl, Nat.le_of_ble_eq_true rfl⟩ (Nat.le_of_ble_eq_true rfl) dX3_sumBanning_49 ?_
          refine k_iadd C dX3_sumBanning_52 ?_
          refine k_istore_n C dX3_sumBanning_53 (by decide) [1, 2, 0, 3] (lv' := [(0, .ref (G.2.1 28)), (1, .int v1), (2, .int (v2 + t6)), (3, .int v3)]) rfl ?_
          refine k_iinc C dX3_sumBanning_54 3 rfl (v := (v3 + (1 : Int32))) rfl (by decide) [1, 2, 3, 0] (lv' := [(0, .ref (G.2.1 28)), (1, .int v1), (2, .int (v2 + t6)), (3, .int (v3 + (1 : Int32)))]) rfl ?_
          refine k_goto C dX3_sumBanning_57 (tgt := 11) (by decide) ?_
          exact ih11 v1 (v2 + t6) (v3 + (1 : Int32)) M6 hf
  unfold f_X3_sumBanning at hf
  refine k_lv (lv' := [(0, .ref (G.2.1 28)), (1, .int v1)]) [0, 1] rfl ?_
  refine k_aload_n C dX3_sumBanning_0 0 rfl ?_
  refine k_getr C shC_28 (j := 1) rfl FL_X3_25 dX3_sumBanning_1 ?_
  obtain ⟨M1, hM1, hf⟩ := bnd hf
  refine k_callVv C (As := []) (c_X8_forgetSteps hap M0 M1 hM1) ML_X8_forgetSteps wd_908 shC_25 rfl rfl rfl ⟨Nat.le_of_ble_eq_true rfl, Nat.le_of_ble_eq_true rfl⟩ (Nat.le_of_ble_eq_true rfl) dX3_sumBanning_4 ?_
  refine k_iconst C dX3_sumBanning_7 (v := (0 : Int32)) rfl ?_
  refine k_istore_n C dX3_sumBanning_8 (by decide) [1, 2, 0] (lv' := [(0, .ref (G.2.1 28)), (1, .int v1), (2, .int (0 : Int32))]) rfl ?_
  refine k_iconst C dX3_sumBanning_9 (v := (0 : Int32)) rfl ?_
  refine k_istore_n C dX3_sumBanning_10 (by decide) [1, 2, 3, 0] (lv' := [(0, .ref (G.2.1 28)), (1, .int v1), (2, .int (0 : Int32)), (3, .int (0 : Int32))]) rfl ?_
  exact k_b11 FU v1 (0 : Int32) (0 : Int32) M1 hf
theorem dX3_bestBan_0 : decode cX3_bestBan 0 = .ok (.aload_n 0, 1) := by decide +kernel
theorem dX3_bestBan_1 : decode cX3_bestBan 1 = .ok (.getfield 25, 3) := by decide +kernel
theorem dX3_bestBan_4 : decode cX3_bestBan 4 = .ok (.invokevirtual 29, 3) := by decide +kernel
theorem dX3_bestBan_7 : decode cX3_bestBan 7 = .ok (.bipush (-9), 2) := by decide +kernel
theorem dX3_bestBan_9 : decode cX3_bestBan 9 = .ok (.istore_n 2, 1) := by decide +kernel
theorem dX3_bestBan_10 : decode cX3_bestBan 10 = .ok (.ldc 67, 2) := by decide +kernel
theorem dX3_bestBan_12 : decode cX3_bestBan 12 = .ok (.istore_n 3, 1) := by decide +kernel
theorem dX3_bestBan_13 : decode cX3_bestBan 13 = .ok (.iconst 0, 1) := by decide +kernel
theorem dX3_bestBan_14 : decode cX3_bestBan 14 = .ok (.istore 4, 2) := by decide +kernel
theorem dX3_bestBan_16 : decode cX3_bestBan 16 = .ok (.iload 4, 2) := by decide +kernel
theorem dX3_bestBan_18 : decode cX3_bestBan 18 = .ok (.aload_n 0, 1) := by decide +kernel
theorem dX3_bestBan_19 : decode cX3_bestBan 19 = .ok (.getfield 21, 3) := by decide +kernel
theorem dX3_bestBan_22 : decode cX3_bestBan 22 = .ok (.getfield 75, 3) := by decide +kernel
theorem dX3_bestBan_25 : decode cX3_bestBan 25 = .ok (.if_icmp .ge 43, 3) := by decide +kernel
theorem dX3_bestBan_28 : decode cX3_bestBan 28 = .ok (.aload_n 0, 1) := by decide +kernel
theorem dX3_bestBan_29 : decode cX3_bestBan 29 = .ok (.iload 4, 2) := by decide +kernel
theorem dX3_bestBan_31 : decode cX3_bestBan 31 = .ok (.invokevirtual 78, 3) := by decide +kernel
theorem dX3_bestBan_34 : decode cX3_bestBan 34 = .ok (.ifCond .eq 12, 3) := by decide +kernel
theorem dX3_bestBan_37 : decode cX3_bestBan 37 = .ok (.aload_n 0, 1) := by decide +kernel
theorem dX3_bestBan_38 : decode cX3_bestBan 38 = .ok (.iload 4, 2) := by decide +kernel
theorem dX3_bestBan_40 : decode cX3_bestBan 40 = .ok (.invokevirtual 82, 3) := by decide +kernel
theorem dX3_bestBan_43 : decode cX3_bestBan 43 = .ok (.goto 5, 3) := by decide +kernel
theorem dX3_bestBan_46 : decode cX3_bestBan 46 = .ok (.ldc 67, 2) := by decide +kernel
theorem dX3_bestBan_48 : decode cX3_bestBan 48 = .ok (.istore 5, 2) := by decide +kernel
theorem dX3_bestBan_50 : decode cX3_bestBan 50 = .ok (.iload 5, 2) := by decide +kernel
theorem dX3_bestBan_52 : decode cX3_bestBan 52 = .ok (.iload_n 3, 1) := by decide +kernel
theorem dX3_bestBan_53 : decode cX3_bestBan 53 = .ok (.if_icmp .ge 9, 3) := by decide +kernel
theorem dX3_bestBan_56 : decode cX3_bestBan 56 = .ok (.iload 5, 2) := by decide +kernel
theorem dX3_bestBan_58 : decode cX3_bestBan 58 = .ok (.istore_n 3, 1) := by decide +kernel
theorem dX3_bestBan_59 : decode cX3_bestBan 59 = .ok (.iload 4, 2) := by decide +kernel
theorem dX3_bestBan_61 : decode cX3_bestBan 61 = .ok (.istore_n 2, 1) := by decide +kernel
theorem dX3_bestBan_62 : decode cX3_bestBan 62 = .ok (.iinc 4 1, 3) := by decide +kernel
theorem dX3_bestBan_65 : decode cX3_bestBan 65 = .ok (.goto (-49), 3) := by decide +kernel
theorem dX3_bestBan_68 : decode cX3_bestBan 68 = .ok (.iload_n 1, 1) := by decide +kernel
theorem dX3_bestBan_69 : decode cX3_bestBan 69 = .ok (.ifCond .eq 9, 3) := by decide +kernel
theorem dX3_bestBan_72 : decode cX3_bestBan 72 = .ok (.iload_n 2, 1) := by decide +kernel
theorem dX3_bestBan_73 : decode cX3_bestBan 73 = .ok (.bipush (-9), 2) := by decide +kernel
theorem dX3_bestBan_75 : decode cX3_bestBan 75 = .ok (.if_icmp .ne 7, 3) := by decide +kernel
theorem dX3_bestBan_78 : decode cX3_bestBan 78 = .ok (.iload_n 2, 1) := by decide +kernel
theorem dX3_bestBan_79 : decode cX3_bestBan 79 = .ok (.goto 4, 3) := by decide +kernel
theorem dX3_bestBan_82 : decode cX3_bestBan 82 = .ok (.iload_n 3, 1) := by decide +kernel
theorem dX3_bestBan_83 : decode cX3_bestBan 83 = .ok (.ireturn, 1) := by decide +kernel
set_option maxRecDepth 100000 in
set_option maxHeartbeats 4000000 in
theorem c_X3_bestBan {l : Launch} {G : Gx} (hap : k_ap G shC.length) (v1 : Int32) (M0 : Mem) (r : Int32 × Mem) (hf : f_X3_bestBan v1 M0 = some r) : k_Met l yX3_bestBan cX3_bestBan 6 (some .int) 4 88 G shC [.ref (G.2.1 28), .int v1] M0 (k_Qi G shC r.1 r.2) := by
  refine k_Met_of (by decide) hap (Nat.le_of_ble_eq_true rfl) ?_
  intro p e s m args below meth c C hr hlk
  have C : Cx p s m args c cX3_bestBan RX3 6 G shC := C
  have k_b16 : ∀ (n16 : Nat) (v1 : Int32) (v2 : Int32) (v3 : Int32) (v4 : Int32) (M : Mem), f_X3_bestBan_b16 n16 v1 v2 v3 v4 M = some r → K p l e (k_rm 4 88) s m args below meth c 6 G shC (MQ below (k_Qi G shC r.1 r.2) args s 0 0 (k_A G shC.length)) 16 [(0, .ref (G.2.1 28)), (1, .int v1), (2, .int v2), (3, .int v3), (4, .int v4)] [] M := by
    intro n16
    induction n16 with
    | zero => intro v1 v2 v3 v4 M hf; simp [f_X3_bestBan_b16] at hf
    | succ n16 ih16 =>
      have k_b48 : ∀ (v1 : Int32) (v2 : Int32) (v3 : Int32) (v4 : Int32) (s0 : Int32) (M : Mem), f_X3_bestBan_b48 (f_X3_bestBan_b16 n16) v1 v2 v3 v4 s0 M = some r → K p l e (k_rm 4 88) s m args below meth c 6 G shC (MQ below (k_Qi G shC r.1 r.2) args s 0 0 (k_A G shC.length)) 48 [(0, .ref (G.2.1 28)), (1, .int v1), (2, .int v2), (3, .int v3), (4, .int v4)] [.int s0] M := by
        intro v1 v2 v3 v4 s0 M hf
        unfold f_X3_bestBan_b48 at hf
        refine k_istore C dX3_bestBan_48 (by decide) [1, 2, 3, 4, 5, 0] (lv' := [(0, .ref (G.2.1 28)), (1, .int v1), (2, .int v2), (3, .int v3), (4, .int v4), (5, .int s0)]) rfl ?_
        refine k_iload C dX3_bestBan_50 5 rfl ?_
        refine k_iload_n C dX3_bestBan_52 3 rfl ?_
        rcases ite_g hf with ⟨c9, hf⟩ | ⟨c9, hf⟩
        · refine k_icmp_ge_t C dX3_bestBan_53 (tgt := 62) (by decide) c9 ?_
          refine k_iinc C dX3_bestBan_62 4 rfl (v := (v4 + (1 : Int32))) rfl (by decide) [1, 2, 3, 4, 0] (lv' := [(0, .ref (G.2.1 28)), (1, .int v1), (2, .int v2), (3, .int v3), (4, .int (v4 + (1 : Int32)))]) rfl ?_
          refine k_goto C dX3_bestBan_65 (tgt := 16) (by decide) ?_
          exact ih16 v1 v2 v3 (v4 + (1 : Int32)) M hf
        · refine k_icmp_ge_f C dX3_bestBan_53 (tgt := 62) (by decide) c9 ?_
          refine k_iload C dX3_bestBan_56 5 rfl ?_
          refine k_istore_n C dX3_bestBan_58 (by decide) [1, 2, 0, 4] (lv' := [(0, .ref (G.2.1 28)), (1, .int v1), (3, .int s0), (4, .int v4)]) rfl ?_
          refine k_iload C dX3_bestBan_59 3 rfl ?_
          refine k_istore_n C dX3_bestBan_61 (by decide) [1, 2, 0, 3, 4] (lv' := [(0, .ref (G.2.1 28)), (1, .int v1), (2, .int v4), (3, .int s0), (4, .int v4)]) rfl ?_
          refine k_iinc C dX3_bestBan_62 4 rfl (v := (v4 + (1 : Int32))) rfl (by decide) [1, 2, 3, 4, 0] (lv' := [(0, .ref (G.2.1 28)), (1, .int v1), (2, .int v4), (3, .int s0), (4, .int (v4 + (1 : Int32)))]) rfl ?_
          refine k_goto C dX3_bestBan_65 (tgt := 16) (by decide) ?_
          exact ih16 v1 v4 s0 (v4 + (1 : Int32)) M hf
      intro v1 v2 v3 v4 M hf
      unfold f_X3_bestBan_b16 at hf
      refine k_iload C dX3_bestBan_16 4 rfl ?_
      refine k_aload_n C dX3_bestBan_18 0 rfl ?_
      refine k_getr C shC_28 (j := 0) rfl FL_X3_21 dX3_bestBan_19 ?_
      refine k_geti C shC_1 (j := 4) rfl FL_X3_75 dX3_bestBan_22 ?_
      rcases ite_g hf with ⟨c3, hf⟩ | ⟨c3, hf⟩
      · refine k_icmp_ge_t C dX3_bestBan_25 (tgt := 68) (by decide) c3 ?_
        refine k_iload_n C dX3_bestBan_68 1 rfl ?_
        rcases ite_g hf with ⟨c4, hf⟩ | ⟨c4, hf⟩
        · refine k_if_eq_t C dX3_bestBan_69 (tgt := 78) (by decide) c4 ?_
          refine k_iload_n C dX3_bestBan_78 2 rfl ?_
          refine k_goto C dX3_bestBan_79 (tgt := 83) (by decide) ?_
          exact k_iret C hr hlk (prf hf) (prs hf) dX3_bestBan_83
        · refine k_if_eq_f C dX3_bestBan_69 (tgt := 78) (by decide) c4 ?_
          refine k_iload_n C dX3_bestBan_72 2 rfl ?_
          refine k_bipush C dX3_bestBan_73 (v := (-9 : Int32)) rfl ?_
          rcases ite_g hf with ⟨c5, hf⟩ | ⟨c5, hf⟩
          · refine k_icmp_ne_f C dX3_bestBan_75 (tgt := 82) (by decide) c5 ?_
            refine k_iload_n C dX3_bestBan_78 2 rfl ?_
            refine k_goto C dX3_bestBan_79 (tgt := 83) (by decide) ?_
            exact k_iret C hr hlk (prf hf) (prs hf) dX3_bestBan_83
          · refine k_icmp_ne_t C dX3_bestBan_75 (tgt := 82) (by decide) c5 ?_
            refine k_iload_n C dX3_bestBan_82 3 rfl ?_
            exact k_iret C hr hlk (prf hf) (prs hf) dX3_bestBan_83
      · refine k_icmp_ge_f C dX3_bestBan_25 (tgt := 68) (by decide) c3 ?_
        refine k_aload_n C dX3_bestBan_28 0 rfl ?_
        refine k_iload C dX3_bestBan_29 4 rfl ?_
        obtain ⟨t6, ht6, hf⟩ := bnd hf
        refine k_callVi C (As := [.int v4]) (c_X3_isInLog hap v4 M t6 ht6) ML_X3_isInLog wd_1169 shC_28 rfl rfl rfl ⟨Nat.le_of_ble_eq_true rfl, Nat.le_of_ble_eq_true rfl⟩ (Nat.le_of_ble_eq_true rfl) dX3_bestBan_31 ?_
        rcases ite_g hf with ⟨c8, hf⟩ | ⟨c8, hf⟩
        · refine k_if_eq_t C dX3_bestBan_34 (tgt := 46) (by decide) c8 ?_
          refine k_ldc C dX3_bestBan_46 wd_903 ?_
          exact k_b48 v1 v2 v3 v4 (2147483647 : Int32) M hf
        · refine k_if_eq_f C dX3_bestBan_34 (tgt := 46) (by decide) c8 ?_
          refine k_aload_n C dX3_bestBan_37 0 rfl ?_
          refine k_iload C dX3_bestBan_38 4 rfl ?_
          obtain ⟨⟨t10, M10⟩, ht10, hf⟩ := bnd hf
          replace hf := bp_s hf
          refine k_callVi C (As := [.int v4]) (c_X3_sumBanning hap v4 M (t10, M10) ht10) ML_X3_sumBanning wd_1173 shC_28 rfl rfl rfl ⟨Nat.le_of_ble_eq_true rfl, Nat.le_of_ble_eq_true rfl⟩ (Nat.le_of_ble_eq_true rfl) dX3_bestBan_40 ?_
          refine k_goto C dX3_bestBan_43 (tgt := 48) (by decide) ?_
          exact k_b48 v1 v2 v3 v4 t10 M10 hf
  unfold f_X3_bestBan at hf
  refine k_lv (lv' := [(0, .ref (G.2.1 28)), (1, .int v1)]) [0, 1] rfl ?_
  refine k_aload_n C dX3_bestBan_0 0 rfl ?_
  refine k_getr C shC_28 (j := 1) rfl FL_X3_25 dX3_bestBan_1 ?_
  obtain ⟨M1, hM1, hf⟩ := bnd hf
  refine k_callVv C (As := []) (c_X8_open hap M0 M1 hM1) ML_X8_open wd_674 shC_25 rfl rfl rfl ⟨Nat.le_of_ble_eq_true rfl, Nat.le_of_ble_eq_true rfl⟩ (Nat.le_of_ble_eq_true rfl) dX3_bestBan_4 ?_
  refine k_bipush C dX3_bestBan_7 (v := (-9 : Int32)) rfl ?_
  refine k_istore_n C dX3_bestBan_9 (by decide) [1, 2, 0] (lv' := [(0, .ref (G.2.1 28)), (1, .int v1), (2, .int (-9 : Int32))]) rfl ?_
  refine k_ldc C dX3_bestBan_10 wd_903 ?_
  refine k_istore_n C dX3_bestBan_12 (by decide) [1, 2, 3, 0] (lv' := [(0, .ref (G.2.1 28)), (1, .int v1), (2, .int (-9 : Int32)), (3, .int (2147483647 : Int32))]) rfl ?_
  refine k_iconst C dX3_bestBan_13 (v := (0 : Int32)) rfl ?_
  refine k_istore C dX3_bestBan_14 (by decide) [1, 2, 3, 4, 0] (lv' := [(0, .ref (G.2.1 28)), (1, .int v1), (2, .int (-9 : Int32)), (3, .int (2147483647 : Int32)), (4, .int (0 : Int32))]) rfl ?_
  exact k_b16 FU v1 (-9 : Int32) (2147483647 : Int32) (0 : Int32) M1 hf
theorem dX3_areAlikePlaces_0 : decode cX3_areAlikePlaces 0 = .ok (.aload_n 0, 1) := by decide +kernel
theorem dX3_areAlikePlaces_1 : decode cX3_areAlikePlaces 1 = .ok (.getfield 25, 3) := by decide +kernel
theorem dX3_areAlikePlaces_4 : decode cX3_areAlikePlaces 4 = .ok (.getfield 111, 3) := by decide +kernel
theorem dX3_areAlikePlaces_7 : decode cX3_areAlikePlaces 7 = .ok (.aload_n 0, 1) := by decide +kernel
theorem dX3_areAlikePlaces_8 : decode cX3_areAlikePlaces 8 = .ok (.getfield 21, 3) := by decide +kernel
theorem dX3_areAlikePlaces_11 : decode cX3_areAlikePlaces 11 = .ok (.getfield 40, 3) := by decide +kernel
theorem dX3_areAlikePlaces_14 : decode cX3_areAlikePlaces 14 = .ok (.iload_n 1, 1) := by decide +kernel
theorem dX3_areAlikePlaces_15 : decode cX3_areAlikePlaces 15 = .ok (.iaload, 1) := by decide +kernel
theorem dX3_areAlikePlaces_16 : decode cX3_areAlikePlaces 16 = .ok (.iaload, 1) := by decide +kernel
theorem dX3_areAlikePlaces_17 : decode cX3_areAlikePlaces 17 = .ok (.aload_n 0, 1) := by decide +kernel
theorem dX3_areAlikePlaces_18 : decode cX3_areAlikePlaces 18 = .ok (.getfield 21, 3) := by decide +kernel
theorem dX3_areAlikePlaces_21 : decode cX3_areAlikePlaces 21 = .ok (.getfield 40, 3) := by decide +kernel
theorem dX3_areAlikePlaces_24 : decode cX3_areAlikePlaces 24 = .ok (.iload_n 2, 1) := by decide +kernel
theorem dX3_areAlikePlaces_25 : decode cX3_areAlikePlaces 25 = .ok (.iaload, 1) := by decide +kernel
theorem dX3_areAlikePlaces_26 : decode cX3_areAlikePlaces 26 = .ok (.ishr, 1) := by decide +kernel
theorem dX3_areAlikePlaces_27 : decode cX3_areAlikePlaces 27 = .ok (.iconst 1, 1) := by decide +kernel
theorem dX3_areAlikePlaces_28 : decode cX3_areAlikePlaces 28 = .ok (.iand, 1) := by decide +kernel
theorem dX3_areAlikePlaces_29 : decode cX3_areAlikePlaces 29 = .ok (.ifCond .eq 7, 3) := by decide +kernel
theorem dX3_areAlikePlaces_32 : decode cX3_areAlikePlaces 32 = .ok (.iconst 1, 1) := by decide +kernel
theorem dX3_areAlikePlaces_33 : decode cX3_areAlikePlaces 33 = .ok (.goto 4, 3) := by decide +kernel
theorem dX3_areAlikePlaces_36 : decode cX3_areAlikePlaces 36 = .ok (.iconst 0, 1) := by decide +kernel
theorem dX3_areAlikePlaces_37 : decode cX3_areAlikePlaces 37 = .ok (.ireturn, 1) := by decide +kernel
set_option maxRecDepth 100000 in
set_option maxHeartbeats 4000000 in
theorem c_X3_areAlikePlaces {l : Launch} {G : Gx} (hap : k_ap G shC.length) (v1 : Int32) (v2 : Int32) (M0 : Mem) (r : Int32) (hf : f_X3_areAlikePlaces v1 v2 M0 = some r) : k_Met l yX3_areAlikePlaces cX3_areAlikePlaces 3 (some .boolean) 0 0 G shC [.ref (G.2.1 28), .int v1, .int v2] M0 (k_Qi G shC r M0) := by
  refine k_Met_of (by decide) hap (Nat.le_of_ble_eq_true rfl) ?_
  intro p e s m args below meth c C hr hlk
  have C : Cx p s m args c cX3_areAlikePlaces RX3 3 G shC := C
  unfold f_X3_areAlikePlaces at hf
  refine k_lv (lv' := [(0, .ref (G.2.1 28)), (1, .int v1), (2, .int v2)]) [0, 1, 2] rfl ?_
  refine k_aload_n C dX3_areAlikePlaces_0 0 rfl ?_
  refine k_getr C shC_28 (j := 1) rfl FL_X3_25 dX3_areAlikePlaces_1 ?_
  refine k_getr C shC_25 (j := 1) rfl FL_X3_111 dX3_areAlikePlaces_4 ?_
  refine k_aload_n C dX3_areAlikePlaces_7 0 rfl ?_
  refine k_getr C shC_28 (j := 0) rfl FL_X3_21 dX3_areAlikePlaces_8 ?_
  refine k_getr C shC_1 (j := 3) rfl FL_X3_40 dX3_areAlikePlaces_11 ?_
  refine k_iload_n C dX3_areAlikePlaces_14 1 rfl ?_
  obtain ⟨t1, ht1, hf⟩ := bnd hf
  refine k_iald C shC_5 ht1 dX3_areAlikePlaces_15 ?_
  obtain ⟨t2, ht2, hf⟩ := bnd hf
  refine k_iald C shC_26 ht2 dX3_areAlikePlaces_16 ?_
  refine k_aload_n C dX3_areAlikePlaces_17 0 rfl ?_
  refine k_getr C shC_28 (j := 0) rfl FL_X3_21 dX3_areAlikePlaces_18 ?_
  refine k_getr C shC_1 (j := 3) rfl FL_X3_40 dX3_areAlikePlaces_21 ?_
  refine k_iload_n C dX3_areAlikePlaces_24 2 rfl ?_
  obtain ⟨t3, ht3, hf⟩ := bnd hf
  refine k_iald C shC_5 ht3 dX3_areAlikePlaces_25 ?_
  refine k_ishrJ C dX3_areAlikePlaces_26 ?_
  refine k_iconst C dX3_areAlikePlaces_27 (v := (1 : Int32)) rfl ?_
  refine k_iand C dX3_areAlikePlaces_28 ?_
  rcases ite_g hf with ⟨c4, hf⟩ | ⟨c4, hf⟩
  · refine k_if_eq_t C dX3_areAlikePlaces_29 (tgt := 36) (by decide) c4 ?_
    refine k_iconst C dX3_areAlikePlaces_36 (v := (0 : Int32)) rfl ?_
    exact k_zret C hr hlk (gZ0.trans (congrArg some (Option.some.inj hf))) rfl dX3_areAlikePlaces_37
  · refine k_if_eq_f C dX3_areAlikePlaces_29 (tgt := 36) (by decide) c4 ?_
    refine k_iconst C dX3_areAlikePlaces_32 (v := (1 : Int32)) rfl ?_
    refine k_goto C dX3_areAlikePlaces_33 (tgt := 37) (by decide) ?_
    exact k_zret C hr hlk (gZ1.trans (congrArg some (Option.some.inj hf))) rfl dX3_areAlikePlaces_37
theorem dX3_readAhead_0 : decode cX3_readAhead 0 = .ok (.aload_n 0, 1) := by decide +kernel
theorem dX3_readAhead_1 : decode cX3_readAhead 1 = .ok (.getfield 25, 3) := by decide +kernel
theorem dX3_readAhead_4 : decode cX3_readAhead 4 = .ok (.invokevirtual 29, 3) := by decide +kernel
theorem dX3_readAhead_7 : decode cX3_readAhead 7 = .ok (.iconst 0, 1) := by decide +kernel
theorem dX3_readAhead_8 : decode cX3_readAhead 8 = .ok (.istore_n 1, 1) := by decide +kernel
theorem dX3_readAhead_9 : decode cX3_readAhead 9 = .ok (.iload_n 1, 1) := by decide +kernel
theorem dX3_readAhead_10 : decode cX3_readAhead 10 = .ok (.aload_n 0, 1) := by decide +kernel
theorem dX3_readAhead_11 : decode cX3_readAhead 11 = .ok (.getfield 21, 3) := by decide +kernel
theorem dX3_readAhead_14 : decode cX3_readAhead 14 = .ok (.getfield 34, 3) := by decide +kernel
theorem dX3_readAhead_17 : decode cX3_readAhead 17 = .ok (.if_icmp .ge 50, 3) := by decide +kernel
theorem dX3_readAhead_20 : decode cX3_readAhead 20 = .ok (.aload_n 0, 1) := by decide +kernel
theorem dX3_readAhead_21 : decode cX3_readAhead 21 = .ok (.getfield 18, 3) := by decide +kernel
theorem dX3_readAhead_24 : decode cX3_readAhead 24 = .ok (.iload_n 1, 1) := by decide +kernel
theorem dX3_readAhead_25 : decode cX3_readAhead 25 = .ok (.iconst 0, 1) := by decide +kernel
theorem dX3_readAhead_26 : decode cX3_readAhead 26 = .ok (.iastore, 1) := by decide +kernel
theorem dX3_readAhead_27 : decode cX3_readAhead 27 = .ok (.iconst 0, 1) := by decide +kernel
theorem dX3_readAhead_28 : decode cX3_readAhead 28 = .ok (.istore_n 2, 1) := by decide +kernel
theorem dX3_readAhead_29 : decode cX3_readAhead 29 = .ok (.iload_n 2, 1) := by decide +kernel
theorem dX3_readAhead_30 : decode cX3_readAhead 30 = .ok (.iload_n 1, 1) := by decide +kernel
theorem dX3_readAhead_31 : decode cX3_readAhead 31 = .ok (.if_icmp .ge 30, 3) := by decide +kernel
theorem dX3_readAhead_34 : decode cX3_readAhead 34 = .ok (.aload_n 0, 1) := by decide +kernel
theorem dX3_readAhead_35 : decode cX3_readAhead 35 = .ok (.iload_n 2, 1) := by decide +kernel
theorem dX3_readAhead_36 : decode cX3_readAhead 36 = .ok (.iload_n 1, 1) := by decide +kernel
theorem dX3_readAhead_37 : decode cX3_readAhead 37 = .ok (.invokevirtual 99, 3) := by decide +kernel
theorem dX3_readAhead_40 : decode cX3_readAhead 40 = .ok (.ifCond .eq 15, 3) := by decide +kernel
theorem dX3_readAhead_43 : decode cX3_readAhead 43 = .ok (.aload_n 0, 1) := by decide +kernel
theorem dX3_readAhead_44 : decode cX3_readAhead 44 = .ok (.getfield 18, 3) := by decide +kernel
theorem dX3_readAhead_47 : decode cX3_readAhead 47 = .ok (.iload_n 1, 1) := by decide +kernel
theorem dX3_readAhead_48 : decode cX3_readAhead 48 = .ok (.dup2, 1) := by decide +kernel
theorem dX3_readAhead_49 : decode cX3_readAhead 49 = .ok (.iaload, 1) := by decide +kernel
theorem dX3_readAhead_50 : decode cX3_readAhead 50 = .ok (.iconst 1, 1) := by decide +kernel
theorem dX3_readAhead_51 : decode cX3_readAhead 51 = .ok (.iload_n 2, 1) := by decide +kernel
theorem dX3_readAhead_52 : decode cX3_readAhead 52 = .ok (.ishl, 1) := by decide +kernel
theorem dX3_readAhead_53 : decode cX3_readAhead 53 = .ok (.ior, 1) := by decide +kernel
theorem dX3_readAhead_54 : decode cX3_readAhead 54 = .ok (.iastore, 1) := by decide +kernel
theorem dX3_readAhead_55 : decode cX3_readAhead 55 = .ok (.iinc 2 1, 3) := by decide +kernel
theorem dX3_readAhead_58 : decode cX3_readAhead 58 = .ok (.goto (-29), 3) := by decide +kernel
theorem dX3_readAhead_61 : decode cX3_readAhead 61 = .ok (.iinc 1 1, 3) := by decide +kernel
theorem dX3_readAhead_64 : decode cX3_readAhead 64 = .ok (.goto (-55), 3) := by decide +kernel
theorem dX3_readAhead_67 : decode cX3_readAhead 67 = .ok (.return_, 1) := by decide +kernel
set_option maxRecDepth 100000 in
set_option maxHeartbeats 4000000 in
theorem c_X3_readAhead {l : Launch} {G : Gx} (hap : k_ap G shC.length) (M0 : Mem) (r : Mem) (hf : f_X3_readAhead M0 = some r) : k_Met l yX3_readAhead cX3_readAhead 3 none 4 88 G shC [.ref (G.2.1 28)] M0 (k_Qv G shC r) := by
  refine k_Met_of (by decide) hap (Nat.le_of_ble_eq_true rfl) ?_
  intro p e s m args below meth c C hr hlk
  have C : Cx p s m args c cX3_readAhead RX3 3 G shC := C
  have k_b9 : ∀ (n9 : Nat) (v1 : Int32) (M : Mem), f_X3_readAhead_b9 n9 v1 M = some r → K p l e (k_rm 4 88) s m args below meth c 3 G shC (MQ below (k_Qv G shC r) args s 0 0 (k_A G shC.length)) 9 [(0, .ref (G.2.1 28)), (1, .int v1)] [] M := by
    intro n9
    induction n9 with
    | zero => intro v1 M hf; simp [f_X3_readAhead_b9] at hf
    | succ n9 ih9 =>
      have k_b29 : ∀ (n29 : Nat) (v1 : Int32) (v2 : Int32) (M : Mem), f_X3_readAhead_b29 (f_X3_readAhead_b9 n9) n29 v1 v2 M = some r → K p l e (k_rm 4 88) s m args below meth c 3 G shC (MQ below (k_Qv G shC r) args s 0 0 (k_A G shC.length)) 29 [(0, .ref (G.2.1 28)), (1, .int v1), (2, .int v2)] [] M := by
        intro n29
        induction n29 with
        | zero => intro v1 v2 M hf; simp [f_X3_readAhead_b29] at hf
        | succ n29 ih29 =>
          intro v1 v2 M hf
          unfold f_X3_readAhead_b29 at hf
          refine k_iload_n C dX3_readAhead_29 2 rfl ?_
          refine k_iload_n C dX3_readAhead_30 1 rfl ?_
          rcases ite_g hf with ⟨c5, hf⟩ | ⟨c5, hf⟩
          · refine k_icmp_ge_t C dX3_readAhead_31 (tgt := 61) (by decide) c5 ?_
            refine k_iinc C dX3_readAhead_61 1 rfl (v := (v1 + (1 : Int32))) rfl (by decide) [1, 0] (lv' := [(0, .ref (G.2.1 28)), (1, .int (v1 + (1 : Int32)))]) rfl ?_
            refine k_goto C dX3_readAhead_64 (tgt := 9) (by decide) ?_
            exact ih9 (v1 + (1 : Int32)) M hf
          · refine k_icmp_ge_f C dX3_readAhead_31 (tgt := 61) (by decide) c5 ?_
            refine k_aload_n C dX3_readAhead_34 0 rfl ?_
            refine k_iload_n C dX3_readAhead_35 2 rfl ?_
            refine k_iload_n C dX3_readAhead_36 1 rfl ?_
            obtain ⟨t6, ht6, hf⟩ := bnd hf
            refine k_callVi C (As := [.int v2, .int v1]) (c_X3_areAlikePlaces hap v2 v1 M t6 ht6) ML_X3_areAlikePlaces wd_883 shC_28 rfl rfl rfl ⟨Nat.le_of_ble_eq_true rfl, Nat.le_of_ble_eq_true rfl⟩ (Nat.le_of_ble_eq_true rfl) dX3_readAhead_37 ?_
            rcases ite_g hf with ⟨c7, hf⟩ | ⟨c7, hf⟩
            · refine k_if_eq_t C dX3_readAhead_40 (tgt := 55) (by decide) c7 ?_
              refine k_iinc C dX3_readAhead_55 2 rfl (v := (v2 + (1 : Int32))) rfl (by decide) [1, 2, 0] (lv' := [(0, .ref (G.2.1 28)), (1, .int v1), (2, .int (v2 + (1 : Int32)))]) rfl ?_
              refine k_goto C dX3_readAhead_58 (tgt := 29) (by decide) ?_
              exact ih29 v1 (v2 + (1 : Int32)) M hf
            · refine k_if_eq_f C dX3_readAhead_40 (tgt := 55) (by decide) c7 ?_
              refine k_aload_n C dX3_readAhead_43 0 rfl ?_
              refine k_getr C shC_28 (j := 4) rfl FL_X3_18 dX3_readAhead_44 ?_
              refine k_iload_n C dX3_readAhead_47 1 rfl ?_
              refine k_dup2 C dX3_readAhead_48 rfl rfl ?_
              obtain ⟨t8, ht8, hf⟩ := bnd hf
              refine k_iald C shC_31 ht8 dX3_readAhead_49 ?_
              refine k_iconst C dX3_readAhead_50 (v := (1 : Int32)) rfl ?_
              refine k_iload_n C dX3_readAhead_51 2 rfl ?_
              refine k_ishlJ C dX3_readAhead_52 ?_
              refine k_ior C dX3_readAhead_53 ?_
              obtain ⟨M9, hM9, hf⟩ := bnd hf
              refine k_iast C shC_31 hM9 dX3_readAhead_54 ?_
              refine k_iinc C dX3_readAhead_55 2 rfl (v := (v2 + (1 : Int32))) rfl (by decide) [1, 2, 0] (lv' := [(0, .ref (G.2.1 28)), (1, .int v1), (2, .int (v2 + (1 : Int32)))]) rfl ?_
              refine k_goto C dX3_readAhead_58 (tgt := 29) (by decide) ?_
              exact ih29 v1 (v2 + (1 : Int32)) M9 hf
      intro v1 M hf
      unfold f_X3_readAhead_b9 at hf
      refine k_iload_n C dX3_readAhead_9 1 rfl ?_
      refine k_aload_n C dX3_readAhead_10 0 rfl ?_
      refine k_getr C shC_28 (j := 0) rfl FL_X3_21 dX3_readAhead_11 ?_
      refine k_geti C shC_1 (j := 5) rfl FL_X3_34 dX3_readAhead_14 ?_
      rcases ite_g hf with ⟨c2, hf⟩ | ⟨c2, hf⟩
      · refine k_icmp_ge_t C dX3_readAhead_17 (tgt := 67) (by decide) c2 ?_
        exact k_vret C hr hlk (Option.some.inj hf) dX3_readAhead_67
      · refine k_icmp_ge_f C dX3_readAhead_17 (tgt := 67) (by decide) c2 ?_
        refine k_aload_n C dX3_readAhead_20 0 rfl ?_
        refine k_getr C shC_28 (j := 4) rfl FL_X3_18 dX3_readAhead_21 ?_
        refine k_iload_n C dX3_readAhead_24 1 rfl ?_
        refine k_iconst C dX3_readAhead_25 (v := (0 : Int32)) rfl ?_
        obtain ⟨M3, hM3, hf⟩ := bnd hf
        refine k_iast C shC_31 hM3 dX3_readAhead_26 ?_
        refine k_iconst C dX3_readAhead_27 (v := (0 : Int32)) rfl ?_
        refine k_istore_n C dX3_readAhead_28 (by decide) [1, 2, 0] (lv' := [(0, .ref (G.2.1 28)), (1, .int v1), (2, .int (0 : Int32))]) rfl ?_
        exact k_b29 FU v1 (0 : Int32) M3 hf
  unfold f_X3_readAhead at hf
  refine k_lv (lv' := [(0, .ref (G.2.1 28))]) [0] rfl ?_
  refine k_aload_n C dX3_readAhead_0 0 rfl ?_
  refine k_getr C shC_28 (j := 1) rfl FL_X3_25 dX3_readAhead_1 ?_
  obtain ⟨M1, hM1, hf⟩ := bnd hf
  refine k_callVv C (As := []) (c_X8_open hap M0 M1 hM1) ML_X8_open wd_674 shC_25 rfl rfl rfl ⟨Nat.le_of_ble_eq_true rfl, Nat.le_of_ble_eq_true rfl⟩ (Nat.le_of_ble_eq_true rfl) dX3_readAhead_4 ?_
  refine k_iconst C dX3_readAhead_7 (v := (0 : Int32)) rfl ?_
  refine k_istore_n C dX3_readAhead_8 (by decide) [1, 0] (lv' := [(0, .ref (G.2.1 28)), (1, .int (0 : Int32))]) rfl ?_
  exact k_b9 FU (0 : Int32) M1 hf
theorem dX3_sumSplit_0 : decode cX3_sumSplit 0 = .ok (.iconst 0, 1) := by decide +kernel
theorem dX3_sumSplit_1 : decode cX3_sumSplit 1 = .ok (.istore_n 3, 1) := by decide +kernel
theorem dX3_sumSplit_2 : decode cX3_sumSplit 2 = .ok (.iconst 0, 1) := by decide +kernel
theorem dX3_sumSplit_3 : decode cX3_sumSplit 3 = .ok (.istore 4, 2) := by decide +kernel
theorem dX3_sumSplit_5 : decode cX3_sumSplit 5 = .ok (.iload 4, 2) := by decide +kernel
theorem dX3_sumSplit_7 : decode cX3_sumSplit 7 = .ok (.aload_n 0, 1) := by decide +kernel
theorem dX3_sumSplit_8 : decode cX3_sumSplit 8 = .ok (.getfield 21, 3) := by decide +kernel
theorem dX3_sumSplit_11 : decode cX3_sumSplit 11 = .ok (.getfield 34, 3) := by decide +kernel
theorem dX3_sumSplit_14 : decode cX3_sumSplit 14 = .ok (.if_icmp .ge 65, 3) := by decide +kernel
theorem dX3_sumSplit_17 : decode cX3_sumSplit 17 = .ok (.iload_n 3, 1) := by decide +kernel
theorem dX3_sumSplit_18 : decode cX3_sumSplit 18 = .ok (.iload_n 2, 1) := by decide +kernel
theorem dX3_sumSplit_19 : decode cX3_sumSplit 19 = .ok (.if_icmp .ge 60, 3) := by decide +kernel
theorem dX3_sumSplit_22 : decode cX3_sumSplit 22 = .ok (.iload_n 1, 1) := by decide +kernel
theorem dX3_sumSplit_23 : decode cX3_sumSplit 23 = .ok (.iload 4, 2) := by decide +kernel
theorem dX3_sumSplit_25 : decode cX3_sumSplit 25 = .ok (.ishr, 1) := by decide +kernel
theorem dX3_sumSplit_26 : decode cX3_sumSplit 26 = .ok (.iconst 1, 1) := by decide +kernel
theorem dX3_sumSplit_27 : decode cX3_sumSplit 27 = .ok (.iand, 1) := by decide +kernel
theorem dX3_sumSplit_28 : decode cX3_sumSplit 28 = .ok (.ifCond .eq 7, 3) := by decide +kernel
theorem dX3_sumSplit_31 : decode cX3_sumSplit 31 = .ok (.iload_n 1, 1) := by decide +kernel
theorem dX3_sumSplit_32 : decode cX3_sumSplit 32 = .ok (.goto 6, 3) := by decide +kernel
theorem dX3_sumSplit_35 : decode cX3_sumSplit 35 = .ok (.iload_n 1, 1) := by decide +kernel
theorem dX3_sumSplit_36 : decode cX3_sumSplit 36 = .ok (.iconst (-1), 1) := by decide +kernel
theorem dX3_sumSplit_37 : decode cX3_sumSplit 37 = .ok (.ixor, 1) := by decide +kernel
theorem dX3_sumSplit_38 : decode cX3_sumSplit 38 = .ok (.istore 5, 2) := by decide +kernel
theorem dX3_sumSplit_40 : decode cX3_sumSplit 40 = .ok (.iload_n 3, 1) := by decide +kernel
theorem dX3_sumSplit_41 : decode cX3_sumSplit 41 = .ok (.aload_n 0, 1) := by decide +kernel
theorem dX3_sumSplit_42 : decode cX3_sumSplit 42 = .ok (.getfield 21, 3) := by decide +kernel
theorem dX3_sumSplit_45 : decode cX3_sumSplit 45 = .ok (.aload_n 0, 1) := by decide +kernel
theorem dX3_sumSplit_46 : decode cX3_sumSplit 46 = .ok (.getfield 21, 3) := by decide +kernel
theorem dX3_sumSplit_49 : decode cX3_sumSplit 49 = .ok (.getfield 40, 3) := by decide +kernel
theorem dX3_sumSplit_52 : decode cX3_sumSplit 52 = .ok (.iload 4, 2) := by decide +kernel
theorem dX3_sumSplit_54 : decode cX3_sumSplit 54 = .ok (.iaload, 1) := by decide +kernel
theorem dX3_sumSplit_55 : decode cX3_sumSplit 55 = .ok (.aload_n 0, 1) := by decide +kernel
theorem dX3_sumSplit_56 : decode cX3_sumSplit 56 = .ok (.getfield 18, 3) := by decide +kernel
theorem dX3_sumSplit_59 : decode cX3_sumSplit 59 = .ok (.iload 4, 2) := by decide +kernel
theorem dX3_sumSplit_61 : decode cX3_sumSplit 61 = .ok (.iaload, 1) := by decide +kernel
theorem dX3_sumSplit_62 : decode cX3_sumSplit 62 = .ok (.iload 5, 2) := by decide +kernel
theorem dX3_sumSplit_64 : decode cX3_sumSplit 64 = .ok (.iand, 1) := by decide +kernel
theorem dX3_sumSplit_65 : decode cX3_sumSplit 65 = .ok (.invokestatic 103, 3) := by decide +kernel
theorem dX3_sumSplit_68 : decode cX3_sumSplit 68 = .ok (.invokevirtual 108, 3) := by decide +kernel
theorem dX3_sumSplit_71 : decode cX3_sumSplit 71 = .ok (.iadd, 1) := by decide +kernel
theorem dX3_sumSplit_72 : decode cX3_sumSplit 72 = .ok (.istore_n 3, 1) := by decide +kernel
theorem dX3_sumSplit_73 : decode cX3_sumSplit 73 = .ok (.iinc 4 1, 3) := by decide +kernel
theorem dX3_sumSplit_76 : decode cX3_sumSplit 76 = .ok (.goto (-71), 3) := by decide +kernel
theorem dX3_sumSplit_79 : decode cX3_sumSplit 79 = .ok (.iload_n 3, 1) := by decide +kernel
theorem dX3_sumSplit_80 : decode cX3_sumSplit 80 = .ok (.ireturn, 1) := by decide +kernel
set_option maxRecDepth 100000 in
set_option maxHeartbeats 4000000 in
theorem c_X3_sumSplit {l : Launch} {G : Gx} (hap : k_ap G shC.length) (v1 : Int32) (v2 : Int32) (M0 : Mem) (r : Int32) (hf : f_X3_sumSplit v1 v2 M0 = some r) : k_Met l yX3_sumSplit cX3_sumSplit 6 (some .int) 1 23 G shC [.ref (G.2.1 28), .int v1, .int v2] M0 (k_Qi G shC r M0) := by
  refine k_Met_of (by decide) hap (Nat.le_of_ble_eq_true rfl) ?_
  intro p e s m args below meth c C hr hlk
  have C : Cx p s m args c cX3_sumSplit RX3 6 G shC := C
  have k_b5 : ∀ (n5 : Nat) (v1 : Int32) (v2 : Int32) (v3 : Int32) (v4 : Int32), f_X3_sumSplit_b5 M0 n5 v1 v2 v3 v4 = some r → K p l e (k_rm 1 23) s m args below meth c 6 G shC (MQ below (k_Qi G shC r M0) args s 0 0 (k_A G shC.length)) 5 [(0, .ref (G.2.1 28)), (1, .int v1), (2, .int v2), (3, .int v3), (4, .int v4)] [] M0 := by
    intro n5
    induction n5 with
    | zero => intro v1 v2 v3 v4 hf; simp [f_X3_sumSplit_b5] at hf
    | succ n5 ih5 =>
      have k_b38 : ∀ (v1 : Int32) (v2 : Int32) (v3 : Int32) (v4 : Int32) (s0 : Int32), f_X3_sumSplit_b38 M0 (f_X3_sumSplit_b5 M0 n5) v1 v2 v3 v4 s0 = some r → K p l e (k_rm 1 23) s m args below meth c 6 G shC (MQ below (k_Qi G shC r M0) args s 0 0 (k_A G shC.length)) 38 [(0, .ref (G.2.1 28)), (1, .int v1), (2, .int v2), (3, .int v3), (4, .int v4)] [.int s0] M0 := by
        intro v1 v2 v3 v4 s0 hf
        unfold f_X3_sumSplit_b38 at hf
        refine k_istore C dX3_sumSplit_38 (by decide) [1, 2, 3, 4, 5, 0] (lv' := [(0, .ref (G.2.1 28)), (1, .int v1), (2, .int v2), (3, .int v3), (4, .int v4), (5, .int s0)]) rfl ?_
        refine k_iload_n C dX3_sumSplit_40 3 rfl ?_
        refine k_aload_n C dX3_sumSplit_41 0 rfl ?_
        refine k_getr C shC_28 (j := 0) rfl FL_X3_21 dX3_sumSplit_42 ?_
        refine k_aload_n C dX3_sumSplit_45 0 rfl ?_
        refine k_getr C shC_28 (j := 0) rfl FL_X3_21 dX3_sumSplit_46 ?_
        refine k_getr C shC_1 (j := 3) rfl FL_X3_40 dX3_sumSplit_49 ?_
        refine k_iload C dX3_sumSplit_52 4 rfl ?_
        obtain ⟨t3, ht3, hf⟩ := bnd hf
        refine k_iald C shC_5 ht3 dX3_sumSplit_54 ?_
        refine k_aload_n C dX3_sumSplit_55 0 rfl ?_
        refine k_getr C shC_28 (j := 4) rfl FL_X3_18 dX3_sumSplit_56 ?_
        refine k_iload C dX3_sumSplit_59 4 rfl ?_
        obtain ⟨t4, ht4, hf⟩ := bnd hf
        refine k_iald C shC_31 ht4 dX3_sumSplit_61 ?_
        refine k_iload C dX3_sumSplit_62 5 rfl ?_
        refine k_iand C dX3_sumSplit_64 ?_
        refine k_callSi C (As := [.int (t4 &&& s0)]) (c_J6_bitCount_0f7a4 hap (t4 &&& s0) M0 _ rfl) MS_J6_bitCount_0f7a4 wd_893 rfl rfl ⟨Nat.le_of_ble_eq_true rfl, Nat.le_of_ble_eq_true rfl⟩ (Nat.le_of_ble_eq_true rfl) dX3_sumSplit_65 ?_
        obtain ⟨t5, ht5, hf⟩ := bnd hf
        refine k_callVi C (As := [.int t3, .int (f_J6_bitCount_0f7a4 (t4 &&& s0))]) (c_X0_dueFor hap 1 BD_1 t3 (f_J6_bitCount_0f7a4 (t4 &&& s0)) M0 t5 ht5) ML_X0_dueFor wd_894 shC_1 rfl rfl rfl ⟨Nat.le_of_ble_eq_true rfl, Nat.le_of_ble_eq_true rfl⟩ (Nat.le_of_ble_eq_true rfl) dX3_sumSplit_68 ?_
        refine k_iadd C dX3_sumSplit_71 ?_
        refine k_istore_n C dX3_sumSplit_72 (by decide) [1, 2, 3, 0, 4] (lv' := [(0, .ref (G.2.1 28)), (1, .int v1), (2, .int v2), (3, .int (v3 + t5)), (4, .int v4)]) rfl ?_
        refine k_iinc C dX3_sumSplit_73 4 rfl (v := (v4 + (1 : Int32))) rfl (by decide) [1, 2, 3, 4, 0] (lv' := [(0, .ref (G.2.1 28)), (1, .int v1), (2, .int v2), (3, .int (v3 + t5)), (4, .int (v4 + (1 : Int32)))]) rfl ?_
        refine k_goto C dX3_sumSplit_76 (tgt := 5) (by decide) ?_
        exact ih5 v1 v2 (v3 + t5) (v4 + (1 : Int32)) hf
      intro v1 v2 v3 v4 hf
      unfold f_X3_sumSplit_b5 at hf
      refine k_iload C dX3_sumSplit_5 4 rfl ?_
      refine k_aload_n C dX3_sumSplit_7 0 rfl ?_
      refine k_getr C shC_28 (j := 0) rfl FL_X3_21 dX3_sumSplit_8 ?_
      refine k_geti C shC_1 (j := 5) rfl FL_X3_34 dX3_sumSplit_11 ?_
      rcases ite_g hf with ⟨c1, hf⟩ | ⟨c1, hf⟩
      · refine k_icmp_ge_t C dX3_sumSplit_14 (tgt := 79) (by decide) c1 ?_
        refine k_iload_n C dX3_sumSplit_79 3 rfl ?_
        exact k_iret C hr hlk (Option.some.inj hf) rfl dX3_sumSplit_80
      · refine k_icmp_ge_f C dX3_sumSplit_14 (tgt := 79) (by decide) c1 ?_
        refine k_iload_n C dX3_sumSplit_17 3 rfl ?_
        refine k_iload_n C dX3_sumSplit_18 2 rfl ?_
        rcases ite_g hf with ⟨c2, hf⟩ | ⟨c2, hf⟩
        · refine k_icmp_ge_t C dX3_sumSplit_19 (tgt := 79) (by decide) c2 ?_
          refine k_iload_n C dX3_sumSplit_79 3 rfl ?_
          exact k_iret C hr hlk (Option.some.inj hf) rfl dX3_sumSplit_80
        · refine k_icmp_ge_f C dX3_sumSplit_19 (tgt := 79) (by decide) c2 ?_
          refine k_iload_n C dX3_sumSplit_22 1 rfl ?_
          refine k_iload C dX3_sumSplit_23 4 rfl ?_
          refine k_ishrJ C dX3_sumSplit_25 ?_
          refine k_iconst C dX3_sumSplit_26 (v := (1 : Int32)) rfl ?_
          refine k_iand C dX3_sumSplit_27 ?_
          have hj6 : K p l e (k_rm 1 23) s m args below meth c 6 G shC (MQ below (k_Qi G shC r M0) args s 0 0 (k_A G shC.length)) 38 [(0, .ref (G.2.1 28)), (1, .int v1), (2, .int v2), (3, .int v3), (4, .int v4)] [.int (if ((jshr v1 v4) &&& (1 : Int32)) = 0 then (v1 ^^^ (-1 : Int32)) else v1)] M0 := by
            exact k_b38 v1 v2 v3 v4 (if ((jshr v1 v4) &&& (1 : Int32)) = 0 then (v1 ^^^ (-1 : Int32)) else v1) hf
          by_cases c7 : ((jshr v1 v4) &&& (1 : Int32)) = 0
          · refine k_if_eq_t C dX3_sumSplit_28 (tgt := 35) (by decide) c7 ?_
            refine k_iload_n C dX3_sumSplit_35 1 rfl ?_
            refine k_iconst C dX3_sumSplit_36 (v := (-1 : Int32)) rfl ?_
            refine k_ixor C dX3_sumSplit_37 ?_
            exact k_val (by rw [if_pos c7]) hj6
          · refine k_if_eq_f C dX3_sumSplit_28 (tgt := 35) (by decide) c7 ?_
            refine k_iload_n C dX3_sumSplit_31 1 rfl ?_
            refine k_goto C dX3_sumSplit_32 (tgt := 38) (by decide) ?_
            exact k_val (by rw [if_neg c7]) hj6
  unfold f_X3_sumSplit at hf
  refine k_lv (lv' := [(0, .ref (G.2.1 28)), (1, .int v1), (2, .int v2)]) [0, 1, 2] rfl ?_
  refine k_iconst C dX3_sumSplit_0 (v := (0 : Int32)) rfl ?_
  refine k_istore_n C dX3_sumSplit_1 (by decide) [1, 2, 3, 0] (lv' := [(0, .ref (G.2.1 28)), (1, .int v1), (2, .int v2), (3, .int (0 : Int32))]) rfl ?_
  refine k_iconst C dX3_sumSplit_2 (v := (0 : Int32)) rfl ?_
  refine k_istore C dX3_sumSplit_3 (by decide) [1, 2, 3, 4, 0] (lv' := [(0, .ref (G.2.1 28)), (1, .int v1), (2, .int v2), (3, .int (0 : Int32)), (4, .int (0 : Int32))]) rfl ?_
  exact k_b5 FU v1 v2 (0 : Int32) (0 : Int32) hf
theorem dX3_splitInTwo_0 : decode cX3_splitInTwo 0 = .ok (.aload_n 0, 1) := by decide +kernel
theorem dX3_splitInTwo_1 : decode cX3_splitInTwo 1 = .ok (.invokevirtual 85, 3) := by decide +kernel
theorem dX3_splitInTwo_4 : decode cX3_splitInTwo 4 = .ok (.iconst 0, 1) := by decide +kernel
theorem dX3_splitInTwo_5 : decode cX3_splitInTwo 5 = .ok (.istore_n 2, 1) := by decide +kernel
theorem dX3_splitInTwo_6 : decode cX3_splitInTwo 6 = .ok (.aload_n 0, 1) := by decide +kernel
theorem dX3_splitInTwo_7 : decode cX3_splitInTwo 7 = .ok (.getfield 25, 3) := by decide +kernel
theorem dX3_splitInTwo_10 : decode cX3_splitInTwo 10 = .ok (.invokevirtual 88, 3) := by decide +kernel
theorem dX3_splitInTwo_13 : decode cX3_splitInTwo 13 = .ok (.istore_n 3, 1) := by decide +kernel
theorem dX3_splitInTwo_14 : decode cX3_splitInTwo 14 = .ok (.iconst 1, 1) := by decide +kernel
theorem dX3_splitInTwo_15 : decode cX3_splitInTwo 15 = .ok (.istore 4, 2) := by decide +kernel
theorem dX3_splitInTwo_17 : decode cX3_splitInTwo 17 = .ok (.iload 4, 2) := by decide +kernel
theorem dX3_splitInTwo_19 : decode cX3_splitInTwo 19 = .ok (.iconst 1, 1) := by decide +kernel
theorem dX3_splitInTwo_20 : decode cX3_splitInTwo 20 = .ok (.iconst 0, 1) := by decide +kernel
theorem dX3_splitInTwo_21 : decode cX3_splitInTwo 21 = .ok (.aload_n 0, 1) := by decide +kernel
theorem dX3_splitInTwo_22 : decode cX3_splitInTwo 22 = .ok (.getfield 21, 3) := by decide +kernel
theorem dX3_splitInTwo_25 : decode cX3_splitInTwo 25 = .ok (.getfield 34, 3) := by decide +kernel
theorem dX3_splitInTwo_28 : decode cX3_splitInTwo 28 = .ok (.iconst 1, 1) := by decide +kernel
theorem dX3_splitInTwo_29 : decode cX3_splitInTwo 29 = .ok (.isub, 1) := by decide +kernel
theorem dX3_splitInTwo_30 : decode cX3_splitInTwo 30 = .ok (.invokestatic 91, 3) := by decide +kernel
theorem dX3_splitInTwo_33 : decode cX3_splitInTwo 33 = .ok (.ishl, 1) := by decide +kernel
theorem dX3_splitInTwo_34 : decode cX3_splitInTwo 34 = .ok (.if_icmp .ge 30, 3) := by decide +kernel
theorem dX3_splitInTwo_37 : decode cX3_splitInTwo 37 = .ok (.aload_n 0, 1) := by decide +kernel
theorem dX3_splitInTwo_38 : decode cX3_splitInTwo 38 = .ok (.iload 4, 2) := by decide +kernel
theorem dX3_splitInTwo_40 : decode cX3_splitInTwo 40 = .ok (.iload_n 3, 1) := by decide +kernel
theorem dX3_splitInTwo_41 : decode cX3_splitInTwo 41 = .ok (.invokevirtual 96, 3) := by decide +kernel
theorem dX3_splitInTwo_44 : decode cX3_splitInTwo 44 = .ok (.istore 5, 2) := by decide +kernel
theorem dX3_splitInTwo_46 : decode cX3_splitInTwo 46 = .ok (.iload 5, 2) := by decide +kernel
theorem dX3_splitInTwo_48 : decode cX3_splitInTwo 48 = .ok (.iload_n 3, 1) := by decide +kernel
theorem dX3_splitInTwo_49 : decode cX3_splitInTwo 49 = .ok (.if_icmp .ge 9, 3) := by decide +kernel
theorem dX3_splitInTwo_52 : decode cX3_splitInTwo 52 = .ok (.iload 5, 2) := by decide +kernel
theorem dX3_splitInTwo_54 : decode cX3_splitInTwo 54 = .ok (.istore_n 3, 1) := by decide +kernel
theorem dX3_splitInTwo_55 : decode cX3_splitInTwo 55 = .ok (.iload 4, 2) := by decide +kernel
theorem dX3_splitInTwo_57 : decode cX3_splitInTwo 57 = .ok (.istore_n 2, 1) := by decide +kernel
theorem dX3_splitInTwo_58 : decode cX3_splitInTwo 58 = .ok (.iinc 4 1, 3) := by decide +kernel
theorem dX3_splitInTwo_61 : decode cX3_splitInTwo 61 = .ok (.goto (-44), 3) := by decide +kernel
theorem dX3_splitInTwo_64 : decode cX3_splitInTwo 64 = .ok (.iload_n 1, 1) := by decide +kernel
theorem dX3_splitInTwo_65 : decode cX3_splitInTwo 65 = .ok (.ifCond .ne 7, 3) := by decide +kernel
theorem dX3_splitInTwo_68 : decode cX3_splitInTwo 68 = .ok (.iload_n 3, 1) := by decide +kernel
theorem dX3_splitInTwo_69 : decode cX3_splitInTwo 69 = .ok (.goto 4, 3) := by decide +kernel
theorem dX3_splitInTwo_72 : decode cX3_splitInTwo 72 = .ok (.iload_n 2, 1) := by decide +kernel
theorem dX3_splitInTwo_73 : decode cX3_splitInTwo 73 = .ok (.ireturn, 1) := by decide +kernel
set_option maxRecDepth 100000 in
set_option maxHeartbeats 4000000 in
theorem c_X3_splitInTwo {l : Launch} {G : Gx} (hap : k_ap G shC.length) (v1 : Int32) (M0 : Mem) (r : Int32 × Mem) (hf : f_X3_splitInTwo v1 M0 = some r) : k_Met l yX3_splitInTwo cX3_splitInTwo 6 (some .int) 5 110 G shC [.ref (G.2.1 28), .int v1] M0 (k_Qi G shC r.1 r.2) := by
  refine k_Met_of (by decide) hap (Nat.le_of_ble_eq_true rfl) ?_
  intro p e s m args below meth c C hr hlk
  have C : Cx p s m args c cX3_splitInTwo RX3 6 G shC := C
  have k_b17 : ∀ (n17 : Nat) (v1 : Int32) (v2 : Int32) (v3 : Int32) (v4 : Int32) (M : Mem), f_X3_splitInTwo_b17 n17 v1 v2 v3 v4 M = some r → K p l e (k_rm 5 110) s m args below meth c 6 G shC (MQ below (k_Qi G shC r.1 r.2) args s 0 0 (k_A G shC.length)) 17 [(0, .ref (G.2.1 28)), (1, .int v1), (2, .int v2), (3, .int v3), (4, .int v4)] [] M := by
    intro n17
    induction n17 with
    | zero => intro v1 v2 v3 v4 M hf; simp [f_X3_splitInTwo_b17] at hf
    | succ n17 ih17 =>
      intro v1 v2 v3 v4 M hf
      unfold f_X3_splitInTwo_b17 at hf
      refine k_iload C dX3_splitInTwo_17 4 rfl ?_
      refine k_iconst C dX3_splitInTwo_19 (v := (1 : Int32)) rfl ?_
      refine k_iconst C dX3_splitInTwo_20 (v := (0 : Int32)) rfl ?_
      refine k_aload_n C dX3_splitInTwo_21 0 rfl ?_
      refine k_getr C shC_28 (j := 0) rfl FL_X3_21 dX3_splitInTwo_22 ?_
      refine k_geti C shC_1 (j := 5) rfl FL_X3_34 dX3_splitInTwo_25 ?_
      refine k_iconst C dX3_splitInTwo_28 (v := (1 : Int32)) rfl ?_
      refine k_isub C dX3_splitInTwo_29 ?_
      refine k_max C W_max wd_888 ⟨Nat.le_of_ble_eq_true rfl, Nat.le_of_ble_eq_true rfl⟩ dX3_splitInTwo_30 ?_
      refine k_ishlJ C dX3_splitInTwo_33 ?_
      rcases ite_g hf with ⟨c4, hf⟩ | ⟨c4, hf⟩
      · refine k_icmp_ge_t C dX3_splitInTwo_34 (tgt := 64) (by decide) c4 ?_
        refine k_iload_n C dX3_splitInTwo_64 1 rfl ?_
        rcases ite_g hf with ⟨c5, hf⟩ | ⟨c5, hf⟩
        · refine k_if_ne_f C dX3_splitInTwo_65 (tgt := 72) (by decide) c5 ?_
          refine k_iload_n C dX3_splitInTwo_68 3 rfl ?_
          refine k_goto C dX3_splitInTwo_69 (tgt := 73) (by decide) ?_
          exact k_iret C hr hlk (prf hf) (prs hf) dX3_splitInTwo_73
        · refine k_if_ne_t C dX3_splitInTwo_65 (tgt := 72) (by decide) c5 ?_
          refine k_iload_n C dX3_splitInTwo_72 2 rfl ?_
          exact k_iret C hr hlk (prf hf) (prs hf) dX3_splitInTwo_73
      · refine k_icmp_ge_f C dX3_splitInTwo_34 (tgt := 64) (by decide) c4 ?_
        refine k_aload_n C dX3_splitInTwo_37 0 rfl ?_
        refine k_iload C dX3_splitInTwo_38 4 rfl ?_
        refine k_iload_n C dX3_splitInTwo_40 3 rfl ?_
        obtain ⟨t6, ht6, hf⟩ := bnd hf
        refine k_callVi C (As := [.int v4, .int v3]) (c_X3_sumSplit hap v4 v3 M t6 ht6) ML_X3_sumSplit wd_889 shC_28 rfl rfl rfl ⟨Nat.le_of_ble_eq_true rfl, Nat.le_of_ble_eq_true rfl⟩ (Nat.le_of_ble_eq_true rfl) dX3_splitInTwo_41 ?_
        refine k_istore C dX3_splitInTwo_44 (by decide) [1, 2, 3, 4, 5, 0] (lv' := [(0, .ref (G.2.1 28)), (1, .int v1), (2, .int v2), (3, .int v3), (4, .int v4), (5, .int t6)]) rfl ?_
        refine k_iload C dX3_splitInTwo_46 5 rfl ?_
        refine k_iload_n C dX3_splitInTwo_48 3 rfl ?_
        rcases ite_g hf with ⟨c7, hf⟩ | ⟨c7, hf⟩
        · refine k_icmp_ge_t C dX3_splitInTwo_49 (tgt := 58) (by decide) c7 ?_
          refine k_iinc C dX3_splitInTwo_58 4 rfl (v := (v4 + (1 : Int32))) rfl (by decide) [1, 2, 3, 4, 0] (lv' := [(0, .ref (G.2.1 28)), (1, .int v1), (2, .int v2), (3, .int v3), (4, .int (v4 + (1 : Int32)))]) rfl ?_
          refine k_goto C dX3_splitInTwo_61 (tgt := 17) (by decide) ?_
          exact ih17 v1 v2 v3 (v4 + (1 : Int32)) M hf
        · refine k_icmp_ge_f C dX3_splitInTwo_49 (tgt := 58) (by decide) c7 ?_
          refine k_iload C dX3_splitInTwo_52 5 rfl ?_
          refine k_istore_n C dX3_splitInTwo_54 (by decide) [1, 2, 0, 4] (lv' := [(0, .ref (G.2.1 28)), (1, .int v1), (3, .int t6), (4, .int v4)]) rfl ?_
          refine k_iload C dX3_splitInTwo_55 3 rfl ?_
          refine k_istore_n C dX3_splitInTwo_57 (by decide) [1, 2, 0, 3, 4] (lv' := [(0, .ref (G.2.1 28)), (1, .int v1), (2, .int v4), (3, .int t6), (4, .int v4)]) rfl ?_
          refine k_iinc C dX3_splitInTwo_58 4 rfl (v := (v4 + (1 : Int32))) rfl (by decide) [1, 2, 3, 4, 0] (lv' := [(0, .ref (G.2.1 28)), (1, .int v1), (2, .int v4), (3, .int t6), (4, .int (v4 + (1 : Int32)))]) rfl ?_
          refine k_goto C dX3_splitInTwo_61 (tgt := 17) (by decide) ?_
          exact ih17 v1 v4 t6 (v4 + (1 : Int32)) M hf
  unfold f_X3_splitInTwo at hf
  refine k_lv (lv' := [(0, .ref (G.2.1 28)), (1, .int v1)]) [0, 1] rfl ?_
  refine k_aload_n C dX3_splitInTwo_0 0 rfl ?_
  obtain ⟨M1, hM1, hf⟩ := bnd hf
  refine k_callVv C (As := []) (c_X3_readAhead hap M0 M1 hM1) ML_X3_readAhead wd_879 shC_28 rfl rfl rfl ⟨Nat.le_of_ble_eq_true rfl, Nat.le_of_ble_eq_true rfl⟩ (Nat.le_of_ble_eq_true rfl) dX3_splitInTwo_1 ?_
  refine k_iconst C dX3_splitInTwo_4 (v := (0 : Int32)) rfl ?_
  refine k_istore_n C dX3_splitInTwo_5 (by decide) [1, 2, 0] (lv' := [(0, .ref (G.2.1 28)), (1, .int v1), (2, .int (0 : Int32))]) rfl ?_
  refine k_aload_n C dX3_splitInTwo_6 0 rfl ?_
  refine k_getr C shC_28 (j := 1) rfl FL_X3_25 dX3_splitInTwo_7 ?_
  obtain ⟨⟨t2, M2⟩, ht2, hf⟩ := bnd hf
  replace hf := bp_s hf
  refine k_callVi C (As := []) (c_X8_walkLog hap M1 (t2, M2) ht2) ML_X8_walkLog wd_887 shC_25 rfl rfl rfl ⟨Nat.le_of_ble_eq_true rfl, Nat.le_of_ble_eq_true rfl⟩ (Nat.le_of_ble_eq_true rfl) dX3_splitInTwo_10 ?_
  refine k_istore_n C dX3_splitInTwo_13 (by decide) [1, 2, 3, 0] (lv' := [(0, .ref (G.2.1 28)), (1, .int v1), (2, .int (0 : Int32)), (3, .int t2)]) rfl ?_
  refine k_iconst C dX3_splitInTwo_14 (v := (1 : Int32)) rfl ?_
  refine k_istore C dX3_splitInTwo_15 (by decide) [1, 2, 3, 4, 0] (lv' := [(0, .ref (G.2.1 28)), (1, .int v1), (2, .int (0 : Int32)), (3, .int t2), (4, .int (1 : Int32))]) rfl ?_
  exact k_b17 FU v1 (0 : Int32) t2 (1 : Int32) M2 hf
theorem dX3_pureFrom_0 : decode cX3_pureFrom 0 = .ok (.iload_n 1, 1) := by decide +kernel
theorem dX3_pureFrom_1 : decode cX3_pureFrom 1 = .ok (.istore_n 2, 1) := by decide +kernel
theorem dX3_pureFrom_2 : decode cX3_pureFrom 2 = .ok (.iload_n 2, 1) := by decide +kernel
theorem dX3_pureFrom_3 : decode cX3_pureFrom 3 = .ok (.aload_n 0, 1) := by decide +kernel
theorem dX3_pureFrom_4 : decode cX3_pureFrom 4 = .ok (.getfield 21, 3) := by decide +kernel
theorem dX3_pureFrom_7 : decode cX3_pureFrom 7 = .ok (.getfield 34, 3) := by decide +kernel
theorem dX3_pureFrom_10 : decode cX3_pureFrom 10 = .ok (.if_icmp .ge 35, 3) := by decide +kernel
theorem dX3_pureFrom_13 : decode cX3_pureFrom 13 = .ok (.iload_n 1, 1) := by decide +kernel
theorem dX3_pureFrom_14 : decode cX3_pureFrom 14 = .ok (.istore_n 3, 1) := by decide +kernel
theorem dX3_pureFrom_15 : decode cX3_pureFrom 15 = .ok (.iload_n 3, 1) := by decide +kernel
theorem dX3_pureFrom_16 : decode cX3_pureFrom 16 = .ok (.iload_n 2, 1) := by decide +kernel
theorem dX3_pureFrom_17 : decode cX3_pureFrom 17 = .ok (.if_icmp .ge 22, 3) := by decide +kernel
theorem dX3_pureFrom_20 : decode cX3_pureFrom 20 = .ok (.aload_n 0, 1) := by decide +kernel
theorem dX3_pureFrom_21 : decode cX3_pureFrom 21 = .ok (.iload_n 3, 1) := by decide +kernel
theorem dX3_pureFrom_22 : decode cX3_pureFrom 22 = .ok (.iload_n 2, 1) := by decide +kernel
theorem dX3_pureFrom_23 : decode cX3_pureFrom 23 = .ok (.invokevirtual 99, 3) := by decide +kernel
theorem dX3_pureFrom_26 : decode cX3_pureFrom 26 = .ok (.ifCond .eq 7, 3) := by decide +kernel
theorem dX3_pureFrom_29 : decode cX3_pureFrom 29 = .ok (.iload_n 2, 1) := by decide +kernel
theorem dX3_pureFrom_30 : decode cX3_pureFrom 30 = .ok (.iload_n 1, 1) := by decide +kernel
theorem dX3_pureFrom_31 : decode cX3_pureFrom 31 = .ok (.isub, 1) := by decide +kernel
theorem dX3_pureFrom_32 : decode cX3_pureFrom 32 = .ok (.ireturn, 1) := by decide +kernel
theorem dX3_pureFrom_33 : decode cX3_pureFrom 33 = .ok (.iinc 3 1, 3) := by decide +kernel
theorem dX3_pureFrom_36 : decode cX3_pureFrom 36 = .ok (.goto (-21), 3) := by decide +kernel
theorem dX3_pureFrom_39 : decode cX3_pureFrom 39 = .ok (.iinc 2 1, 3) := by decide +kernel
theorem dX3_pureFrom_42 : decode cX3_pureFrom 42 = .ok (.goto (-40), 3) := by decide +kernel
theorem dX3_pureFrom_45 : decode cX3_pureFrom 45 = .ok (.aload_n 0, 1) := by decide +kernel
theorem dX3_pureFrom_46 : decode cX3_pureFrom 46 = .ok (.getfield 21, 3) := by decide +kernel
theorem dX3_pureFrom_49 : decode cX3_pureFrom 49 = .ok (.getfield 34, 3) := by decide +kernel
theorem dX3_pureFrom_52 : decode cX3_pureFrom 52 = .ok (.iload_n 1, 1) := by decide +kernel
theorem dX3_pureFrom_53 : decode cX3_pureFrom 53 = .ok (.isub, 1) := by decide +kernel
theorem dX3_pureFrom_54 : decode cX3_pureFrom 54 = .ok (.ireturn, 1) := by decide +kernel
set_option maxRecDepth 100000 in
set_option maxHeartbeats 4000000 in
theorem c_X3_pureFrom {l : Launch} {G : Gx} (hap : k_ap G shC.length) (v1 : Int32) (M0 : Mem) (r : Int32) (hf : f_X3_pureFrom v1 M0 = some r) : k_Met l yX3_pureFrom cX3_pureFrom 4 (some .int) 1 22 G shC [.ref (G.2.1 28), .int v1] M0 (k_Qi G shC r M0) := by
  refine k_Met_of (by decide) hap (Nat.le_of_ble_eq_true rfl) ?_
  intro p e s m args below meth c C hr hlk
  have C : Cx p s m args c cX3_pureFrom RX3 4 G shC := C
  have k_b2 : ∀ (n2 : Nat) (v1 : Int32) (v2 : Int32), f_X3_pureFrom_b2 M0 n2 v1 v2 = some r → K p l e (k_rm 1 22) s m args below meth c 4 G shC (MQ below (k_Qi G shC r M0) args s 0 0 (k_A G shC.length)) 2 [(0, .ref (G.2.1 28)), (1, .int v1), (2, .int v2)] [] M0 := by
    intro n2
    induction n2 with
    | zero => intro v1 v2 hf; simp [f_X3_pureFrom_b2] at hf
    | succ n2 ih2 =>
      have k_b15 : ∀ (n15 : Nat) (v1 : Int32) (v2 : Int32) (v3 : Int32), f_X3_pureFrom_b15 M0 (f_X3_pureFrom_b2 M0 n2) n15 v1 v2 v3 = some r → K p l e (k_rm 1 22) s m args below meth c 4 G shC (MQ below (k_Qi G shC r M0) args s 0 0 (k_A G shC.length)) 15 [(0, .ref (G.2.1 28)), (1, .int v1), (2, .int v2), (3, .int v3)] [] M0 := by
        intro n15
        induction n15 with
        | zero => intro v1 v2 v3 hf; simp [f_X3_pureFrom_b15] at hf
        | succ n15 ih15 =>
          intro v1 v2 v3 hf
          unfold f_X3_pureFrom_b15 at hf
          refine k_iload_n C dX3_pureFrom_15 3 rfl ?_
          refine k_iload_n C dX3_pureFrom_16 2 rfl ?_
          rcases ite_g hf with ⟨c2, hf⟩ | ⟨c2, hf⟩
          · refine k_icmp_ge_t C dX3_pureFrom_17 (tgt := 39) (by decide) c2 ?_
            refine k_iinc C dX3_pureFrom_39 2 rfl (v := (v2 + (1 : Int32))) rfl (by decide) [1, 2, 0] (lv' := [(0, .ref (G.2.1 28)), (1, .int v1), (2, .int (v2 + (1 : Int32)))]) rfl ?_
            refine k_goto C dX3_pureFrom_42 (tgt := 2) (by decide) ?_
            exact ih2 v1 (v2 + (1 : Int32)) hf
          · refine k_icmp_ge_f C dX3_pureFrom_17 (tgt := 39) (by decide) c2 ?_
            refine k_aload_n C dX3_pureFrom_20 0 rfl ?_
            refine k_iload_n C dX3_pureFrom_21 3 rfl ?_
            refine k_iload_n C dX3_pureFrom_22 2 rfl ?_
            obtain ⟨t3, ht3, hf⟩ := bnd hf
            refine k_callVi C (As := [.int v3, .int v2]) (c_X3_areAlikePlaces hap v3 v2 M0 t3 ht3) ML_X3_areAlikePlaces wd_883 shC_28 rfl rfl rfl ⟨Nat.le_of_ble_eq_true rfl, Nat.le_of_ble_eq_true rfl⟩ (Nat.le_of_ble_eq_true rfl) dX3_pureFrom_23 ?_
            rcases ite_g hf with ⟨c4, hf⟩ | ⟨c4, hf⟩
            · refine k_if_eq_t C dX3_pureFrom_26 (tgt := 33) (by decide) c4 ?_
              refine k_iinc C dX3_pureFrom_33 3 rfl (v := (v3 + (1 : Int32))) rfl (by decide) [1, 2, 3, 0] (lv' := [(0, .ref (G.2.1 28)), (1, .int v1), (2, .int v2), (3, .int (v3 + (1 : Int32)))]) rfl ?_
              refine k_goto C dX3_pureFrom_36 (tgt := 15) (by decide) ?_
              exact ih15 v1 v2 (v3 + (1 : Int32)) hf
            · refine k_if_eq_f C dX3_pureFrom_26 (tgt := 33) (by decide) c4 ?_
              refine k_iload_n C dX3_pureFrom_29 2 rfl ?_
              refine k_iload_n C dX3_pureFrom_30 1 rfl ?_
              refine k_isub C dX3_pureFrom_31 ?_
              exact k_iret C hr hlk (Option.some.inj hf) rfl dX3_pureFrom_32
      intro v1 v2 hf
      unfold f_X3_pureFrom_b2 at hf
      refine k_iload_n C dX3_pureFrom_2 2 rfl ?_
      refine k_aload_n C dX3_pureFrom_3 0 rfl ?_
      refine k_getr C shC_28 (j := 0) rfl FL_X3_21 dX3_pureFrom_4 ?_
      refine k_geti C shC_1 (j := 5) rfl FL_X3_34 dX3_pureFrom_7 ?_
      rcases ite_g hf with ⟨c1, hf⟩ | ⟨c1, hf⟩
      · refine k_icmp_ge_t C dX3_pureFrom_10 (tgt := 45) (by decide) c1 ?_
        refine k_aload_n C dX3_pureFrom_45 0 rfl ?_
        refine k_getr C shC_28 (j := 0) rfl FL_X3_21 dX3_pureFrom_46 ?_
        refine k_geti C shC_1 (j := 5) rfl FL_X3_34 dX3_pureFrom_49 ?_
        refine k_iload_n C dX3_pureFrom_52 1 rfl ?_
        refine k_isub C dX3_pureFrom_53 ?_
        exact k_iret C hr hlk (Option.some.inj hf) rfl dX3_pureFrom_54
      · refine k_icmp_ge_f C dX3_pureFrom_10 (tgt := 45) (by decide) c1 ?_
        refine k_iload_n C dX3_pureFrom_13 1 rfl ?_
        refine k_istore_n C dX3_pureFrom_14 (by decide) [1, 2, 3, 0] (lv' := [(0, .ref (G.2.1 28)), (1, .int v1), (2, .int v2), (3, .int v1)]) rfl ?_
        exact k_b15 FU v1 v2 v1 hf
  unfold f_X3_pureFrom at hf
  refine k_lv (lv' := [(0, .ref (G.2.1 28)), (1, .int v1)]) [0, 1] rfl ?_
  refine k_iload_n C dX3_pureFrom_0 1 rfl ?_
  refine k_istore_n C dX3_pureFrom_1 (by decide) [1, 2, 0] (lv' := [(0, .ref (G.2.1 28)), (1, .int v1), (2, .int v1)]) rfl ?_
  exact k_b2 FU v1 v1 hf
theorem dX3_longestPure_0 : decode cX3_longestPure 0 = .ok (.aload_n 0, 1) := by decide +kernel
theorem dX3_longestPure_1 : decode cX3_longestPure 1 = .ok (.getfield 25, 3) := by decide +kernel
theorem dX3_longestPure_4 : decode cX3_longestPure 4 = .ok (.invokevirtual 29, 3) := by decide +kernel
theorem dX3_longestPure_7 : decode cX3_longestPure 7 = .ok (.iconst 0, 1) := by decide +kernel
theorem dX3_longestPure_8 : decode cX3_longestPure 8 = .ok (.istore_n 2, 1) := by decide +kernel
theorem dX3_longestPure_9 : decode cX3_longestPure 9 = .ok (.bipush (-9), 2) := by decide +kernel
theorem dX3_longestPure_11 : decode cX3_longestPure 11 = .ok (.istore_n 3, 1) := by decide +kernel
theorem dX3_longestPure_12 : decode cX3_longestPure 12 = .ok (.iconst 0, 1) := by decide +kernel
theorem dX3_longestPure_13 : decode cX3_longestPure 13 = .ok (.istore 4, 2) := by decide +kernel
theorem dX3_longestPure_15 : decode cX3_longestPure 15 = .ok (.iload 4, 2) := by decide +kernel
theorem dX3_longestPure_17 : decode cX3_longestPure 17 = .ok (.aload_n 0, 1) := by decide +kernel
theorem dX3_longestPure_18 : decode cX3_longestPure 18 = .ok (.getfield 21, 3) := by decide +kernel
theorem dX3_longestPure_21 : decode cX3_longestPure 21 = .ok (.getfield 34, 3) := by decide +kernel
theorem dX3_longestPure_24 : decode cX3_longestPure 24 = .ok (.if_icmp .ge 29, 3) := by decide +kernel
theorem dX3_longestPure_27 : decode cX3_longestPure 27 = .ok (.aload_n 0, 1) := by decide +kernel
theorem dX3_longestPure_28 : decode cX3_longestPure 28 = .ok (.iload 4, 2) := by decide +kernel
theorem dX3_longestPure_30 : decode cX3_longestPure 30 = .ok (.invokevirtual 114, 3) := by decide +kernel
theorem dX3_longestPure_33 : decode cX3_longestPure 33 = .ok (.istore 5, 2) := by decide +kernel
theorem dX3_longestPure_35 : decode cX3_longestPure 35 = .ok (.iload 5, 2) := by decide +kernel
theorem dX3_longestPure_37 : decode cX3_longestPure 37 = .ok (.iload_n 2, 1) := by decide +kernel
theorem dX3_longestPure_38 : decode cX3_longestPure 38 = .ok (.if_icmp .le 9, 3) := by decide +kernel
theorem dX3_longestPure_41 : decode cX3_longestPure 41 = .ok (.iload 5, 2) := by decide +kernel
theorem dX3_longestPure_43 : decode cX3_longestPure 43 = .ok (.istore_n 2, 1) := by decide +kernel
theorem dX3_longestPure_44 : decode cX3_longestPure 44 = .ok (.iload 4, 2) := by decide +kernel
theorem dX3_longestPure_46 : decode cX3_longestPure 46 = .ok (.istore_n 3, 1) := by decide +kernel
theorem dX3_longestPure_47 : decode cX3_longestPure 47 = .ok (.iinc 4 1, 3) := by decide +kernel
theorem dX3_longestPure_50 : decode cX3_longestPure 50 = .ok (.goto (-35), 3) := by decide +kernel
theorem dX3_longestPure_53 : decode cX3_longestPure 53 = .ok (.iload_n 1, 1) := by decide +kernel
theorem dX3_longestPure_54 : decode cX3_longestPure 54 = .ok (.ifCond .ne 7, 3) := by decide +kernel
theorem dX3_longestPure_57 : decode cX3_longestPure 57 = .ok (.iload_n 2, 1) := by decide +kernel
theorem dX3_longestPure_58 : decode cX3_longestPure 58 = .ok (.goto 4, 3) := by decide +kernel
theorem dX3_longestPure_61 : decode cX3_longestPure 61 = .ok (.iload_n 3, 1) := by decide +kernel
theorem dX3_longestPure_62 : decode cX3_longestPure 62 = .ok (.ireturn, 1) := by decide +kernel
set_option maxRecDepth 100000 in
set_option maxHeartbeats 4000000 in
theorem c_X3_longestPure {l : Launch} {G : Gx} (hap : k_ap G shC.length) (v1 : Int32) (M0 : Mem) (r : Int32 × Mem) (hf : f_X3_longestPure v1 M0 = some r) : k_Met l yX3_longestPure cX3_longestPure 6 (some .int) 4 88 G shC [.ref (G.2.1 28), .int v1] M0 (k_Qi G shC r.1 r.2) := by
  refine k_Met_of (by decide) hap (Nat.le_of_ble_eq_true rfl) ?_
  intro p e s m args below meth c C hr hlk
  have C : Cx p s m args c cX3_longestPure RX3 6 G shC := C
  have k_b15 : ∀ (n15 : Nat) (v1 : Int32) (v2 : Int32) (v3 : Int32) (v4 : Int32) (M : Mem), f_X3_longestPure_b15 n15 v1 v2 v3 v4 M = some r → K p l e (k_rm 4 88) s m args below meth c 6 G shC (MQ below (k_Qi G shC r.1 r.2) args s 0 0 (k_A G shC.length)) 15 [(0, .ref (G.2.1 28)), (1, .int v1), (2, .int v2), (3, .int v3), (4, .int v4)] [] M := by
    intro n15
    induction n15 with
    | zero => intro v1 v2 v3 v4 M hf; simp [f_X3_longestPure_b15] at hf
    | succ n15 ih15 =>
      intro v1 v2 v3 v4 M hf
      unfold f_X3_longestPure_b15 at hf
      refine k_iload C dX3_longestPure_15 4 rfl ?_
      refine k_aload_n C dX3_longestPure_17 0 rfl ?_
      refine k_getr C shC_28 (j := 0) rfl FL_X3_21 dX3_longestPure_18 ?_
      refine k_geti C shC_1 (j := 5) rfl FL_X3_34 dX3_longestPure_21 ?_
      rcases ite_g hf with ⟨c3, hf⟩ | ⟨c3, hf⟩
      · refine k_icmp_ge_t C dX3_longestPure_24 (tgt := 53) (by decide) c3 ?_
        refine k_iload_n C dX3_longestPure_53 1 rfl ?_
        rcases ite_g hf with ⟨c4, hf⟩ | ⟨c4, hf⟩
        · refine k_if_ne_f C dX3_longestPure_54 (tgt := 61) (by decide) c4 ?_
          refine k_iload_n C dX3_longestPure_57 2 rfl ?_
          refine k_goto C dX3_longestPure_58 (tgt := 62) (by decide) ?_
          exact k_iret C hr hlk (prf hf) (prs hf) dX3_longestPure_62
        · refine k_if_ne_t C dX3_longestPure_54 (tgt := 61) (by decide) c4 ?_
          refine k_iload_n C dX3_longestPure_61 3 rfl ?_
          exact k_iret C hr hlk (prf hf) (prs hf) dX3_longestPure_62
      · refine k_icmp_ge_f C dX3_longestPure_24 (tgt := 53) (by decide) c3 ?_
        refine k_aload_n C dX3_longestPure_27 0 rfl ?_
        refine k_iload C dX3_longestPure_28 4 rfl ?_
        obtain ⟨t5, ht5, hf⟩ := bnd hf
        refine k_callVi C (As := [.int v4]) (c_X3_pureFrom hap v4 M t5 ht5) ML_X3_pureFrom wd_1056 shC_28 rfl rfl rfl ⟨Nat.le_of_ble_eq_true rfl, Nat.le_of_ble_eq_true rfl⟩ (Nat.le_of_ble_eq_true rfl) dX3_longestPure_30 ?_
        refine k_istore C dX3_longestPure_33 (by decide) [1, 2, 3, 4, 5, 0] (lv' := [(0, .ref (G.2.1 28)), (1, .int v1), (2, .int v2), (3, .int v3), (4, .int v4), (5, .int t5)]) rfl ?_
        refine k_iload C dX3_longestPure_35 5 rfl ?_
        refine k_iload_n C dX3_longestPure_37 2 rfl ?_
        rcases ite_g hf with ⟨c6, hf⟩ | ⟨c6, hf⟩
        · refine k_icmp_le_t C dX3_longestPure_38 (tgt := 47) (by decide) c6 ?_
          refine k_iinc C dX3_longestPure_47 4 rfl (v := (v4 + (1 : Int32))) rfl (by decide) [1, 2, 3, 4, 0] (lv' := [(0, .ref (G.2.1 28)), (1, .int v1), (2, .int v2), (3, .int v3), (4, .int (v4 + (1 : Int32)))]) rfl ?_
          refine k_goto C dX3_longestPure_50 (tgt := 15) (by decide) ?_
          exact ih15 v1 v2 v3 (v4 + (1 : Int32)) M hf
        · refine k_icmp_le_f C dX3_longestPure_38 (tgt := 47) (by decide) c6 ?_
          refine k_iload C dX3_longestPure_41 5 rfl ?_
          refine k_istore_n C dX3_longestPure_43 (by decide) [1, 2, 0, 4] (lv' := [(0, .ref (G.2.1 28)), (1, .int v1), (2, .int t5), (4, .int v4)]) rfl ?_
          refine k_iload C dX3_longestPure_44 3 rfl ?_
          refine k_istore_n C dX3_longestPure_46 (by decide) [1, 2, 3, 0, 4] (lv' := [(0, .ref (G.2.1 28)), (1, .int v1), (2, .int t5), (3, .int v4), (4, .int v4)]) rfl ?_
          refine k_iinc C dX3_longestPure_47 4 rfl (v := (v4 + (1 : Int32))) rfl (by decide) [1, 2, 3, 4, 0] (lv' := [(0, .ref (G.2.1 28)), (1, .int v1), (2, .int t5), (3, .int v4), (4, .int (v4 + (1 : Int32)))]) rfl ?_
          refine k_goto C dX3_longestPure_50 (tgt := 15) (by decide) ?_
          exact ih15 v1 t5 v4 (v4 + (1 : Int32)) M hf
  unfold f_X3_longestPure at hf
  refine k_lv (lv' := [(0, .ref (G.2.1 28)), (1, .int v1)]) [0, 1] rfl ?_
  refine k_aload_n C dX3_longestPure_0 0 rfl ?_
  refine k_getr C shC_28 (j := 1) rfl FL_X3_25 dX3_longestPure_1 ?_
  obtain ⟨M1, hM1, hf⟩ := bnd hf
  refine k_callVv C (As := []) (c_X8_open hap M0 M1 hM1) ML_X8_open wd_674 shC_25 rfl rfl rfl ⟨Nat.le_of_ble_eq_true rfl, Nat.le_of_ble_eq_true rfl⟩ (Nat.le_of_ble_eq_true rfl) dX3_longestPure_4 ?_
  refine k_iconst C dX3_longestPure_7 (v := (0 : Int32)) rfl ?_
  refine k_istore_n C dX3_longestPure_8 (by decide) [1, 2, 0] (lv' := [(0, .ref (G.2.1 28)), (1, .int v1), (2, .int (0 : Int32))]) rfl ?_
  refine k_bipush C dX3_longestPure_9 (v := (-9 : Int32)) rfl ?_
  refine k_istore_n C dX3_longestPure_11 (by decide) [1, 2, 3, 0] (lv' := [(0, .ref (G.2.1 28)), (1, .int v1), (2, .int (0 : Int32)), (3, .int (-9 : Int32))]) rfl ?_
  refine k_iconst C dX3_longestPure_12 (v := (0 : Int32)) rfl ?_
  refine k_istore C dX3_longestPure_13 (by decide) [1, 2, 3, 4, 0] (lv' := [(0, .ref (G.2.1 28)), (1, .int v1), (2, .int (0 : Int32)), (3, .int (-9 : Int32)), (4, .int (0 : Int32))]) rfl ?_
  exact k_b15 FU v1 (0 : Int32) (-9 : Int32) (0 : Int32) M1 hf
theorem dX3_longestStreak_0 : decode cX3_longestStreak 0 = .ok (.aload_n 0, 1) := by decide +kernel
theorem dX3_longestStreak_1 : decode cX3_longestStreak 1 = .ok (.getfield 25, 3) := by decide +kernel
theorem dX3_longestStreak_4 : decode cX3_longestStreak 4 = .ok (.invokevirtual 29, 3) := by decide +kernel
theorem dX3_longestStreak_7 : decode cX3_longestStreak 7 = .ok (.iconst 0, 1) := by decide +kernel
theorem dX3_longestStreak_8 : decode cX3_longestStreak 8 = .ok (.istore_n 1, 1) := by decide +kernel
theorem dX3_longestStreak_9 : decode cX3_longestStreak 9 = .ok (.iconst 0, 1) := by decide +kernel
theorem dX3_longestStreak_10 : decode cX3_longestStreak 10 = .ok (.istore_n 2, 1) := by decide +kernel
theorem dX3_longestStreak_11 : decode cX3_longestStreak 11 = .ok (.iconst 0, 1) := by decide +kernel
theorem dX3_longestStreak_12 : decode cX3_longestStreak 12 = .ok (.istore_n 3, 1) := by decide +kernel
theorem dX3_longestStreak_13 : decode cX3_longestStreak 13 = .ok (.iload_n 3, 1) := by decide +kernel
theorem dX3_longestStreak_14 : decode cX3_longestStreak 14 = .ok (.aload_n 0, 1) := by decide +kernel
theorem dX3_longestStreak_15 : decode cX3_longestStreak 15 = .ok (.getfield 21, 3) := by decide +kernel
theorem dX3_longestStreak_18 : decode cX3_longestStreak 18 = .ok (.getfield 34, 3) := by decide +kernel
theorem dX3_longestStreak_21 : decode cX3_longestStreak 21 = .ok (.if_icmp .ge 50, 3) := by decide +kernel
theorem dX3_longestStreak_24 : decode cX3_longestStreak 24 = .ok (.iload_n 3, 1) := by decide +kernel
theorem dX3_longestStreak_25 : decode cX3_longestStreak 25 = .ok (.ifCond .le 18, 3) := by decide +kernel
theorem dX3_longestStreak_28 : decode cX3_longestStreak 28 = .ok (.aload_n 0, 1) := by decide +kernel
theorem dX3_longestStreak_29 : decode cX3_longestStreak 29 = .ok (.iload_n 3, 1) := by decide +kernel
theorem dX3_longestStreak_30 : decode cX3_longestStreak 30 = .ok (.iconst 1, 1) := by decide +kernel
theorem dX3_longestStreak_31 : decode cX3_longestStreak 31 = .ok (.isub, 1) := by decide +kernel
theorem dX3_longestStreak_32 : decode cX3_longestStreak 32 = .ok (.iload_n 3, 1) := by decide +kernel
theorem dX3_longestStreak_33 : decode cX3_longestStreak 33 = .ok (.invokevirtual 99, 3) := by decide +kernel
theorem dX3_longestStreak_36 : decode cX3_longestStreak 36 = .ok (.ifCond .eq 7, 3) := by decide +kernel
theorem dX3_longestStreak_39 : decode cX3_longestStreak 39 = .ok (.iconst 1, 1) := by decide +kernel
theorem dX3_longestStreak_40 : decode cX3_longestStreak 40 = .ok (.goto 4, 3) := by decide +kernel
theorem dX3_longestStreak_43 : decode cX3_longestStreak 43 = .ok (.iconst 0, 1) := by decide +kernel
theorem dX3_longestStreak_44 : decode cX3_longestStreak 44 = .ok (.istore 4, 2) := by decide +kernel
theorem dX3_longestStreak_46 : decode cX3_longestStreak 46 = .ok (.iload 4, 2) := by decide +kernel
theorem dX3_longestStreak_48 : decode cX3_longestStreak 48 = .ok (.ifCond .eq 9, 3) := by decide +kernel
theorem dX3_longestStreak_51 : decode cX3_longestStreak 51 = .ok (.iload_n 2, 1) := by decide +kernel
theorem dX3_longestStreak_52 : decode cX3_longestStreak 52 = .ok (.iconst 1, 1) := by decide +kernel
theorem dX3_longestStreak_53 : decode cX3_longestStreak 53 = .ok (.iadd, 1) := by decide +kernel
theorem dX3_longestStreak_54 : decode cX3_longestStreak 54 = .ok (.goto 4, 3) := by decide +kernel
theorem dX3_longestStreak_57 : decode cX3_longestStreak 57 = .ok (.iconst 1, 1) := by decide +kernel
theorem dX3_longestStreak_58 : decode cX3_longestStreak 58 = .ok (.istore_n 2, 1) := by decide +kernel
theorem dX3_longestStreak_59 : decode cX3_longestStreak 59 = .ok (.iload_n 1, 1) := by decide +kernel
theorem dX3_longestStreak_60 : decode cX3_longestStreak 60 = .ok (.iload_n 2, 1) := by decide +kernel
theorem dX3_longestStreak_61 : decode cX3_longestStreak 61 = .ok (.invokestatic 91, 3) := by decide +kernel
theorem dX3_longestStreak_64 : decode cX3_longestStreak 64 = .ok (.istore_n 1, 1) := by decide +kernel
theorem dX3_longestStreak_65 : decode cX3_longestStreak 65 = .ok (.iinc 3 1, 3) := by decide +kernel
theorem dX3_longestStreak_68 : decode cX3_longestStreak 68 = .ok (.goto (-55), 3) := by decide +kernel
theorem dX3_longestStreak_71 : decode cX3_longestStreak 71 = .ok (.iload_n 1, 1) := by decide +kernel
theorem dX3_longestStreak_72 : decode cX3_longestStreak 72 = .ok (.ireturn, 1) := by decide +kernel
set_option maxRecDepth 100000 in
set_option maxHeartbeats 4000000 in
theorem c_X3_longestStreak {l : Launch} {G : Gx} (hap : k_ap G shC.length) (M0 : Mem) (r : Int32 × Mem) (hf : f_X3_longestStreak M0 = some r) : k_Met l yX3_longestStreak cX3_longestStreak 5 (some .int) 4 88 G shC [.ref (G.2.1 28)] M0 (k_Qi G shC r.1 r.2) := by
  refine k_Met_of (by decide) hap (Nat.le_of_ble_eq_true rfl) ?_
  intro p e s m args below meth c C hr hlk
  have C : Cx p s m args c cX3_longestStreak RX3 5 G shC := C
  have k_b13 : ∀ (n13 : Nat) (v1 : Int32) (v2 : Int32) (v3 : Int32) (M : Mem), f_X3_longestStreak_b13 n13 v1 v2 v3 M = some r → K p l e (k_rm 4 88) s m args below meth c 5 G shC (MQ below (k_Qi G shC r.1 r.2) args s 0 0 (k_A G shC.length)) 13 [(0, .ref (G.2.1 28)), (1, .int v1), (2, .int v2), (3, .int v3)] [] M := by
    intro n13
    induction n13 with
    | zero => intro v1 v2 v3 M hf; simp [f_X3_longestStreak_b13] at hf
    | succ n13 ih13 =>
      have k_b44 : ∀ (v1 : Int32) (v2 : Int32) (v3 : Int32) (s0 : Int32) (M : Mem), f_X3_longestStreak_b44 (f_X3_longestStreak_b13 n13) v1 v2 v3 s0 M = some r → K p l e (k_rm 4 88) s m args below meth c 5 G shC (MQ below (k_Qi G shC r.1 r.2) args s 0 0 (k_A G shC.length)) 44 [(0, .ref (G.2.1 28)), (1, .int v1), (2, .int v2), (3, .int v3)] [.int s0] M := by
        intro v1 v2 v3 s0 M hf
        unfold f_X3_longestStreak_b44 at hf
        refine k_istore C dX3_longestStreak_44 (by decide) [1, 2, 3, 4, 0] (lv' := [(0, .ref (G.2.1 28)), (1, .int v1), (2, .int v2), (3, .int v3), (4, .int s0)]) rfl ?_
        refine k_iload C dX3_longestStreak_46 4 rfl ?_
        have hj5 : K p l e (k_rm 4 88) s m args below meth c 5 G shC (MQ below (k_Qi G shC r.1 r.2) args s 0 0 (k_A G shC.length)) 58 [(0, .ref (G.2.1 28)), (1, .int v1), (2, .int v2), (3, .int v3), (4, .int s0)] [.int (if s0 = 0 then (1 : Int32) else (v2 + (1 : Int32)))] M := by
          refine k_istore_n C dX3_longestStreak_58 (by decide) [1, 2, 0, 3] (lv' := [(0, .ref (G.2.1 28)), (1, .int v1), (2, .int (if s0 = 0 then (1 : Int32) else (v2 + (1 : Int32)))), (3, .int v3)]) rfl ?_
          refine k_iload_n C dX3_longestStreak_59 1 rfl ?_
          refine k_iload_n C dX3_longestStreak_60 2 rfl ?_
          refine k_max C W_max wd_888 ⟨Nat.le_of_ble_eq_true rfl, Nat.le_of_ble_eq_true rfl⟩ dX3_longestStreak_61 ?_
          refine k_istore_n C dX3_longestStreak_64 (by decide) [1, 0, 2, 3] (lv' := [(0, .ref (G.2.1 28)), (1, .int (mxI v1 (if s0 = 0 then (1 : Int32) else (v2 + (1 : Int32))))), (2, .int (if s0 = 0 then (1 : Int32) else (v2 + (1 : Int32)))), (3, .int v3)]) rfl ?_
          refine k_iinc C dX3_longestStreak_65 3 rfl (v := (v3 + (1 : Int32))) rfl (by decide) [1, 2, 3, 0] (lv' := [(0, .ref (G.2.1 28)), (1, .int (mxI v1 (if s0 = 0 then (1 : Int32) else (v2 + (1 : Int32))))), (2, .int (if s0 = 0 then (1 : Int32) else (v2 + (1 : Int32)))), (3, .int (v3 + (1 : Int32)))]) rfl ?_
          refine k_goto C dX3_longestStreak_68 (tgt := 13) (by decide) ?_
          exact ih13 (mxI v1 (if s0 = 0 then (1 : Int32) else (v2 + (1 : Int32)))) (if s0 = 0 then (1 : Int32) else (v2 + (1 : Int32))) (v3 + (1 : Int32)) M hf
        by_cases c6 : s0 = 0
        · refine k_if_eq_t C dX3_longestStreak_48 (tgt := 57) (by decide) c6 ?_
          refine k_iconst C dX3_longestStreak_57 (v := (1 : Int32)) rfl ?_
          exact k_val (by rw [if_pos c6]) hj5
        · refine k_if_eq_f C dX3_longestStreak_48 (tgt := 57) (by decide) c6 ?_
          refine k_iload_n C dX3_longestStreak_51 2 rfl ?_
          refine k_iconst C dX3_longestStreak_52 (v := (1 : Int32)) rfl ?_
          refine k_iadd C dX3_longestStreak_53 ?_
          refine k_goto C dX3_longestStreak_54 (tgt := 58) (by decide) ?_
          exact k_val (by rw [if_neg c6]) hj5
      have k_b43 : ∀ (v1 : Int32) (v2 : Int32) (v3 : Int32) (M : Mem), f_X3_longestStreak_b43 (f_X3_longestStreak_b13 n13) v1 v2 v3 M = some r → K p l e (k_rm 4 88) s m args below meth c 5 G shC (MQ below (k_Qi G shC r.1 r.2) args s 0 0 (k_A G shC.length)) 43 [(0, .ref (G.2.1 28)), (1, .int v1), (2, .int v2), (3, .int v3)] [] M := by
        intro v1 v2 v3 M hf
        unfold f_X3_longestStreak_b43 at hf
        refine k_iconst C dX3_longestStreak_43 (v := (0 : Int32)) rfl ?_
        exact k_b44 v1 v2 v3 (0 : Int32) M hf
      intro v1 v2 v3 M hf
      unfold f_X3_longestStreak_b13 at hf
      refine k_iload_n C dX3_longestStreak_13 3 rfl ?_
      refine k_aload_n C dX3_longestStreak_14 0 rfl ?_
      refine k_getr C shC_28 (j := 0) rfl FL_X3_21 dX3_longestStreak_15 ?_
      refine k_geti C shC_1 (j := 5) rfl FL_X3_34 dX3_longestStreak_18 ?_
      rcases ite_g hf with ⟨c2, hf⟩ | ⟨c2, hf⟩
      · refine k_icmp_ge_t C dX3_longestStreak_21 (tgt := 71) (by decide) c2 ?_
        refine k_iload_n C dX3_longestStreak_71 1 rfl ?_
        exact k_iret C hr hlk (prf hf) (prs hf) dX3_longestStreak_72
      · refine k_icmp_ge_f C dX3_longestStreak_21 (tgt := 71) (by decide) c2 ?_
        refine k_iload_n C dX3_longestStreak_24 3 rfl ?_
        rcases ite_g hf with ⟨c4, hf⟩ | ⟨c4, hf⟩
        · refine k_if_le_t C dX3_longestStreak_25 (tgt := 43) (by decide) c4 ?_
          exact k_b43 v1 v2 v3 M hf
        · refine k_if_le_f C dX3_longestStreak_25 (tgt := 43) (by decide) c4 ?_
          refine k_aload_n C dX3_longestStreak_28 0 rfl ?_
          refine k_iload_n C dX3_longestStreak_29 3 rfl ?_
          refine k_iconst C dX3_longestStreak_30 (v := (1 : Int32)) rfl ?_
          refine k_isub C dX3_longestStreak_31 ?_
          refine k_iload_n C dX3_longestStreak_32 3 rfl ?_
          obtain ⟨t7, ht7, hf⟩ := bnd hf
          refine k_callVi C (As := [.int (v3 - (1 : Int32)), .int v3]) (c_X3_areAlikePlaces hap (v3 - (1 : Int32)) v3 M t7 ht7) ML_X3_areAlikePlaces wd_883 shC_28 rfl rfl rfl ⟨Nat.le_of_ble_eq_true rfl, Nat.le_of_ble_eq_true rfl⟩ (Nat.le_of_ble_eq_true rfl) dX3_longestStreak_33 ?_
          have hj8 : K p l e (k_rm 4 88) s m args below meth c 5 G shC (MQ below (k_Qi G shC r.1 r.2) args s 0 0 (k_A G shC.length)) 44 [(0, .ref (G.2.1 28)), (1, .int v1), (2, .int v2), (3, .int v3)] [.int (if t7 = 0 then (0 : Int32) else (1 : Int32))] M := by
            exact k_b44 v1 v2 v3 (if t7 = 0 then (0 : Int32) else (1 : Int32)) M hf
          by_cases c9 : t7 = 0
          · refine k_if_eq_t C dX3_longestStreak_36 (tgt := 43) (by decide) c9 ?_
            refine k_iconst C dX3_longestStreak_43 (v := (0 : Int32)) rfl ?_
            exact k_val (by rw [if_pos c9]) hj8
          · refine k_if_eq_f C dX3_longestStreak_36 (tgt := 43) (by decide) c9 ?_
            refine k_iconst C dX3_longestStreak_39 (v := (1 : Int32)) rfl ?_
            refine k_goto C dX3_longestStreak_40 (tgt := 44) (by decide) ?_
            exact k_val (by rw [if_neg c9]) hj8
  unfold f_X3_longestStreak at hf
  refine k_lv (lv' := [(0, .ref (G.2.1 28))]) [0] rfl ?_
  refine k_aload_n C dX3_longestStreak_0 0 rfl ?_
  refine k_getr C shC_28 (j := 1) rfl FL_X3_25 dX3_longestStreak_1 ?_
  obtain ⟨M1, hM1, hf⟩ := bnd hf
  refine k_callVv C (As := []) (c_X8_open hap M0 M1 hM1) ML_X8_open wd_674 shC_25 rfl rfl rfl ⟨Nat.le_of_ble_eq_true rfl, Nat.le_of_ble_eq_true rfl⟩ (Nat.le_of_ble_eq_true rfl) dX3_longestStreak_4 ?_
  refine k_iconst C dX3_longestStreak_7 (v := (0 : Int32)) rfl ?_
  refine k_istore_n C dX3_longestStreak_8 (by decide) [1, 0] (lv' := [(0, .ref (G.2.1 28)), (1, .int (0 : Int32))]) rfl ?_
  refine k_iconst C dX3_longestStreak_9 (v := (0 : Int32)) rfl ?_
  refine k_istore_n C dX3_longestStreak_10 (by decide) [1, 2, 0] (lv' := [(0, .ref (G.2.1 28)), (1, .int (0 : Int32)), (2, .int (0 : Int32))]) rfl ?_
  refine k_iconst C dX3_longestStreak_11 (v := (0 : Int32)) rfl ?_
  refine k_istore_n C dX3_longestStreak_12 (by decide) [1, 2, 3, 0] (lv' := [(0, .ref (G.2.1 28)), (1, .int (0 : Int32)), (2, .int (0 : Int32)), (3, .int (0 : Int32))]) rfl ?_
  exact k_b13 FU (0 : Int32) (0 : Int32) (0 : Int32) M1 hf
theorem dX8_dueNow_0 : decode cX8_dueNow 0 = .ok (.aload_n 0, 1) := by decide +kernel
theorem dX8_dueNow_1 : decode cX8_dueNow 1 = .ok (.getfield 18, 3) := by decide +kernel
theorem dX8_dueNow_4 : decode cX8_dueNow 4 = .ok (.iload_n 1, 1) := by decide +kernel
theorem dX8_dueNow_5 : decode cX8_dueNow 5 = .ok (.aload_n 0, 1) := by decide +kernel
theorem dX8_dueNow_6 : decode cX8_dueNow 6 = .ok (.getfield 15, 3) := by decide +kernel
theorem dX8_dueNow_9 : decode cX8_dueNow 9 = .ok (.iload_n 1, 1) := by decide +kernel
theorem dX8_dueNow_10 : decode cX8_dueNow 10 = .ok (.iaload, 1) := by decide +kernel
theorem dX8_dueNow_11 : decode cX8_dueNow 11 = .ok (.invokevirtual 58, 3) := by decide +kernel
theorem dX8_dueNow_14 : decode cX8_dueNow 14 = .ok (.ireturn, 1) := by decide +kernel
set_option maxRecDepth 100000 in
set_option maxHeartbeats 4000000 in
theorem c_X8_dueNow {l : Launch} {G : Gx} (hap : k_ap G shC.length) (v1 : Int32) (M0 : Mem) (r : Int32) (hf : f_X8_dueNow v1 M0 = some r) : k_Met l yX8_dueNow cX8_dueNow 2 (some .int) 1 23 G shC [.ref (G.2.1 25), .int v1] M0 (k_Qi G shC r M0) := by
  refine k_Met_of (by decide) hap (Nat.le_of_ble_eq_true rfl) ?_
  intro p e s m args below meth c C hr hlk
  have C : Cx p s m args c cX8_dueNow RX8 2 G shC := C
  unfold f_X8_dueNow at hf
  refine k_lv (lv' := [(0, .ref (G.2.1 25)), (1, .int v1)]) [0, 1] rfl ?_
  refine k_aload_n C dX8_dueNow_0 0 rfl ?_
  refine k_getr C shC_25 (j := 0) rfl FL_X8_18 dX8_dueNow_1 ?_
  refine k_iload_n C dX8_dueNow_4 1 rfl ?_
  refine k_aload_n C dX8_dueNow_5 0 rfl ?_
  refine k_getr C shC_25 (j := 2) rfl FL_X8_15 dX8_dueNow_6 ?_
  refine k_iload_n C dX8_dueNow_9 1 rfl ?_
  obtain ⟨t1, ht1, hf⟩ := bnd hf
  refine k_iald C shC_27 ht1 dX8_dueNow_10 ?_
  obtain ⟨t2, ht2, hf⟩ := bnd hf
  refine k_callVi C (As := [.int v1, .int t1]) (c_X0_dueFor hap 1 BD_1 v1 t1 M0 t2 ht2) ML_X0_dueFor wd_596 shC_1 rfl rfl rfl ⟨Nat.le_of_ble_eq_true rfl, Nat.le_of_ble_eq_true rfl⟩ (Nat.le_of_ble_eq_true rfl) dX8_dueNow_11 ?_
  exact k_iret C hr hlk (Option.some.inj hf) rfl dX8_dueNow_14
theorem dX4_luckyRows_0 : decode cX4_luckyRows 0 = .ok (.iload_n 2, 1) := by decide +kernel
theorem dX4_luckyRows_1 : decode cX4_luckyRows 1 = .ok (.ifCond .gt 5, 3) := by decide +kernel
theorem dX4_luckyRows_4 : decode cX4_luckyRows 4 = .ok (.iconst 1, 1) := by decide +kernel
theorem dX4_luckyRows_5 : decode cX4_luckyRows 5 = .ok (.ireturn, 1) := by decide +kernel
theorem dX4_luckyRows_6 : decode cX4_luckyRows 6 = .ok (.iconst 0, 1) := by decide +kernel
theorem dX4_luckyRows_7 : decode cX4_luckyRows 7 = .ok (.istore_n 3, 1) := by decide +kernel
theorem dX4_luckyRows_8 : decode cX4_luckyRows 8 = .ok (.iconst 0, 1) := by decide +kernel
theorem dX4_luckyRows_9 : decode cX4_luckyRows 9 = .ok (.istore 4, 2) := by decide +kernel
theorem dX4_luckyRows_11 : decode cX4_luckyRows 11 = .ok (.iload 4, 2) := by decide +kernel
theorem dX4_luckyRows_13 : decode cX4_luckyRows 13 = .ok (.aload_n 0, 1) := by decide +kernel
theorem dX4_luckyRows_14 : decode cX4_luckyRows 14 = .ok (.getfield 22, 3) := by decide +kernel
theorem dX4_luckyRows_17 : decode cX4_luckyRows 17 = .ok (.if_icmp .ge 54, 3) := by decide +kernel
theorem dX4_luckyRows_20 : decode cX4_luckyRows 20 = .ok (.aload_n 1, 1) := by decide +kernel
theorem dX4_luckyRows_21 : decode cX4_luckyRows 21 = .ok (.iload 4, 2) := by decide +kernel
theorem dX4_luckyRows_23 : decode cX4_luckyRows 23 = .ok (.invokevirtual 36, 3) := by decide +kernel
theorem dX4_luckyRows_26 : decode cX4_luckyRows 26 = .ok (.ifCond .ne 39, 3) := by decide +kernel
theorem dX4_luckyRows_29 : decode cX4_luckyRows 29 = .ok (.iload_n 2, 1) := by decide +kernel
theorem dX4_luckyRows_30 : decode cX4_luckyRows 30 = .ok (.iconst 1, 1) := by decide +kernel
theorem dX4_luckyRows_31 : decode cX4_luckyRows 31 = .ok (.if_icmp .ne 9, 3) := by decide +kernel
theorem dX4_luckyRows_34 : decode cX4_luckyRows 34 = .ok (.iinc 3 1, 3) := by decide +kernel
theorem dX4_luckyRows_37 : decode cX4_luckyRows 37 = .ok (.goto 28, 3) := by decide +kernel
theorem dX4_luckyRows_40 : decode cX4_luckyRows 40 = .ok (.aload_n 1, 1) := by decide +kernel
theorem dX4_luckyRows_41 : decode cX4_luckyRows 41 = .ok (.iload 4, 2) := by decide +kernel
theorem dX4_luckyRows_43 : decode cX4_luckyRows 43 = .ok (.iconst 1, 1) := by decide +kernel
theorem dX4_luckyRows_44 : decode cX4_luckyRows 44 = .ok (.invokevirtual 40, 3) := by decide +kernel
theorem dX4_luckyRows_47 : decode cX4_luckyRows 47 = .ok (.iload_n 3, 1) := by decide +kernel
theorem dX4_luckyRows_48 : decode cX4_luckyRows 48 = .ok (.aload_n 0, 1) := by decide +kernel
theorem dX4_luckyRows_49 : decode cX4_luckyRows 49 = .ok (.aload_n 1, 1) := by decide +kernel
theorem dX4_luckyRows_50 : decode cX4_luckyRows 50 = .ok (.iload_n 2, 1) := by decide +kernel
theorem dX4_luckyRows_51 : decode cX4_luckyRows 51 = .ok (.iconst 1, 1) := by decide +kernel
theorem dX4_luckyRows_52 : decode cX4_luckyRows 52 = .ok (.isub, 1) := by decide +kernel
theorem dX4_luckyRows_53 : decode cX4_luckyRows 53 = .ok (.invokestatic 28, 3) := by decide +kernel
theorem dX4_luckyRows_56 : decode cX4_luckyRows 56 = .ok (.iadd, 1) := by decide +kernel
theorem dX4_luckyRows_57 : decode cX4_luckyRows 57 = .ok (.istore_n 3, 1) := by decide +kernel
theorem dX4_luckyRows_58 : decode cX4_luckyRows 58 = .ok (.aload_n 1, 1) := by decide +kernel
theorem dX4_luckyRows_59 : decode cX4_luckyRows 59 = .ok (.iload 4, 2) := by decide +kernel
theorem dX4_luckyRows_61 : decode cX4_luckyRows 61 = .ok (.iconst (-1), 1) := by decide +kernel
theorem dX4_luckyRows_62 : decode cX4_luckyRows 62 = .ok (.invokevirtual 40, 3) := by decide +kernel
theorem dX4_luckyRows_65 : decode cX4_luckyRows 65 = .ok (.iinc 4 1, 3) := by decide +kernel
theorem dX4_luckyRows_68 : decode cX4_luckyRows 68 = .ok (.goto (-57), 3) := by decide +kernel
theorem dX4_luckyRows_71 : decode cX4_luckyRows 71 = .ok (.iload_n 3, 1) := by decide +kernel
theorem dX4_luckyRows_72 : decode cX4_luckyRows 72 = .ok (.ireturn, 1) := by decide +kernel
theorem c_X4_luckyRows_L0 {l : Launch} {G : Gx} (hap : k_ap G shC.length) (v2 : Int32) (M0 : Mem) (r : Int32 × Mem) (hf : f_X4_luckyRows 0 v2 M0 = some r) : k_Met l yX4_luckyRows cX4_luckyRows 5 (some .int) 0 0 G shC [.ref (G.2.1 1), .ref (G.2.1 25), .int v2] M0 (k_Qi G shC r.1 r.2) := by simp [f_X4_luckyRows] at hf
set_option maxRecDepth 100000 in
set_option maxHeartbeats 4000000 in
theorem c_X4_luckyRows_L1 {l : Launch} {G : Gx} (hap : k_ap G shC.length) (v2 : Int32) (M0 : Mem) (r : Int32 × Mem) (hf : f_X4_luckyRows 1 v2 M0 = some r) : k_Met l yX4_luckyRows cX4_luckyRows 5 (some .int) 2 44 G shC [.ref (G.2.1 1), .ref (G.2.1 25), .int v2] M0 (k_Qi G shC r.1 r.2) := by
  obtain ⟨rec, hrec⟩ : ∃ g, g = f_X4_luckyRows 0 := ⟨_, rfl⟩
  have hf : f_X4_luckyRows_S rec v2 M0 = some r := by rw [hrec]; exact hf
  refine k_Met_of (by decide) hap (Nat.le_of_ble_eq_true rfl) ?_
  intro p e s m args below meth c C hr hlk
  have C : Cx p s m args c cX4_luckyRows RX4 5 G shC := C
  have k_b11 : ∀ (n11 : Nat) (v2 : Int32) (v3 : Int32) (v4 : Int32) (M : Mem), f_X4_luckyRows_S_b11 rec n11 v2 v3 v4 M = some r → K p l e (k_rm 2 44) s m args below meth c 5 G shC (MQ below (k_Qi G shC r.1 r.2) args s 0 0 (k_A G shC.length)) 11 [(0, .ref (G.2.1 1)), (1, .ref (G.2.1 25)), (2, .int v2), (3, .int v3), (4, .int v4)] [] M := by
    intro n11
    induction n11 with
    | zero => intro v2 v3 v4 M hf; simp [f_X4_luckyRows_S_b11] at hf
    | succ n11 ih11 =>
      intro v2 v3 v4 M hf
      unfold f_X4_luckyRows_S_b11 at hf
      refine k_iload C dX4_luckyRows_11 4 rfl ?_
      refine k_aload_n C dX4_luckyRows_13 0 rfl ?_
      refine k_geti C shC_1 (j := 4) rfl FL_X4_22 dX4_luckyRows_14 ?_
      rcases ite_g hf with ⟨c3, hf⟩ | ⟨c3, hf⟩
      · refine k_icmp_ge_t C dX4_luckyRows_17 (tgt := 71) (by decide) c3 ?_
        refine k_iload_n C dX4_luckyRows_71 3 rfl ?_
        exact k_iret C hr hlk (prf hf) (prs hf) dX4_luckyRows_72
      · refine k_icmp_ge_f C dX4_luckyRows_17 (tgt := 71) (by decide) c3 ?_
        refine k_aload_n C dX4_luckyRows_20 1 rfl ?_
        refine k_iload C dX4_luckyRows_21 4 rfl ?_
        obtain ⟨t4, ht4, hf⟩ := bnd hf
        refine k_callVi C (As := [.int v4]) (c_X8_dueNow hap v4 M t4 ht4) ML_X8_dueNow wd_998 shC_25 rfl rfl rfl ⟨Nat.le_of_ble_eq_true rfl, Nat.le_of_ble_eq_true rfl⟩ (Nat.le_of_ble_eq_true rfl) dX4_luckyRows_23 ?_
        rcases ite_g hf with ⟨c6, hf⟩ | ⟨c6, hf⟩
        · refine k_if_ne_f C dX4_luckyRows_26 (tgt := 65) (by decide) c6 ?_
          refine k_iload_n C dX4_luckyRows_29 2 rfl ?_
          refine k_iconst C dX4_luckyRows_30 (v := (1 : Int32)) rfl ?_
          rcases ite_g hf with ⟨c8, hf⟩ | ⟨c8, hf⟩
          · refine k_icmp_ne_f C dX4_luckyRows_31 (tgt := 40) (by decide) c8 ?_
            refine k_iinc C dX4_luckyRows_34 3 rfl (v := (v3 + (1 : Int32))) rfl (by decide) [1, 2, 3, 0, 4] (lv' := [(0, .ref (G.2.1 1)), (1, .ref (G.2.1 25)), (2, .int v2), (3, .int (v3 + (1 : Int32))), (4, .int v4)]) rfl ?_
            refine k_goto C dX4_luckyRows_37 (tgt := 65) (by decide) ?_
            refine k_iinc C dX4_luckyRows_65 4 rfl (v := (v4 + (1 : Int32))) rfl (by decide) [1, 2, 3, 4, 0] (lv' := [(0, .ref (G.2.1 1)), (1, .ref (G.2.1 25)), (2, .int v2), (3, .int (v3 + (1 : Int32))), (4, .int (v4 + (1 : Int32)))]) rfl ?_
            refine k_goto C dX4_luckyRows_68 (tgt := 11) (by decide) ?_
            exact ih11 v2 (v3 + (1 : Int32)) (v4 + (1 : Int32)) M hf
          · refine k_icmp_ne_t C dX4_luckyRows_31 (tgt := 40) (by decide) c8 ?_
            refine k_aload_n C dX4_luckyRows_40 1 rfl ?_
            refine k_iload C dX4_luckyRows_41 4 rfl ?_
            refine k_iconst C dX4_luckyRows_43 (v := (1 : Int32)) rfl ?_
            obtain ⟨M9, hM9, hf⟩ := bnd hf
            refine k_callVv C (As := [.int v4, .int (1 : Int32)]) (c_X8_shift hap v4 (1 : Int32) M M9 hM9) ML_X8_shift wd_999 shC_25 rfl rfl rfl ⟨Nat.le_of_ble_eq_true rfl, Nat.le_of_ble_eq_true rfl⟩ (Nat.le_of_ble_eq_true rfl) dX4_luckyRows_44 ?_
            refine k_iload_n C dX4_luckyRows_47 3 rfl ?_
            refine k_aload_n C dX4_luckyRows_48 0 rfl ?_
            refine k_aload_n C dX4_luckyRows_49 1 rfl ?_
            refine k_iload_n C dX4_luckyRows_50 2 rfl ?_
            refine k_iconst C dX4_luckyRows_51 (v := (1 : Int32)) rfl ?_
            refine k_isub C dX4_luckyRows_52 ?_
            obtain ⟨⟨t10, M10⟩, ht10, hf⟩ := bnd hf
            replace hf := bp_s hf
            refine k_callSi C (As := [.ref (G.2.1 1), .ref (G.2.1 25), .int (v2 - (1 : Int32))]) (c_X4_luckyRows_L0 hap (v2 - (1 : Int32)) M9 (t10, M10) (hrec ▸ ht10)) MS_X4_luckyRows wd_995 rfl rfl ⟨Nat.le_of_ble_eq_true rfl, Nat.le_of_ble_eq_true rfl⟩ (Nat.le_of_ble_eq_true rfl) dX4_luckyRows_53 ?_
            refine k_iadd C dX4_luckyRows_56 ?_
            refine k_istore_n C dX4_luckyRows_57 (by decide) [1, 2, 3, 0, 4] (lv' := [(0, .ref (G.2.1 1)), (1, .ref (G.2.1 25)), (2, .int v2), (3, .int (v3 + t10)), (4, .int v4)]) rfl ?_
            refine k_aload_n C dX4_luckyRows_58 1 rfl ?_
            refine k_iload C dX4_luckyRows_59 4 rfl ?_
            refine k_iconst C dX4_luckyRows_61 (v := (-1 : Int32)) rfl ?_
            obtain ⟨M11, hM11, hf⟩ := bnd hf
            refine k_callVv C (As := [.int v4, .int (-1 : Int32)]) (c_X8_shift hap v4 (-1 : Int32) M10 M11 hM11) ML_X8_shift wd_999 shC_25 rfl rfl rfl ⟨Nat.le_of_ble_eq_true rfl, Nat.le_of_ble_eq_true rfl⟩ (Nat.le_of_ble_eq_true rfl) dX4_luckyRows_62 ?_
            refine k_iinc C dX4_luckyRows_65 4 rfl (v := (v4 + (1 : Int32))) rfl (by decide) [1, 2, 3, 4, 0] (lv' := [(0, .ref (G.2.1 1)), (1, .ref (G.2.1 25)), (2, .int v2), (3, .int (v3 + t10)), (4, .int (v4 + (1 : Int32)))]) rfl ?_
            refine k_goto C dX4_luckyRows_68 (tgt := 11) (by decide) ?_
            exact ih11 v2 (v3 + t10) (v4 + (1 : Int32)) M11 hf
        · refine k_if_ne_t C dX4_luckyRows_26 (tgt := 65) (by decide) c6 ?_
          refine k_iinc C dX4_luckyRows_65 4 rfl (v := (v4 + (1 : Int32))) rfl (by decide) [1, 2, 3, 4, 0] (lv' := [(0, .ref (G.2.1 1)), (1, .ref (G.2.1 25)), (2, .int v2), (3, .int v3), (4, .int (v4 + (1 : Int32)))]) rfl ?_
          refine k_goto C dX4_luckyRows_68 (tgt := 11) (by decide) ?_
          exact ih11 v2 v3 (v4 + (1 : Int32)) M hf
  unfold f_X4_luckyRows_S at hf
  refine k_lv (lv' := [(0, .ref (G.2.1 1)), (1, .ref (G.2.1 25)), (2, .int v2)]) [0, 1, 2] rfl ?_
  refine k_iload_n C dX4_luckyRows_0 2 rfl ?_
  rcases ite_g hf with ⟨c1, hf⟩ | ⟨c1, hf⟩
  · refine k_if_gt_t C dX4_luckyRows_1 (tgt := 6) (by decide) c1 ?_
    refine k_iconst C dX4_luckyRows_6 (v := (0 : Int32)) rfl ?_
    refine k_istore_n C dX4_luckyRows_7 (by decide) [1, 2, 3, 0] (lv' := [(0, .ref (G.2.1 1)), (1, .ref (G.2.1 25)), (2, .int v2), (3, .int (0 : Int32))]) rfl ?_
    refine k_iconst C dX4_luckyRows_8 (v := (0 : Int32)) rfl ?_
    refine k_istore C dX4_luckyRows_9 (by decide) [1, 2, 3, 4, 0] (lv' := [(0, .ref (G.2.1 1)), (1, .ref (G.2.1 25)), (2, .int v2), (3, .int (0 : Int32)), (4, .int (0 : Int32))]) rfl ?_
    exact k_b11 FU v2 (0 : Int32) (0 : Int32) M0 hf
  · refine k_if_gt_f C dX4_luckyRows_1 (tgt := 6) (by decide) c1 ?_
    refine k_iconst C dX4_luckyRows_4 (v := (1 : Int32)) rfl ?_
    exact k_iret C hr hlk (prf hf) (prs hf) dX4_luckyRows_5
set_option maxRecDepth 100000 in
set_option maxHeartbeats 4000000 in
theorem c_X4_luckyRows_L2 {l : Launch} {G : Gx} (hap : k_ap G shC.length) (v2 : Int32) (M0 : Mem) (r : Int32 × Mem) (hf : f_X4_luckyRows 2 v2 M0 = some r) : k_Met l yX4_luckyRows cX4_luckyRows 5 (some .int) 3 68 G shC [.ref (G.2.1 1), .ref (G.2.1 25), .int v2] M0 (k_Qi G shC r.1 r.2) := by
  obtain ⟨rec, hrec⟩ : ∃ g, g = f_X4_luckyRows 1 := ⟨_, rfl⟩
  have hf : f_X4_luckyRows_S rec v2 M0 = some r := by rw [hrec]; exact hf
  refine k_Met_of (by decide) hap (Nat.le_of_ble_eq_true rfl) ?_
  intro p e s m args below meth c C hr hlk
  have C : Cx p s m args c cX4_luckyRows RX4 5 G shC := C
  have k_b11 : ∀ (n11 : Nat) (v2 : Int32) (v3 : Int32) (v4 : Int32) (M : Mem), f_X4_luckyRows_S_b11 rec n11 v2 v3 v4 M = some r → K p l e (k_rm 3 68) s m args below meth c 5 G shC (MQ below (k_Qi G shC r.1 r.2) args s 0 0 (k_A G shC.length)) 11 [(0, .ref (G.2.1 1)), (1, .ref (G.2.1 25)), (2, .int v2), (3, .int v3), (4, .int v4)] [] M := by
    intro n11
    induction n11 with
    | zero => intro v2 v3 v4 M hf; simp [f_X4_luckyRows_S_b11] at hf
    | succ n11 ih11 =>
      intro v2 v3 v4 M hf
      unfold f_X4_luckyRows_S_b11 at hf
      refine k_iload C dX4_luckyRows_11 4 rfl ?_
      refine k_aload_n C dX4_luckyRows_13 0 rfl ?_
      refine k_geti C shC_1 (j := 4) rfl FL_X4_22 dX4_luckyRows_14 ?_
      rcases ite_g hf with ⟨c3, hf⟩ | ⟨c3, hf⟩
      · refine k_icmp_ge_t C dX4_luckyRows_17 (tgt := 71) (by decide) c3 ?_
        refine k_iload_n C dX4_luckyRows_71 3 rfl ?_
        exact k_iret C hr hlk (prf hf) (prs hf) dX4_luckyRows_72
      · refine k_icmp_ge_f C dX4_luckyRows_17 (tgt := 71) (by decide) c3 ?_
        refine k_aload_n C dX4_luckyRows_20 1 rfl ?_
        refine k_iload C dX4_luckyRows_21 4 rfl ?_
        obtain ⟨t4, ht4, hf⟩ := bnd hf
        refine k_callVi C (As := [.int v4]) (c_X8_dueNow hap v4 M t4 ht4) ML_X8_dueNow wd_998 shC_25 rfl rfl rfl ⟨Nat.le_of_ble_eq_true rfl, Nat.le_of_ble_eq_true rfl⟩ (Nat.le_of_ble_eq_true rfl) dX4_luckyRows_23 ?_
        rcases ite_g hf with ⟨c6, hf⟩ | ⟨c6, hf⟩
        · refine k_if_ne_f C dX4_luckyRows_26 (tgt := 65) (by decide) c6 ?_
          refine k_iload_n C dX4_luckyRows_29 2 rfl ?_
          refine k_iconst C dX4_luckyRows_30 (v := (1 : Int32)) rfl ?_
          rcases ite_g hf with ⟨c8, hf⟩ | ⟨c8, hf⟩
          · refine k_icmp_ne_f C dX4_luckyRows_31 (tgt := 40) (by decide) c8 ?_
            refine k_iinc C dX4_luckyRows_34 3 rfl (v := (v3 + (1 : Int32))) rfl (by decide) [1, 2, 3, 0, 4] (lv' := [(0, .ref (G.2.1 1)), (1, .ref (G.2.1 25)), (2, .int v2), (3, .int (v3 + (1 : Int32))), (4, .int v4)]) rfl ?_
            refine k_goto C dX4_luckyRows_37 (tgt := 65) (by decide) ?_
            refine k_iinc C dX4_luckyRows_65 4 rfl (v := (v4 + (1 : Int32))) rfl (by decide) [1, 2, 3, 4, 0] (lv' := [(0, .ref (G.2.1 1)), (1, .ref (G.2.1 25)), (2, .int v2), (3, .int (v3 + (1 : Int32))), (4, .int (v4 + (1 : Int32)))]) rfl ?_
            refine k_goto C dX4_luckyRows_68 (tgt := 11) (by decide) ?_
            exact ih11 v2 (v3 + (1 : Int32)) (v4 + (1 : Int32)) M hf
          · refine k_icmp_ne_t C dX4_luckyRows_31 (tgt := 40) (by decide) c8 ?_
            refine k_aload_n C dX4_luckyRows_40 1 rfl ?_
            refine k_iload C dX4_luckyRows_41 4 rfl ?_
            refine k_iconst C dX4_luckyRows_43 (v := (1 : Int32)) rfl ?_
            obtain ⟨M9, hM9, hf⟩ := bnd hf
            refine k_callVv C (As := [.int v4, .int (1 : Int32)]) (c_X8_shift hap v4 (1 : Int32) M M9 hM9) ML_X8_shift wd_999 shC_25 rfl rfl rfl ⟨Nat.le_of_ble_eq_true rfl, Nat.le_of_ble_eq_true rfl⟩ (Nat.le_of_ble_eq_true rfl) dX4_luckyRows_44 ?_
            refine k_iload_n C dX4_luckyRows_47 3 rfl ?_
            refine k_aload_n C dX4_luckyRows_48 0 rfl ?_
            refine k_aload_n C dX4_luckyRows_49 1 rfl ?_
            refine k_iload_n C dX4_luckyRows_50 2 rfl ?_
            refine k_iconst C dX4_luckyRows_51 (v := (1 : Int32)) rfl ?_
            refine k_isub C dX4_luckyRows_52 ?_
            obtain ⟨⟨t10, M10⟩, ht10, hf⟩ := bnd hf
            replace hf := bp_s hf
            refine k_callSi C (As := [.ref (G.2.1 1), .ref (G.2.1 25), .int (v2 - (1 : Int32))]) (c_X4_luckyRows_L1 hap (v2 - (1 : Int32)) M9 (t10, M10) (hrec ▸ ht10)) MS_X4_luckyRows wd_995 rfl rfl ⟨Nat.le_of_ble_eq_true rfl, Nat.le_of_ble_eq_true rfl⟩ (Nat.le_of_ble_eq_true rfl) dX4_luckyRows_53 ?_
            refine k_iadd C dX4_luckyRows_56 ?_
            refine k_istore_n C dX4_luckyRows_57 (by decide) [1, 2, 3, 0, 4] (lv' := [(0, .ref (G.2.1 1)), (1, .ref (G.2.1 25)), (2, .int v2), (3, .int (v3 + t10)), (4, .int v4)]) rfl ?_
            refine k_aload_n C dX4_luckyRows_58 1 rfl ?_
            refine k_iload C dX4_luckyRows_59 4 rfl ?_
            refine k_iconst C dX4_luckyRows_61 (v := (-1 : Int32)) rfl ?_
            obtain ⟨M11, hM11, hf⟩ := bnd hf
            refine k_callVv C (As := [.int v4, .int (-1 : Int32)]) (c_X8_shift hap v4 (-1 : Int32) M10 M11 hM11) ML_X8_shift wd_999 shC_25 rfl rfl rfl ⟨Nat.le_of_ble_eq_true rfl, Nat.le_of_ble_eq_true rfl⟩ (Nat.le_of_ble_eq_true rfl) dX4_luckyRows_62 ?_
            refine k_iinc C dX4_luckyRows_65 4 rfl (v := (v4 + (1 : Int32))) rfl (by decide) [1, 2, 3, 4, 0] (lv' := [(0, .ref (G.2.1 1)), (1, .ref (G.2.1 25)), (2, .int v2), (3, .int (v3 + t10)), (4, .int (v4 + (1 : Int32)))]) rfl ?_
            refine k_goto C dX4_luckyRows_68 (tgt := 11) (by decide) ?_
            exact ih11 v2 (v3 + t10) (v4 + (1 : Int32)) M11 hf
        · refine k_if_ne_t C dX4_luckyRows_26 (tgt := 65) (by decide) c6 ?_
          refine k_iinc C dX4_luckyRows_65 4 rfl (v := (v4 + (1 : Int32))) rfl (by decide) [1, 2, 3, 4, 0] (lv' := [(0, .ref (G.2.1 1)), (1, .ref (G.2.1 25)), (2, .int v2), (3, .int v3), (4, .int (v4 + (1 : Int32)))]) rfl ?_
          refine k_goto C dX4_luckyRows_68 (tgt := 11) (by decide) ?_
          exact ih11 v2 v3 (v4 + (1 : Int32)) M hf
  unfold f_X4_luckyRows_S at hf
  refine k_lv (lv' := [(0, .ref (G.2.1 1)), (1, .ref (G.2.1 25)), (2, .int v2)]) [0, 1, 2] rfl ?_
  refine k_iload_n C dX4_luckyRows_0 2 rfl ?_
  rcases ite_g hf with ⟨c1, hf⟩ | ⟨c1, hf⟩
  · refine k_if_gt_t C dX4_luckyRows_1 (tgt := 6) (by decide) c1 ?_
    refine k_iconst C dX4_luckyRows_6 (v := (0 : Int32)) rfl ?_
    refine k_istore_n C dX4_luckyRows_7 (by decide) [1, 2, 3, 0] (lv' := [(0, .ref (G.2.1 1)), (1, .ref (G.2.1 25)), (2, .int v2), (3, .int (0 : Int32))]) rfl ?_
    refine k_iconst C dX4_luckyRows_8 (v := (0 : Int32)) rfl ?_
    refine k_istore C dX4_luckyRows_9 (by decide) [1, 2, 3, 4, 0] (lv' := [(0, .ref (G.2.1 1)), (1, .ref (G.2.1 25)), (2, .int v2), (3, .int (0 : Int32)), (4, .int (0 : Int32))]) rfl ?_
    exact k_b11 FU v2 (0 : Int32) (0 : Int32) M0 hf
  · refine k_if_gt_f C dX4_luckyRows_1 (tgt := 6) (by decide) c1 ?_
    refine k_iconst C dX4_luckyRows_4 (v := (1 : Int32)) rfl ?_
    exact k_iret C hr hlk (prf hf) (prs hf) dX4_luckyRows_5
set_option maxRecDepth 100000 in
set_option maxHeartbeats 4000000 in
theorem c_X4_luckyRows_L3 {l : Launch} {G : Gx} (hap : k_ap G shC.length) (v2 : Int32) (M0 : Mem) (r : Int32 × Mem) (hf : f_X4_luckyRows 3 v2 M0 = some r) : k_Met l yX4_luckyRows cX4_luckyRows 5 (some .int) 4 92 G shC [.ref (G.2.1 1), .ref (G.2.1 25), .int v2] M0 (k_Qi G shC r.1 r.2) := by
  obtain ⟨rec, hrec⟩ : ∃ g, g = f_X4_luckyRows 2 := ⟨_, rfl⟩
  have hf : f_X4_luckyRows_S rec v2 M0 = some r := by rw [hrec]; exact hf
  refine k_Met_of (by decide) hap (Nat.le_of_ble_eq_true rfl) ?_
  intro p e s m args below meth c C hr hlk
  have C : Cx p s m args c cX4_luckyRows RX4 5 G shC := C
  have k_b11 : ∀ (n11 : Nat) (v2 : Int32) (v3 : Int32) (v4 : Int32) (M : Mem), f_X4_luckyRows_S_b11 rec n11 v2 v3 v4 M = some r → K p l e (k_rm 4 92) s m args below meth c 5 G shC (MQ below (k_Qi G shC r.1 r.2) args s 0 0 (k_A G shC.length)) 11 [(0, .ref (G.2.1 1)), (1, .ref (G.2.1 25)), (2, .int v2), (3, .int v3), (4, .int v4)] [] M := by
    intro n11
    induction n11 with
    | zero => intro v2 v3 v4 M hf; simp [f_X4_luckyRows_S_b11] at hf
    | succ n11 ih11 =>
      intro v2 v3 v4 M hf
      unfold f_X4_luckyRows_S_b11 at hf
      refine k_iload C dX4_luckyRows_11 4 rfl ?_
      refine k_aload_n C dX4_luckyRows_13 0 rfl ?_
      refine k_geti C shC_1 (j := 4) rfl FL_X4_22 dX4_luckyRows_14 ?_
      rcases ite_g hf with ⟨c3, hf⟩ | ⟨c3, hf⟩
      · refine k_icmp_ge_t C dX4_luckyRows_17 (tgt := 71) (by decide) c3 ?_
        refine k_iload_n C dX4_luckyRows_71 3 rfl ?_
        exact k_iret C hr hlk (prf hf) (prs hf) dX4_luckyRows_72
      · refine k_icmp_ge_f C dX4_luckyRows_17 (tgt := 71) (by decide) c3 ?_
        refine k_aload_n C dX4_luckyRows_20 1 rfl ?_
        refine k_iload C dX4_luckyRows_21 4 rfl ?_
        obtain ⟨t4, ht4, hf⟩ := bnd hf
        refine k_callVi C (As := [.int v4]) (c_X8_dueNow hap v4 M t4 ht4) ML_X8_dueNow wd_998 shC_25 rfl rfl rfl ⟨Nat.le_of_ble_eq_true rfl, Nat.le_of_ble_eq_true rfl⟩ (Nat.le_of_ble_eq_true rfl) dX4_luckyRows_23 ?_
        rcases ite_g hf with ⟨c6, hf⟩ | ⟨c6, hf⟩
        · refine k_if_ne_f C dX4_luckyRows_26 (tgt := 65) (by decide) c6 ?_
          refine k_iload_n C dX4_luckyRows_29 2 rfl ?_
          refine k_iconst C dX4_luckyRows_30 (v := (1 : Int32)) rfl ?_
          rcases ite_g hf with ⟨c8, hf⟩ | ⟨c8, hf⟩
          · refine k_icmp_ne_f C dX4_luckyRows_31 (tgt := 40) (by decide) c8 ?_
            refine k_iinc C dX4_luckyRows_34 3 rfl (v := (v3 + (1 : Int32))) rfl (by decide) [1, 2, 3, 0, 4] (lv' := [(0, .ref (G.2.1 1)), (1, .ref (G.2.1 25)), (2, .int v2), (3, .int (v3 + (1 : Int32))), (4, .int v4)]) rfl ?_
            refine k_goto C dX4_luckyRows_37 (tgt := 65) (by decide) ?_
            refine k_iinc C dX4_luckyRows_65 4 rfl (v := (v4 + (1 : Int32))) rfl (by decide) [1, 2, 3, 4, 0] (lv' := [(0, .ref (G.2.1 1)), (1, .ref (G.2.1 25)), (2, .int v2), (3, .int (v3 + (1 : Int32))), (4, .int (v4 + (1 : Int32)))]) rfl ?_
            refine k_goto C dX4_luckyRows_68 (tgt := 11) (by decide) ?_
            exact ih11 v2 (v3 + (1 : Int32)) (v4 + (1 : Int32)) M hf
          · refine k_icmp_ne_t C dX4_luckyRows_31 (tgt := 40) (by decide) c8 ?_
            refine k_aload_n C dX4_luckyRows_40 1 rfl ?_
            refine k_iload C dX4_luckyRows_41 4 rfl ?_
            refine k_iconst C dX4_luckyRows_43 (v := (1 : Int32)) rfl ?_
            obtain ⟨M9, hM9, hf⟩ := bnd hf
            refine k_callVv C (As := [.int v4, .int (1 : Int32)]) (c_X8_shift hap v4 (1 : Int32) M M9 hM9) ML_X8_shift wd_999 shC_25 rfl rfl rfl ⟨Nat.le_of_ble_eq_true rfl, Nat.le_of_ble_eq_true rfl⟩ (Nat.le_of_ble_eq_true rfl) dX4_luckyRows_44 ?_
            refine k_iload_n C dX4_luckyRows_47 3 rfl ?_
            refine k_aload_n C dX4_luckyRows_48 0 rfl ?_
            refine k_aload_n C dX4_luckyRows_49 1 rfl ?_
            refine k_iload_n C dX4_luckyRows_50 2 rfl ?_
            refine k_iconst C dX4_luckyRows_51 (v := (1 : Int32)) rfl ?_
            refine k_isub C dX4_luckyRows_52 ?_
            obtain ⟨⟨t10, M10⟩, ht10, hf⟩ := bnd hf
            replace hf := bp_s hf
            refine k_callSi C (As := [.ref (G.2.1 1), .ref (G.2.1 25), .int (v2 - (1 : Int32))]) (c_X4_luckyRows_L2 hap (v2 - (1 : Int32)) M9 (t10, M10) (hrec ▸ ht10)) MS_X4_luckyRows wd_995 rfl rfl ⟨Nat.le_of_ble_eq_true rfl, Nat.le_of_ble_eq_true rfl⟩ (Nat.le_of_ble_eq_true rfl) dX4_luckyRows_53 ?_
            refine k_iadd C dX4_luckyRows_56 ?_
            refine k_istore_n C dX4_luckyRows_57 (by decide) [1, 2, 3, 0, 4] (lv' := [(0, .ref (G.2.1 1)), (1, .ref (G.2.1 25)), (2, .int v2), (3, .int (v3 + t10)), (4, .int v4)]) rfl ?_
            refine k_aload_n C dX4_luckyRows_58 1 rfl ?_
            refine k_iload C dX4_luckyRows_59 4 rfl ?_
            refine k_iconst C dX4_luckyRows_61 (v := (-1 : Int32)) rfl ?_
            obtain ⟨M11, hM11, hf⟩ := bnd hf
            refine k_callVv C (As := [.int v4, .int (-1 : Int32)]) (c_X8_shift hap v4 (-1 : Int32) M10 M11 hM11) ML_X8_shift wd_999 shC_25 rfl rfl rfl ⟨Nat.le_of_ble_eq_true rfl, Nat.le_of_ble_eq_true rfl⟩ (Nat.le_of_ble_eq_true rfl) dX4_luckyRows_62 ?_
            refine k_iinc C dX4_luckyRows_65 4 rfl (v := (v4 + (1 : Int32))) rfl (by decide) [1, 2, 3, 4, 0] (lv' := [(0, .ref (G.2.1 1)), (1, .ref (G.2.1 25)), (2, .int v2), (3, .int (v3 + t10)), (4, .int (v4 + (1 : Int32)))]) rfl ?_
            refine k_goto C dX4_luckyRows_68 (tgt := 11) (by decide) ?_
            exact ih11 v2 (v3 + t10) (v4 + (1 : Int32)) M11 hf
        · refine k_if_ne_t C dX4_luckyRows_26 (tgt := 65) (by decide) c6 ?_
          refine k_iinc C dX4_luckyRows_65 4 rfl (v := (v4 + (1 : Int32))) rfl (by decide) [1, 2, 3, 4, 0] (lv' := [(0, .ref (G.2.1 1)), (1, .ref (G.2.1 25)), (2, .int v2), (3, .int v3), (4, .int (v4 + (1 : Int32)))]) rfl ?_
          refine k_goto C dX4_luckyRows_68 (tgt := 11) (by decide) ?_
          exact ih11 v2 v3 (v4 + (1 : Int32)) M hf
  unfold f_X4_luckyRows_S at hf
  refine k_lv (lv' := [(0, .ref (G.2.1 1)), (1, .ref (G.2.1 25)), (2, .int v2)]) [0, 1, 2] rfl ?_
  refine k_iload_n C dX4_luckyRows_0 2 rfl ?_
  rcases ite_g hf with ⟨c1, hf⟩ | ⟨c1, hf⟩
  · refine k_if_gt_t C dX4_luckyRows_1 (tgt := 6) (by decide) c1 ?_
    refine k_iconst C dX4_luckyRows_6 (v := (0 : Int32)) rfl ?_
    refine k_istore_n C dX4_luckyRows_7 (by decide) [1, 2, 3, 0] (lv' := [(0, .ref (G.2.1 1)), (1, .ref (G.2.1 25)), (2, .int v2), (3, .int (0 : Int32))]) rfl ?_
    refine k_iconst C dX4_luckyRows_8 (v := (0 : Int32)) rfl ?_
    refine k_istore C dX4_luckyRows_9 (by decide) [1, 2, 3, 4, 0] (lv' := [(0, .ref (G.2.1 1)), (1, .ref (G.2.1 25)), (2, .int v2), (3, .int (0 : Int32)), (4, .int (0 : Int32))]) rfl ?_
    exact k_b11 FU v2 (0 : Int32) (0 : Int32) M0 hf
  · refine k_if_gt_f C dX4_luckyRows_1 (tgt := 6) (by decide) c1 ?_
    refine k_iconst C dX4_luckyRows_4 (v := (1 : Int32)) rfl ?_
    exact k_iret C hr hlk (prf hf) (prs hf) dX4_luckyRows_5
set_option maxRecDepth 100000 in
set_option maxHeartbeats 4000000 in
theorem c_X4_luckyRows_L4 {l : Launch} {G : Gx} (hap : k_ap G shC.length) (v2 : Int32) (M0 : Mem) (r : Int32 × Mem) (hf : f_X4_luckyRows 4 v2 M0 = some r) : k_Met l yX4_luckyRows cX4_luckyRows 5 (some .int) 5 116 G shC [.ref (G.2.1 1), .ref (G.2.1 25), .int v2] M0 (k_Qi G shC r.1 r.2) := by
  obtain ⟨rec, hrec⟩ : ∃ g, g = f_X4_luckyRows 3 := ⟨_, rfl⟩
  have hf : f_X4_luckyRows_S rec v2 M0 = some r := by rw [hrec]; exact hf
  refine k_Met_of (by decide) hap (Nat.le_of_ble_eq_true rfl) ?_
  intro p e s m args below meth c C hr hlk
  have C : Cx p s m args c cX4_luckyRows RX4 5 G shC := C
  have k_b11 : ∀ (n11 : Nat) (v2 : Int32) (v3 : Int32) (v4 : Int32) (M : Mem), f_X4_luckyRows_S_b11 rec n11 v2 v3 v4 M = some r → K p l e (k_rm 5 116) s m args below meth c 5 G shC (MQ below (k_Qi G shC r.1 r.2) args s 0 0 (k_A G shC.length)) 11 [(0, .ref (G.2.1 1)), (1, .ref (G.2.1 25)), (2, .int v2), (3, .int v3), (4, .int v4)] [] M := by
    intro n11
    induction n11 with
    | zero => intro v2 v3 v4 M hf; simp [f_X4_luckyRows_S_b11] at hf
    | succ n11 ih11 =>
      intro v2 v3 v4 M hf
      unfold f_X4_luckyRows_S_b11 at hf
      refine k_iload C dX4_luckyRows_11 4 rfl ?_
      refine k_aload_n C dX4_luckyRows_13 0 rfl ?_
      refine k_geti C shC_1 (j := 4) rfl FL_X4_22 dX4_luckyRows_14 ?_
      rcases ite_g hf with ⟨c3, hf⟩ | ⟨c3, hf⟩
      · refine k_icmp_ge_t C dX4_luckyRows_17 (tgt := 71) (by decide) c3 ?_
        refine k_iload_n C dX4_luckyRows_71 3 rfl ?_
        exact k_iret C hr hlk (prf hf) (prs hf) dX4_luckyRows_72
      · refine k_icmp_ge_f C dX4_luckyRows_17 (tgt := 71) (by decide) c3 ?_
        refine k_aload_n C dX4_luckyRows_20 1 rfl ?_
        refine k_iload C dX4_luckyRows_21 4 rfl ?_
        obtain ⟨t4, ht4, hf⟩ := bnd hf
        refine k_callVi C (As := [.int v4]) (c_X8_dueNow hap v4 M t4 ht4) ML_X8_dueNow wd_998 shC_25 rfl rfl rfl ⟨Nat.le_of_ble_eq_true rfl, Nat.le_of_ble_eq_true rfl⟩ (Nat.le_of_ble_eq_true rfl) dX4_luckyRows_23 ?_
        rcases ite_g hf with ⟨c6, hf⟩ | ⟨c6, hf⟩
        · refine k_if_ne_f C dX4_luckyRows_26 (tgt := 65) (by decide) c6 ?_
          refine k_iload_n C dX4_luckyRows_29 2 rfl ?_
          refine k_iconst C dX4_luckyRows_30 (v := (1 : Int32)) rfl ?_
          rcases ite_g hf with ⟨c8, hf⟩ | ⟨c8, hf⟩
          · refine k_icmp_ne_f C dX4_luckyRows_31 (tgt := 40) (by decide) c8 ?_
            refine k_iinc C dX4_luckyRows_34 3 rfl (v := (v3 + (1 : Int32))) rfl (by decide) [1, 2, 3, 0, 4] (lv' := [(0, .ref (G.2.1 1)), (1, .ref (G.2.1 25)), (2, .int v2), (3, .int (v3 + (1 : Int32))), (4, .int v4)]) rfl ?_
            refine k_goto C dX4_luckyRows_37 (tgt := 65) (by decide) ?_
            refine k_iinc C dX4_luckyRows_65 4 rfl (v := (v4 + (1 : Int32))) rfl (by decide) [1, 2, 3, 4, 0] (lv' := [(0, .ref (G.2.1 1)), (1, .ref (G.2.1 25)), (2, .int v2), (3, .int (v3 + (1 : Int32))), (4, .int (v4 + (1 : Int32)))]) rfl ?_
            refine k_goto C dX4_luckyRows_68 (tgt := 11) (by decide) ?_
            exact ih11 v2 (v3 + (1 : Int32)) (v4 + (1 : Int32)) M hf
          · refine k_icmp_ne_t C dX4_luckyRows_31 (tgt := 40) (by decide) c8 ?_
            refine k_aload_n C dX4_luckyRows_40 1 rfl ?_
            refine k_iload C dX4_luckyRows_41 4 rfl ?_
            refine k_iconst C dX4_luckyRows_43 (v := (1 : Int32)) rfl ?_
            obtain ⟨M9, hM9, hf⟩ := bnd hf
            refine k_callVv C (As := [.int v4, .int (1 : Int32)]) (c_X8_shift hap v4 (1 : Int32) M M9 hM9) ML_X8_shift wd_999 shC_25 rfl rfl rfl ⟨Nat.le_of_ble_eq_true rfl, Nat.le_of_ble_eq_true rfl⟩ (Nat.le_of_ble_eq_true rfl) dX4_luckyRows_44 ?_
            refine k_iload_n C dX4_luckyRows_47 3 rfl ?_
            refine k_aload_n C dX4_luckyRows_48 0 rfl ?_
            refine k_aload_n C dX4_luckyRows_49 1 rfl ?_
            refine k_iload_n C dX4_luckyRows_50 2 rfl ?_
            refine k_iconst C dX4_luckyRows_51 (v := (1 : Int32)) rfl ?_
            refine k_isub C dX4_luckyRows_52 ?_
            obtain ⟨⟨t10, M10⟩, ht10, hf⟩ := bnd hf
            replace hf := bp_s hf
            refine k_callSi C (As := [.ref (G.2.1 1), .ref (G.2.1 25), .int (v2 - (1 : Int32))]) (c_X4_luckyRows_L3 hap (v2 - (1 : Int32)) M9 (t10, M10) (hrec ▸ ht10)) MS_X4_luckyRows wd_995 rfl rfl ⟨Nat.le_of_ble_eq_true rfl, Nat.le_of_ble_eq_true rfl⟩ (Nat.le_of_ble_eq_true rfl) dX4_luckyRows_53 ?_
            refine k_iadd C dX4_luckyRows_56 ?_
            refine k_istore_n C dX4_luckyRows_57 (by decide) [1, 2, 3, 0, 4] (lv' := [(0, .ref (G.2.1 1)), (1, .ref (G.2.1 25)), (2, .int v2), (3, .int (v3 + t10)), (4, .int v4)]) rfl ?_
            refine k_aload_n C dX4_luckyRows_58 1 rfl ?_
            refine k_iload C dX4_luckyRows_59 4 rfl ?_
            refine k_iconst C dX4_luckyRows_61 (v := (-1 : Int32)) rfl ?_
            obtain ⟨M11, hM11, hf⟩ := bnd hf
            refine k_callVv C (As := [.int v4, .int (-1 : Int32)]) (c_X8_shift hap v4 (-1 : Int32) M10 M11 hM11) ML_X8_shift wd_999 shC_25 rfl rfl rfl ⟨Nat.le_of_ble_eq_true rfl, Nat.le_of_ble_eq_true rfl⟩ (Nat.le_of_ble_eq_true rfl) dX4_luckyRows_62 ?_
            refine k_iinc C dX4_luckyRows_65 4 rfl (v := (v4 + (1 : Int32))) rfl (by decide) [1, 2, 3, 4, 0] (lv' := [(0, .ref (G.2.1 1)), (1, .ref (G.2.1 25)), (2, .int v2), (3, .int (v3 + t10)), (4, .int (v4 + (1 : Int32)))]) rfl ?_
            refine k_goto C dX4_luckyRows_68 (tgt := 11) (by decide) ?_
            exact ih11 v2 (v3 + t10) (v4 + (1 : Int32)) M11 hf
        · refine k_if_ne_t C dX4_luckyRows_26 (tgt := 65) (by decide) c6 ?_
          refine k_iinc C dX4_luckyRows_65 4 rfl (v := (v4 + (1 : Int32))) rfl (by decide) [1, 2, 3, 4, 0] (lv' := [(0, .ref (G.2.1 1)), (1, .ref (G.2.1 25)), (2, .int v2), (3, .int v3), (4, .int (v4 + (1 : Int32)))]) rfl ?_
          refine k_goto C dX4_luckyRows_68 (tgt := 11) (by decide) ?_
          exact ih11 v2 v3 (v4 + (1 : Int32)) M hf
  unfold f_X4_luckyRows_S at hf
  refine k_lv (lv' := [(0, .ref (G.2.1 1)), (1, .ref (G.2.1 25)), (2, .int v2)]) [0, 1, 2] rfl ?_
  refine k_iload_n C dX4_luckyRows_0 2 rfl ?_
  rcases ite_g hf with ⟨c1, hf⟩ | ⟨c1, hf⟩
  · refine k_if_gt_t C dX4_luckyRows_1 (tgt := 6) (by decide) c1 ?_
    refine k_iconst C dX4_luckyRows_6 (v := (0 : Int32)) rfl ?_
    refine k_istore_n C dX4_luckyRows_7 (by decide) [1, 2, 3, 0] (lv' := [(0, .ref (G.2.1 1)), (1, .ref (G.2.1 25)), (2, .int v2), (3, .int (0 : Int32))]) rfl ?_
    refine k_iconst C dX4_luckyRows_8 (v := (0 : Int32)) rfl ?_
    refine k_istore C dX4_luckyRows_9 (by decide) [1, 2, 3, 4, 0] (lv' := [(0, .ref (G.2.1 1)), (1, .ref (G.2.1 25)), (2, .int v2), (3, .int (0 : Int32)), (4, .int (0 : Int32))]) rfl ?_
    exact k_b11 FU v2 (0 : Int32) (0 : Int32) M0 hf
  · refine k_if_gt_f C dX4_luckyRows_1 (tgt := 6) (by decide) c1 ?_
    refine k_iconst C dX4_luckyRows_4 (v := (1 : Int32)) rfl ?_
    exact k_iret C hr hlk (prf hf) (prs hf) dX4_luckyRows_5
set_option maxRecDepth 100000 in
set_option maxHeartbeats 4000000 in
theorem c_X4_luckyRows_L5 {l : Launch} {G : Gx} (hap : k_ap G shC.length) (v2 : Int32) (M0 : Mem) (r : Int32 × Mem) (hf : f_X4_luckyRows 5 v2 M0 = some r) : k_Met l yX4_luckyRows cX4_luckyRows 5 (some .int) 6 140 G shC [.ref (G.2.1 1), .ref (G.2.1 25), .int v2] M0 (k_Qi G shC r.1 r.2) := by
  obtain ⟨rec, hrec⟩ : ∃ g, g = f_X4_luckyRows 4 := ⟨_, rfl⟩
  have hf : f_X4_luckyRows_S rec v2 M0 = some r := by rw [hrec]; exact hf
  refine k_Met_of (by decide) hap (Nat.le_of_ble_eq_true rfl) ?_
  intro p e s m args below meth c C hr hlk
  have C : Cx p s m args c cX4_luckyRows RX4 5 G shC := C
  have k_b11 : ∀ (n11 : Nat) (v2 : Int32) (v3 : Int32) (v4 : Int32) (M : Mem), f_X4_luckyRows_S_b11 rec n11 v2 v3 v4 M = some r → K p l e (k_rm 6 140) s m args below meth c 5 G shC (MQ below (k_Qi G shC r.1 r.2) args s 0 0 (k_A G shC.length)) 11 [(0, .ref (G.2.1 1)), (1, .ref (G.2.1 25)), (2, .int v2), (3, .int v3), (4, .int v4)] [] M := by
    intro n11
    induction n11 with
    | zero => intro v2 v3 v4 M hf; simp [f_X4_luckyRows_S_b11] at hf
    | succ n11 ih11 =>
      intro v2 v3 v4 M hf
      unfold f_X4_luckyRows_S_b11 at hf
      refine k_iload C dX4_luckyRows_11 4 rfl ?_
      refine k_aload_n C dX4_luckyRows_13 0 rfl ?_
      refine k_geti C shC_1 (j := 4) rfl FL_X4_22 dX4_luckyRows_14 ?_
      rcases ite_g hf with ⟨c3, hf⟩ | ⟨c3, hf⟩
      · refine k_icmp_ge_t C dX4_luckyRows_17 (tgt := 71) (by decide) c3 ?_
        refine k_iload_n C dX4_luckyRows_71 3 rfl ?_
        exact k_iret C hr hlk (prf hf) (prs hf) dX4_luckyRows_72
      · refine k_icmp_ge_f C dX4_luckyRows_17 (tgt := 71) (by decide) c3 ?_
        refine k_aload_n C dX4_luckyRows_20 1 rfl ?_
        refine k_iload C dX4_luckyRows_21 4 rfl ?_
        obtain ⟨t4, ht4, hf⟩ := bnd hf
        refine k_callVi C (As := [.int v4]) (c_X8_dueNow hap v4 M t4 ht4) ML_X8_dueNow wd_998 shC_25 rfl rfl rfl ⟨Nat.le_of_ble_eq_true rfl, Nat.le_of_ble_eq_true rfl⟩ (Nat.le_of_ble_eq_true rfl) dX4_luckyRows_23 ?_
        rcases ite_g hf with ⟨c6, hf⟩ | ⟨c6, hf⟩
        · refine k_if_ne_f C dX4_luckyRows_26 (tgt := 65) (by decide) c6 ?_
          refine k_iload_n C dX4_luckyRows_29 2 rfl ?_
          refine k_iconst C dX4_luckyRows_30 (v := (1 : Int32)) rfl ?_
          rcases ite_g hf with ⟨c8, hf⟩ | ⟨c8, hf⟩
          · refine k_icmp_ne_f C dX4_luckyRows_31 (tgt := 40) (by decide) c8 ?_
            refine k_iinc C dX4_luckyRows_34 3 rfl (v := (v3 + (1 : Int32))) rfl (by decide) [1, 2, 3, 0, 4] (lv' := [(0, .ref (G.2.1 1)), (1, .ref (G.2.1 25)), (2, .int v2), (3, .int (v3 + (1 : Int32))), (4, .int v4)]) rfl ?_
            refine k_goto C dX4_luckyRows_37 (tgt := 65) (by decide) ?_
            refine k_iinc C dX4_luckyRows_65 4 rfl (v := (v4 + (1 : Int32))) rfl (by decide) [1, 2, 3, 4, 0] (lv' := [(0, .ref (G.2.1 1)), (1, .ref (G.2.1 25)), (2, .int v2), (3, .int (v3 + (1 : Int32))), (4, .int (v4 + (1 : Int32)))]) rfl ?_
            refine k_goto C dX4_luckyRows_68 (tgt := 11) (by decide) ?_
            exact ih11 v2 (v3 + (1 : Int32)) (v4 + (1 : Int32)) M hf
          · refine k_icmp_ne_t C dX4_luckyRows_31 (tgt := 40) (by decide) c8 ?_
            refine k_aload_n C dX4_luckyRows_40 1 rfl ?_
            refine k_iload C dX4_luckyRows_41 4 rfl ?_
            refine k_iconst C dX4_luckyRows_43 (v := (1 : Int32)) rfl ?_
            obtain ⟨M9, hM9, hf⟩ := bnd hf
            refine k_callVv C (As := [.int v4, .int (1 : Int32)]) (c_X8_shift hap v4 (1 : Int32) M M9 hM9) ML_X8_shift wd_999 shC_25 rfl rfl rfl ⟨Nat.le_of_ble_eq_true rfl, Nat.le_of_ble_eq_true rfl⟩ (Nat.le_of_ble_eq_true rfl) dX4_luckyRows_44 ?_
            refine k_iload_n C dX4_luckyRows_47 3 rfl ?_
            refine k_aload_n C dX4_luckyRows_48 0 rfl ?_
            refine k_aload_n C dX4_luckyRows_49 1 rfl ?_
            refine k_iload_n C dX4_luckyRows_50 2 rfl ?_
            refine k_iconst C dX4_luckyRows_51 (v := (1 : Int32)) rfl ?_
            refine k_isub C dX4_luckyRows_52 ?_
            obtain ⟨⟨t10, M10⟩, ht10, hf⟩ := bnd hf
            replace hf := bp_s hf
            refine k_callSi C (As := [.ref (G.2.1 1), .ref (G.2.1 25), .int (v2 - (1 : Int32))]) (c_X4_luckyRows_L4 hap (v2 - (1 : Int32)) M9 (t10, M10) (hrec ▸ ht10)) MS_X4_luckyRows wd_995 rfl rfl ⟨Nat.le_of_ble_eq_true rfl, Nat.le_of_ble_eq_true rfl⟩ (Nat.le_of_ble_eq_true rfl) dX4_luckyRows_53 ?_
            refine k_iadd C dX4_luckyRows_56 ?_
            refine k_istore_n C dX4_luckyRows_57 (by decide) [1, 2, 3, 0, 4] (lv' := [(0, .ref (G.2.1 1)), (1, .ref (G.2.1 25)), (2, .int v2), (3, .int (v3 + t10)), (4, .int v4)]) rfl ?_
            refine k_aload_n C dX4_luckyRows_58 1 rfl ?_
            refine k_iload C dX4_luckyRows_59 4 rfl ?_
            refine k_iconst C dX4_luckyRows_61 (v := (-1 : Int32)) rfl ?_
            obtain ⟨M11, hM11, hf⟩ := bnd hf
            refine k_callVv C (As := [.int v4, .int (-1 : Int32)]) (c_X8_shift hap v4 (-1 : Int32) M10 M11 hM11) ML_X8_shift wd_999 shC_25 rfl rfl rfl ⟨Nat.le_of_ble_eq_true rfl, Nat.le_of_ble_eq_true rfl⟩ (Nat.le_of_ble_eq_true rfl) dX4_luckyRows_62 ?_
            refine k_iinc C dX4_luckyRows_65 4 rfl (v := (v4 + (1 : Int32))) rfl (by decide) [1, 2, 3, 4, 0] (lv' := [(0, .ref (G.2.1 1)), (1, .ref (G.2.1 25)), (2, .int v2), (3, .int (v3 + t10)), (4, .int (v4 + (1 : Int32)))]) rfl ?_
            refine k_goto C dX4_luckyRows_68 (tgt := 11) (by decide) ?_
            exact ih11 v2 (v3 + t10) (v4 + (1 : Int32)) M11 hf
        · refine k_if_ne_t C dX4_luckyRows_26 (tgt := 65) (by decide) c6 ?_
          refine k_iinc C dX4_luckyRows_65 4 rfl (v := (v4 + (1 : Int32))) rfl (by decide) [1, 2, 3, 4, 0] (lv' := [(0, .ref (G.2.1 1)), (1, .ref (G.2.1 25)), (2, .int v2), (3, .int v3), (4, .int (v4 + (1 : Int32)))]) rfl ?_
          refine k_goto C dX4_luckyRows_68 (tgt := 11) (by decide) ?_
          exact ih11 v2 v3 (v4 + (1 : Int32)) M hf
  unfold f_X4_luckyRows_S at hf
  refine k_lv (lv' := [(0, .ref (G.2.1 1)), (1, .ref (G.2.1 25)), (2, .int v2)]) [0, 1, 2] rfl ?_
  refine k_iload_n C dX4_luckyRows_0 2 rfl ?_
  rcases ite_g hf with ⟨c1, hf⟩ | ⟨c1, hf⟩
  · refine k_if_gt_t C dX4_luckyRows_1 (tgt := 6) (by decide) c1 ?_
    refine k_iconst C dX4_luckyRows_6 (v := (0 : Int32)) rfl ?_
    refine k_istore_n C dX4_luckyRows_7 (by decide) [1, 2, 3, 0] (lv' := [(0, .ref (G.2.1 1)), (1, .ref (G.2.1 25)), (2, .int v2), (3, .int (0 : Int32))]) rfl ?_
    refine k_iconst C dX4_luckyRows_8 (v := (0 : Int32)) rfl ?_
    refine k_istore C dX4_luckyRows_9 (by decide) [1, 2, 3, 4, 0] (lv' := [(0, .ref (G.2.1 1)), (1, .ref (G.2.1 25)), (2, .int v2), (3, .int (0 : Int32)), (4, .int (0 : Int32))]) rfl ?_
    exact k_b11 FU v2 (0 : Int32) (0 : Int32) M0 hf
  · refine k_if_gt_f C dX4_luckyRows_1 (tgt := 6) (by decide) c1 ?_
    refine k_iconst C dX4_luckyRows_4 (v := (1 : Int32)) rfl ?_
    exact k_iret C hr hlk (prf hf) (prs hf) dX4_luckyRows_5
theorem c_X4_luckyRows {l : Launch} {G : Gx} (hap : k_ap G shC.length) (v2 : Int32) (M0 : Mem) (r : Int32 × Mem) (hf : f_X4_luckyRows 5 v2 M0 = some r) : k_Met l yX4_luckyRows cX4_luckyRows 5 (some .int) 6 140 G shC [.ref (G.2.1 1), .ref (G.2.1 25), .int v2] M0 (k_Qi G shC r.1 r.2) := c_X4_luckyRows_L5 hap v2 M0 r hf
theorem dX4_lowest_0 : decode cX4_lowest 0 = .ok (.lload_n 0, 1) := by decide +kernel
theorem dX4_lowest_1 : decode cX4_lowest 1 = .ok (.lconst 0, 1) := by decide +kernel
theorem dX4_lowest_2 : decode cX4_lowest 2 = .ok (.lcmp, 1) := by decide +kernel
theorem dX4_lowest_3 : decode cX4_lowest 3 = .ok (.ifCond .eq 9, 3) := by decide +kernel
theorem dX4_lowest_6 : decode cX4_lowest 6 = .ok (.lload_n 2, 1) := by decide +kernel
theorem dX4_lowest_7 : decode cX4_lowest 7 = .ok (.lconst 0, 1) := by decide +kernel
theorem dX4_lowest_8 : decode cX4_lowest 8 = .ok (.lcmp, 1) := by decide +kernel
theorem dX4_lowest_9 : decode cX4_lowest 9 = .ok (.ifCond .ne 7, 3) := by decide +kernel
theorem dX4_lowest_12 : decode cX4_lowest 12 = .ok (.iload 4, 2) := by decide +kernel
theorem dX4_lowest_14 : decode cX4_lowest 14 = .ok (.i2l, 1) := by decide +kernel
theorem dX4_lowest_15 : decode cX4_lowest 15 = .ok (.lreturn, 1) := by decide +kernel
theorem dX4_lowest_16 : decode cX4_lowest 16 = .ok (.lload_n 0, 1) := by decide +kernel
theorem dX4_lowest_17 : decode cX4_lowest 17 = .ok (.lstore 5, 2) := by decide +kernel
theorem dX4_lowest_19 : decode cX4_lowest 19 = .ok (.lload_n 2, 1) := by decide +kernel
theorem dX4_lowest_20 : decode cX4_lowest 20 = .ok (.lstore 7, 2) := by decide +kernel
theorem dX4_lowest_22 : decode cX4_lowest 22 = .ok (.iconst 0, 1) := by decide +kernel
theorem dX4_lowest_23 : decode cX4_lowest 23 = .ok (.istore 9, 2) := by decide +kernel
theorem dX4_lowest_25 : decode cX4_lowest 25 = .ok (.iload 9, 2) := by decide +kernel
theorem dX4_lowest_27 : decode cX4_lowest 27 = .ok (.bipush 64, 2) := by decide +kernel
theorem dX4_lowest_29 : decode cX4_lowest 29 = .ok (.if_icmp .ge 31, 3) := by decide +kernel
theorem dX4_lowest_32 : decode cX4_lowest 32 = .ok (.lload 7, 2) := by decide +kernel
theorem dX4_lowest_34 : decode cX4_lowest 34 = .ok (.lconst 0, 1) := by decide +kernel
theorem dX4_lowest_35 : decode cX4_lowest 35 = .ok (.lcmp, 1) := by decide +kernel
theorem dX4_lowest_36 : decode cX4_lowest 36 = .ok (.ifCond .eq 24, 3) := by decide +kernel
theorem dX4_lowest_39 : decode cX4_lowest 39 = .ok (.lload 5, 2) := by decide +kernel
theorem dX4_lowest_41 : decode cX4_lowest 41 = .ok (.lload 7, 2) := by decide +kernel
theorem dX4_lowest_43 : decode cX4_lowest 43 = .ok (.lrem, 1) := by decide +kernel
theorem dX4_lowest_44 : decode cX4_lowest 44 = .ok (.lstore 10, 2) := by decide +kernel
theorem dX4_lowest_46 : decode cX4_lowest 46 = .ok (.lload 7, 2) := by decide +kernel
theorem dX4_lowest_48 : decode cX4_lowest 48 = .ok (.lstore 5, 2) := by decide +kernel
theorem dX4_lowest_50 : decode cX4_lowest 50 = .ok (.lload 10, 2) := by decide +kernel
theorem dX4_lowest_52 : decode cX4_lowest 52 = .ok (.lstore 7, 2) := by decide +kernel
theorem dX4_lowest_54 : decode cX4_lowest 54 = .ok (.iinc 9 1, 3) := by decide +kernel
theorem dX4_lowest_57 : decode cX4_lowest 57 = .ok (.goto (-32), 3) := by decide +kernel
theorem dX4_lowest_60 : decode cX4_lowest 60 = .ok (.iload 4, 2) := by decide +kernel
theorem dX4_lowest_62 : decode cX4_lowest 62 = .ok (.ifCond .ne 7, 3) := by decide +kernel
theorem dX4_lowest_65 : decode cX4_lowest 65 = .ok (.lload_n 0, 1) := by decide +kernel
theorem dX4_lowest_66 : decode cX4_lowest 66 = .ok (.goto 4, 3) := by decide +kernel
theorem dX4_lowest_69 : decode cX4_lowest 69 = .ok (.lload_n 2, 1) := by decide +kernel
theorem dX4_lowest_70 : decode cX4_lowest 70 = .ok (.lconst 1, 1) := by decide +kernel
theorem dX4_lowest_71 : decode cX4_lowest 71 = .ok (.lload 5, 2) := by decide +kernel
theorem dX4_lowest_73 : decode cX4_lowest 73 = .ok (.invokestatic 47, 3) := by decide +kernel
theorem dX4_lowest_76 : decode cX4_lowest 76 = .ok (.ldiv, 1) := by decide +kernel
theorem dX4_lowest_77 : decode cX4_lowest 77 = .ok (.lreturn, 1) := by decide +kernel
set_option maxRecDepth 100000 in
set_option maxHeartbeats 4000000 in
theorem c_X4_lowest {l : Launch} {G : Gx} (hap : k_ap G shC.length) (v0 : Int64) (v2 : Int64) (v4 : Int32) (M0 : Mem) (r : Int64) (hf : f_X4_lowest v0 v2 v4 = some r) : k_Met l yX4_lowest cX4_lowest 12 (some .long) 1 40 G shC [.long v0, .long v2, .int v4] M0 (k_Ql G shC r M0) := by
  refine k_Met_of (by decide) hap (Nat.le_of_ble_eq_true rfl) ?_
  intro p e s m args below meth c C hr hlk
  have C : Cx p s m args c cX4_lowest RX4 12 G shC := C
  have k_b60 : ∀ (v0 : Int64) (v2 : Int64) (v4 : Int32) (v5 : Int64), f_X4_lowest_b60 v0 v2 v4 v5 = some r → K p l e (k_rm 1 40) s m args below meth c 12 G shC (MQ below (k_Ql G shC r M0) args s 0 0 (k_A G shC.length)) 60 [(0, .long v0), (2, .long v2), (4, .int v4), (5, .long v5)] [] M0 := by
    intro v0 v2 v4 v5 hf
    unfold f_X4_lowest_b60 at hf
    refine k_iload C dX4_lowest_60 2 rfl ?_
    have hj6 : K p l e (k_rm 1 40) s m args below meth c 12 G shC (MQ below (k_Ql G shC r M0) args s 0 0 (k_A G shC.length)) 70 [(0, .long v0), (2, .long v2), (4, .int v4), (5, .long v5)] [.long (if v4 = 0 then v0 else v2)] M0 := by
      refine k_lconst C dX4_lowest_70 (v := (1 : Int64)) rfl ?_
      refine k_lload C dX4_lowest_71 3 rfl ?_
      refine k_maxL C W_maxL wd_1003 ⟨Nat.le_of_ble_eq_true rfl, Nat.le_of_ble_eq_true rfl⟩ dX4_lowest_73 ?_
      obtain ⟨t5, ht5, hf⟩ := bnd hf
      refine k_ldivO C dX4_lowest_76 ht5 ?_
      exact k_lret C hr hlk (Option.some.inj hf) rfl dX4_lowest_77
    by_cases c7 : v4 = 0
    · refine k_if_ne_f C dX4_lowest_62 (tgt := 69) (by decide) c7 ?_
      refine k_lload_n C dX4_lowest_65 0 rfl ?_
      refine k_goto C dX4_lowest_66 (tgt := 70) (by decide) ?_
      exact k_val (by rw [if_pos c7]) hj6
    · refine k_if_ne_t C dX4_lowest_62 (tgt := 69) (by decide) c7 ?_
      refine k_lload_n C dX4_lowest_69 1 rfl ?_
      exact k_val (by rw [if_neg c7]) hj6
  have k_b25 : ∀ (n25 : Nat) (v0 : Int64) (v2 : Int64) (v4 : Int32) (v5 : Int64) (v7 : Int64) (v9 : Int32), f_X4_lowest_b25 n25 v0 v2 v4 v5 v7 v9 = some r → K p l e (k_rm 1 40) s m args below meth c 12 G shC (MQ below (k_Ql G shC r M0) args s 0 0 (k_A G shC.length)) 25 [(0, .long v0), (2, .long v2), (4, .int v4), (5, .long v5), (7, .long v7), (9, .int v9)] [] M0 := by
    intro n25
    induction n25 with
    | zero => intro v0 v2 v4 v5 v7 v9 hf; simp [f_X4_lowest_b25] at hf
    | succ n25 ih25 =>
      intro v0 v2 v4 v5 v7 v9 hf
      unfold f_X4_lowest_b25 at hf
      refine k_iload C dX4_lowest_25 5 rfl ?_
      refine k_bipush C dX4_lowest_27 (v := (64 : Int32)) rfl ?_
      rcases ite_g hf with ⟨c4, hf⟩ | ⟨c4, hf⟩
      · refine k_icmp_ge_t C dX4_lowest_29 (tgt := 60) (by decide) c4 ?_
        refine k_lv [0, 1, 2, 3] rfl ?_
        exact k_b60 v0 v2 v4 v5 hf
      · refine k_icmp_ge_f C dX4_lowest_29 (tgt := 60) (by decide) c4 ?_
        refine k_lload C dX4_lowest_32 4 rfl ?_
        refine k_lconst C dX4_lowest_34 (v := (0 : Int64)) rfl ?_
        refine k_lcmp C dX4_lowest_35 ?_
        rcases ite_g hf with ⟨c9, hf⟩ | ⟨c9, hf⟩
        · refine k_if_eq_t C dX4_lowest_36 (tgt := 60) (by decide) c9 ?_
          refine k_lv [0, 1, 2, 3] rfl ?_
          exact k_b60 v0 v2 v4 v5 hf
        · refine k_if_eq_f C dX4_lowest_36 (tgt := 60) (by decide) c9 ?_
          refine k_lload C dX4_lowest_39 3 rfl ?_
          refine k_lload C dX4_lowest_41 4 rfl ?_
          obtain ⟨t10, ht10, hf⟩ := bnd hf
          refine k_lremO C dX4_lowest_43 ht10 ?_
          refine k_lstore C dX4_lowest_44 (by decide) [1, 2, 3, 5, 6, 0] (lv' := [(0, .long v0), (2, .long v2), (4, .int v4), (7, .long v7), (9, .int v9), (10, .long t10)]) rfl ?_
          refine k_lload C dX4_lowest_46 3 rfl ?_
          refine k_lstore C dX4_lowest_48 (by decide) [1, 2, 3, 0, 5, 6] (lv' := [(0, .long v0), (2, .long v2), (4, .int v4), (5, .long v7), (9, .int v9), (10, .long t10)]) rfl ?_
          refine k_lload C dX4_lowest_50 5 rfl ?_
          refine k_lstore C dX4_lowest_52 (by decide) [1, 2, 3, 4, 0, 5] (lv' := [(0, .long v0), (2, .long v2), (4, .int v4), (5, .long v7), (7, .long t10), (9, .int v9)]) rfl ?_
          refine k_iinc C dX4_lowest_54 5 rfl (v := (v9 + (1 : Int32))) rfl (by decide) [1, 2, 3, 4, 5, 0] (lv' := [(0, .long v0), (2, .long v2), (4, .int v4), (5, .long v7), (7, .long t10), (9, .int (v9 + (1 : Int32)))]) rfl ?_
          refine k_goto C dX4_lowest_57 (tgt := 25) (by decide) ?_
          exact ih25 v0 v2 v4 v7 t10 (v9 + (1 : Int32)) hf
  unfold f_X4_lowest at hf
  refine k_lv (lv' := [(0, .long v0), (2, .long v2), (4, .int v4)]) [0, 1, 2] rfl ?_
  refine k_lload_n C dX4_lowest_0 0 rfl ?_
  refine k_lconst C dX4_lowest_1 (v := (0 : Int64)) rfl ?_
  refine k_lcmp C dX4_lowest_2 ?_
  rcases ite_g hf with ⟨c1, hf⟩ | ⟨c1, hf⟩
  · refine k_if_eq_t C dX4_lowest_3 (tgt := 12) (by decide) c1 ?_
    refine k_iload C dX4_lowest_12 2 rfl ?_
    refine k_i2l C dX4_lowest_14 ?_
    exact k_lret C hr hlk (Option.some.inj hf) rfl dX4_lowest_15
  · refine k_if_eq_f C dX4_lowest_3 (tgt := 12) (by decide) c1 ?_
    refine k_lload_n C dX4_lowest_6 1 rfl ?_
    refine k_lconst C dX4_lowest_7 (v := (0 : Int64)) rfl ?_
    refine k_lcmp C dX4_lowest_8 ?_
    rcases ite_g hf with ⟨c2, hf⟩ | ⟨c2, hf⟩
    · refine k_if_ne_f C dX4_lowest_9 (tgt := 16) (by decide) c2 ?_
      refine k_iload C dX4_lowest_12 2 rfl ?_
      refine k_i2l C dX4_lowest_14 ?_
      exact k_lret C hr hlk (Option.some.inj hf) rfl dX4_lowest_15
    · refine k_if_ne_t C dX4_lowest_9 (tgt := 16) (by decide) c2 ?_
      refine k_lload_n C dX4_lowest_16 0 rfl ?_
      refine k_lstore C dX4_lowest_17 (by decide) [1, 2, 3, 0] (lv' := [(0, .long v0), (2, .long v2), (4, .int v4), (5, .long v0)]) rfl ?_
      refine k_lload_n C dX4_lowest_19 1 rfl ?_
      refine k_lstore C dX4_lowest_20 (by decide) [1, 2, 3, 4, 0] (lv' := [(0, .long v0), (2, .long v2), (4, .int v4), (5, .long v0), (7, .long v2)]) rfl ?_
      refine k_iconst C dX4_lowest_22 (v := (0 : Int32)) rfl ?_
      refine k_istore C dX4_lowest_23 (by decide) [1, 2, 3, 4, 5, 0] (lv' := [(0, .long v0), (2, .long v2), (4, .int v4), (5, .long v0), (7, .long v2), (9, .int (0 : Int32))]) rfl ?_
      exact k_b25 FU v0 v2 v4 v0 v2 (0 : Int32) hf
