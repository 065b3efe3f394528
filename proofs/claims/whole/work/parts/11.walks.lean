/-! walks, printed by a program of mine: each method meets its function -/
theorem dX8_openBy_0 : decode cX8_openBy 0 = .ok (.iconst 0, 1) := by decide +kernel
theorem dX8_openBy_1 : decode cX8_openBy 1 = .ok (.istore_n 3, 1) := by decide +kernel
theorem dX8_openBy_2 : decode cX8_openBy 2 = .ok (.iload_n 3, 1) := by decide +kernel
theorem dX8_openBy_3 : decode cX8_openBy 3 = .ok (.aload_n 0, 1) := by decide +kernel
theorem dX8_openBy_4 : decode cX8_openBy 4 = .ok (.getfield 18, 3) := by decide +kernel
theorem dX8_openBy_7 : decode cX8_openBy 7 = .ok (.getfield 35, 3) := by decide +kernel
theorem dX8_openBy_10 : decode cX8_openBy 10 = .ok (.if_icmp .ge 74, 3) := by decide +kernel
theorem dX8_openBy_13 : decode cX8_openBy 13 = .ok (.aload_n 0, 1) := by decide +kernel
theorem dX8_openBy_14 : decode cX8_openBy 14 = .ok (.getfield 9, 3) := by decide +kernel
theorem dX8_openBy_17 : decode cX8_openBy 17 = .ok (.iload_n 3, 1) := by decide +kernel
theorem dX8_openBy_18 : decode cX8_openBy 18 = .ok (.iconst 1, 1) := by decide +kernel
theorem dX8_openBy_19 : decode cX8_openBy 19 = .ok (.iload_n 3, 1) := by decide +kernel
theorem dX8_openBy_20 : decode cX8_openBy 20 = .ok (.ishl, 1) := by decide +kernel
theorem dX8_openBy_21 : decode cX8_openBy 21 = .ok (.iastore, 1) := by decide +kernel
theorem dX8_openBy_22 : decode cX8_openBy 22 = .ok (.iconst 0, 1) := by decide +kernel
theorem dX8_openBy_23 : decode cX8_openBy 23 = .ok (.istore 4, 2) := by decide +kernel
theorem dX8_openBy_25 : decode cX8_openBy 25 = .ok (.iload 4, 2) := by decide +kernel
theorem dX8_openBy_27 : decode cX8_openBy 27 = .ok (.iload_n 3, 1) := by decide +kernel
theorem dX8_openBy_28 : decode cX8_openBy 28 = .ok (.if_icmp .ge 50, 3) := by decide +kernel
theorem dX8_openBy_31 : decode cX8_openBy 31 = .ok (.aload_n 0, 1) := by decide +kernel
theorem dX8_openBy_32 : decode cX8_openBy 32 = .ok (.getfield 18, 3) := by decide +kernel
theorem dX8_openBy_35 : decode cX8_openBy 35 = .ok (.iload_n 3, 1) := by decide +kernel
theorem dX8_openBy_36 : decode cX8_openBy 36 = .ok (.iload 4, 2) := by decide +kernel
theorem dX8_openBy_38 : decode cX8_openBy 38 = .ok (.iload_n 1, 1) := by decide +kernel
theorem dX8_openBy_39 : decode cX8_openBy 39 = .ok (.iload_n 2, 1) := by decide +kernel
theorem dX8_openBy_40 : decode cX8_openBy 40 = .ok (.invokevirtual 38, 3) := by decide +kernel
theorem dX8_openBy_43 : decode cX8_openBy 43 = .ok (.ifCond .eq 29, 3) := by decide +kernel
theorem dX8_openBy_46 : decode cX8_openBy 46 = .ok (.aload_n 0, 1) := by decide +kernel
theorem dX8_openBy_47 : decode cX8_openBy 47 = .ok (.getfield 9, 3) := by decide +kernel
theorem dX8_openBy_50 : decode cX8_openBy 50 = .ok (.iload_n 3, 1) := by decide +kernel
theorem dX8_openBy_51 : decode cX8_openBy 51 = .ok (.dup2, 1) := by decide +kernel
theorem dX8_openBy_52 : decode cX8_openBy 52 = .ok (.iaload, 1) := by decide +kernel
theorem dX8_openBy_53 : decode cX8_openBy 53 = .ok (.iconst 1, 1) := by decide +kernel
theorem dX8_openBy_54 : decode cX8_openBy 54 = .ok (.iload 4, 2) := by decide +kernel
theorem dX8_openBy_56 : decode cX8_openBy 56 = .ok (.ishl, 1) := by decide +kernel
theorem dX8_openBy_57 : decode cX8_openBy 57 = .ok (.ior, 1) := by decide +kernel
theorem dX8_openBy_58 : decode cX8_openBy 58 = .ok (.iastore, 1) := by decide +kernel
theorem dX8_openBy_59 : decode cX8_openBy 59 = .ok (.aload_n 0, 1) := by decide +kernel
theorem dX8_openBy_60 : decode cX8_openBy 60 = .ok (.getfield 9, 3) := by decide +kernel
theorem dX8_openBy_63 : decode cX8_openBy 63 = .ok (.iload 4, 2) := by decide +kernel
theorem dX8_openBy_65 : decode cX8_openBy 65 = .ok (.dup2, 1) := by decide +kernel
theorem dX8_openBy_66 : decode cX8_openBy 66 = .ok (.iaload, 1) := by decide +kernel
theorem dX8_openBy_67 : decode cX8_openBy 67 = .ok (.iconst 1, 1) := by decide +kernel
theorem dX8_openBy_68 : decode cX8_openBy 68 = .ok (.iload_n 3, 1) := by decide +kernel
theorem dX8_openBy_69 : decode cX8_openBy 69 = .ok (.ishl, 1) := by decide +kernel
theorem dX8_openBy_70 : decode cX8_openBy 70 = .ok (.ior, 1) := by decide +kernel
theorem dX8_openBy_71 : decode cX8_openBy 71 = .ok (.iastore, 1) := by decide +kernel
theorem dX8_openBy_72 : decode cX8_openBy 72 = .ok (.iinc 4 1, 3) := by decide +kernel
theorem dX8_openBy_75 : decode cX8_openBy 75 = .ok (.goto (-50), 3) := by decide +kernel
theorem dX8_openBy_78 : decode cX8_openBy 78 = .ok (.iinc 3 1, 3) := by decide +kernel
theorem dX8_openBy_81 : decode cX8_openBy 81 = .ok (.goto (-79), 3) := by decide +kernel
theorem dX8_openBy_84 : decode cX8_openBy 84 = .ok (.aload_n 0, 1) := by decide +kernel
theorem dX8_openBy_85 : decode cX8_openBy 85 = .ok (.invokevirtual 42, 3) := by decide +kernel
theorem dX8_openBy_88 : decode cX8_openBy 88 = .ok (.return_, 1) := by decide +kernel
set_option maxRecDepth 100000 in
set_option maxHeartbeats 4000000 in
theorem c_X8_openBy {l : Launch} {G : Gx} (hap : k_ap G shC.length) (v1 : Int32) (v2 : Int32) (M0 : Mem) (r : Mem) (hf : f_X8_openBy v1 v2 M0 = some r) : k_Met l yX8_openBy cX8_openBy 5 none 2 44 G shC [.ref (G.2.1 25), .int v1, .int v2] M0 (k_Qv G shC r) := by
  refine k_Met_of (by decide) hap (Nat.le_of_ble_eq_true rfl) ?_
  intro p e s m args below meth c C hr hlk
  have C : Cx p s m args c cX8_openBy RX8 5 G shC := C
  have k_b2 : ∀ (n2 : Nat) (v1 : Int32) (v2 : Int32) (v3 : Int32) (M : Mem), f_X8_openBy_b2 n2 v1 v2 v3 M = some r → K p l e (k_rm 2 44) s m args below meth c 5 G shC (MQ below (k_Qv G shC r) args s 0 0 (k_A G shC.length)) 2 [(0, .ref (G.2.1 25)), (1, .int v1), (2, .int v2), (3, .int v3)] [] M := by
    intro n2
    induction n2 with
    | zero => intro v1 v2 v3 M hf; simp [f_X8_openBy_b2] at hf
    | succ n2 ih2 =>
      have k_b25 : ∀ (n25 : Nat) (v1 : Int32) (v2 : Int32) (v3 : Int32) (v4 : Int32) (M : Mem), f_X8_openBy_b25 (f_X8_openBy_b2 n2) n25 v1 v2 v3 v4 M = some r → K p l e (k_rm 2 44) s m args below meth c 5 G shC (MQ below (k_Qv G shC r) args s 0 0 (k_A G shC.length)) 25 [(0, .ref (G.2.1 25)), (1, .int v1), (2, .int v2), (3, .int v3), (4, .int v4)] [] M := by
        intro n25
        induction n25 with
        | zero => intro v1 v2 v3 v4 M hf; simp [f_X8_openBy_b25] at hf
        | succ n25 ih25 =>
          intro v1 v2 v3 v4 M hf
          unfold f_X8_openBy_b25 at hf
          refine k_iload C dX8_openBy_25 4 rfl ?_
          refine k_iload_n C dX8_openBy_27 3 rfl ?_
          rcases ite_g hf with ⟨c5, hf⟩ | ⟨c5, hf⟩
          · refine k_icmp_ge_t C dX8_openBy_28 (tgt := 78) (by decide) c5 ?_
            refine k_iinc C dX8_openBy_78 3 rfl (v := (v3 + (1 : Int32))) rfl (by decide) [1, 2, 3, 0] (lv' := [(0, .ref (G.2.1 25)), (1, .int v1), (2, .int v2), (3, .int (v3 + (1 : Int32)))]) rfl ?_
            refine k_goto C dX8_openBy_81 (tgt := 2) (by decide) ?_
            exact ih2 v1 v2 (v3 + (1 : Int32)) M hf
          · refine k_icmp_ge_f C dX8_openBy_28 (tgt := 78) (by decide) c5 ?_
            refine k_aload_n C dX8_openBy_31 0 rfl ?_
            refine k_getr C shC_25 (j := 0) rfl FL_X8_18 dX8_openBy_32 ?_
            refine k_iload_n C dX8_openBy_35 3 rfl ?_
            refine k_iload C dX8_openBy_36 4 rfl ?_
            refine k_iload_n C dX8_openBy_38 1 rfl ?_
            refine k_iload_n C dX8_openBy_39 2 rfl ?_
            obtain ⟨t6, ht6, hf⟩ := bnd hf
            refine k_callVi C (As := [.int v3, .int v4, .int v1, .int v2]) (c_X0_areAlike hap 1 BD_1 v3 v4 v1 v2 M t6 ht6) ML_X0_areAlike wd_571 shC_1 rfl rfl rfl ⟨Nat.le_of_ble_eq_true rfl, Nat.le_of_ble_eq_true rfl⟩ (Nat.le_of_ble_eq_true rfl) dX8_openBy_40 ?_
            rcases ite_g hf with ⟨c7, hf⟩ | ⟨c7, hf⟩
            · refine k_if_eq_t C dX8_openBy_43 (tgt := 72) (by decide) c7 ?_
              refine k_iinc C dX8_openBy_72 4 rfl (v := (v4 + (1 : Int32))) rfl (by decide) [1, 2, 3, 4, 0] (lv' := [(0, .ref (G.2.1 25)), (1, .int v1), (2, .int v2), (3, .int v3), (4, .int (v4 + (1 : Int32)))]) rfl ?_
              refine k_goto C dX8_openBy_75 (tgt := 25) (by decide) ?_
              exact ih25 v1 v2 v3 (v4 + (1 : Int32)) M hf
            · refine k_if_eq_f C dX8_openBy_43 (tgt := 72) (by decide) c7 ?_
              refine k_aload_n C dX8_openBy_46 0 rfl ?_
              refine k_getr C shC_25 (j := 1) rfl FL_X8_9 dX8_openBy_47 ?_
              refine k_iload_n C dX8_openBy_50 3 rfl ?_
              refine k_dup2 C dX8_openBy_51 rfl rfl ?_
              obtain ⟨t8, ht8, hf⟩ := bnd hf
              refine k_iald C shC_26 ht8 dX8_openBy_52 ?_
              refine k_iconst C dX8_openBy_53 (v := (1 : Int32)) rfl ?_
              refine k_iload C dX8_openBy_54 4 rfl ?_
              refine k_ishlJ C dX8_openBy_56 ?_
              refine k_ior C dX8_openBy_57 ?_
              obtain ⟨M9, hM9, hf⟩ := bnd hf
              refine k_iast C shC_26 hM9 dX8_openBy_58 ?_
              refine k_aload_n C dX8_openBy_59 0 rfl ?_
              refine k_getr C shC_25 (j := 1) rfl FL_X8_9 dX8_openBy_60 ?_
              refine k_iload C dX8_openBy_63 4 rfl ?_
              refine k_dup2 C dX8_openBy_65 rfl rfl ?_
              obtain ⟨t10, ht10, hf⟩ := bnd hf
              refine k_iald C shC_26 ht10 dX8_openBy_66 ?_
              refine k_iconst C dX8_openBy_67 (v := (1 : Int32)) rfl ?_
              refine k_iload_n C dX8_openBy_68 3 rfl ?_
              refine k_ishlJ C dX8_openBy_69 ?_
              refine k_ior C dX8_openBy_70 ?_
              obtain ⟨M11, hM11, hf⟩ := bnd hf
              refine k_iast C shC_26 hM11 dX8_openBy_71 ?_
              refine k_iinc C dX8_openBy_72 4 rfl (v := (v4 + (1 : Int32))) rfl (by decide) [1, 2, 3, 4, 0] (lv' := [(0, .ref (G.2.1 25)), (1, .int v1), (2, .int v2), (3, .int v3), (4, .int (v4 + (1 : Int32)))]) rfl ?_
              refine k_goto C dX8_openBy_75 (tgt := 25) (by decide) ?_
              exact ih25 v1 v2 v3 (v4 + (1 : Int32)) M11 hf
      intro v1 v2 v3 M hf
      unfold f_X8_openBy_b2 at hf
      refine k_iload_n C dX8_openBy_2 3 rfl ?_
      refine k_aload_n C dX8_openBy_3 0 rfl ?_
      refine k_getr C shC_25 (j := 0) rfl FL_X8_18 dX8_openBy_4 ?_
      refine k_geti C shC_1 (j := 4) rfl FL_X8_35 dX8_openBy_7 ?_
      rcases ite_g hf with ⟨c1, hf⟩ | ⟨c1, hf⟩
      · refine k_icmp_ge_t C dX8_openBy_10 (tgt := 84) (by decide) c1 ?_
        refine k_aload_n C dX8_openBy_84 0 rfl ?_
        obtain ⟨M2, hM2, hf⟩ := bnd hf
        refine k_callVv C (As := []) (c_X8_forgetSteps hap M M2 hM2) ML_X8_forgetSteps wd_581 shC_25 rfl rfl rfl ⟨Nat.le_of_ble_eq_true rfl, Nat.le_of_ble_eq_true rfl⟩ (Nat.le_of_ble_eq_true rfl) dX8_openBy_85 ?_
        exact k_vret C hr hlk (Option.some.inj hf) dX8_openBy_88
      · refine k_icmp_ge_f C dX8_openBy_10 (tgt := 84) (by decide) c1 ?_
        refine k_aload_n C dX8_openBy_13 0 rfl ?_
        refine k_getr C shC_25 (j := 1) rfl FL_X8_9 dX8_openBy_14 ?_
        refine k_iload_n C dX8_openBy_17 3 rfl ?_
        refine k_iconst C dX8_openBy_18 (v := (1 : Int32)) rfl ?_
        refine k_iload_n C dX8_openBy_19 3 rfl ?_
        refine k_ishlJ C dX8_openBy_20 ?_
        obtain ⟨M3, hM3, hf⟩ := bnd hf
        refine k_iast C shC_26 hM3 dX8_openBy_21 ?_
        refine k_iconst C dX8_openBy_22 (v := (0 : Int32)) rfl ?_
        refine k_istore C dX8_openBy_23 (by decide) [1, 2, 3, 4, 0] (lv' := [(0, .ref (G.2.1 25)), (1, .int v1), (2, .int v2), (3, .int v3), (4, .int (0 : Int32))]) rfl ?_
        exact k_b25 FU v1 v2 v3 (0 : Int32) M3 hf
  unfold f_X8_openBy at hf
  refine k_lv (lv' := [(0, .ref (G.2.1 25)), (1, .int v1), (2, .int v2)]) [0, 1, 2] rfl ?_
  refine k_iconst C dX8_openBy_0 (v := (0 : Int32)) rfl ?_
  refine k_istore_n C dX8_openBy_1 (by decide) [1, 2, 3, 0] (lv' := [(0, .ref (G.2.1 25)), (1, .int v1), (2, .int v2), (3, .int (0 : Int32))]) rfl ?_
  exact k_b2 FU v1 v2 (0 : Int32) M0 hf
theorem dX8_open_0 : decode cX8_open 0 = .ok (.aload_n 0, 1) := by decide +kernel
theorem dX8_open_1 : decode cX8_open 1 = .ok (.aload_n 0, 1) := by decide +kernel
theorem dX8_open_2 : decode cX8_open 2 = .ok (.getfield 18, 3) := by decide +kernel
theorem dX8_open_5 : decode cX8_open 5 = .ok (.getfield 22, 3) := by decide +kernel
theorem dX8_open_8 : decode cX8_open 8 = .ok (.aload_n 0, 1) := by decide +kernel
theorem dX8_open_9 : decode cX8_open 9 = .ok (.getfield 18, 3) := by decide +kernel
theorem dX8_open_12 : decode cX8_open 12 = .ok (.getfield 28, 3) := by decide +kernel
theorem dX8_open_15 : decode cX8_open 15 = .ok (.invokevirtual 31, 3) := by decide +kernel
theorem dX8_open_18 : decode cX8_open 18 = .ok (.return_, 1) := by decide +kernel
set_option maxRecDepth 100000 in
set_option maxHeartbeats 4000000 in
theorem c_X8_open {l : Launch} {G : Gx} (hap : k_ap G shC.length) (M0 : Mem) (r : Mem) (hf : f_X8_open M0 = some r) : k_Met l yX8_open cX8_open 1 none 3 68 G shC [.ref (G.2.1 25)] M0 (k_Qv G shC r) := by
  refine k_Met_of (by decide) hap (Nat.le_of_ble_eq_true rfl) ?_
  intro p e s m args below meth c C hr hlk
  have C : Cx p s m args c cX8_open RX8 1 G shC := C
  unfold f_X8_open at hf
  refine k_lv (lv' := [(0, .ref (G.2.1 25))]) [0] rfl ?_
  refine k_aload_n C dX8_open_0 0 rfl ?_
  refine k_aload_n C dX8_open_1 0 rfl ?_
  refine k_getr C shC_25 (j := 0) rfl FL_X8_18 dX8_open_2 ?_
  refine k_geti C shC_1 (j := 6) rfl FL_X8_22 dX8_open_5 ?_
  refine k_aload_n C dX8_open_8 0 rfl ?_
  refine k_getr C shC_25 (j := 0) rfl FL_X8_18 dX8_open_9 ?_
  refine k_geti C shC_1 (j := 7) rfl FL_X8_28 dX8_open_12 ?_
  obtain ⟨M1, hM1, hf⟩ := bnd hf
  refine k_callVv C (As := [.int (M0.1 1 6), .int (M0.1 1 7)]) (c_X8_openBy hap (M0.1 1 6) (M0.1 1 7) M0 M1 hM1) ML_X8_openBy wd_567 shC_25 rfl rfl rfl ⟨Nat.le_of_ble_eq_true rfl, Nat.le_of_ble_eq_true rfl⟩ (Nat.le_of_ble_eq_true rfl) dX8_open_15 ?_
  exact k_vret C hr hlk (Option.some.inj hf) dX8_open_18
theorem dX2_mostApart_0 : decode cX2_mostApart 0 = .ok (.aload_n 0, 1) := by decide +kernel
theorem dX2_mostApart_1 : decode cX2_mostApart 1 = .ok (.getfield 30, 3) := by decide +kernel
theorem dX2_mostApart_4 : decode cX2_mostApart 4 = .ok (.invokevirtual 45, 3) := by decide +kernel
theorem dX2_mostApart_7 : decode cX2_mostApart 7 = .ok (.iconst 0, 1) := by decide +kernel
theorem dX2_mostApart_8 : decode cX2_mostApart 8 = .ok (.istore_n 1, 1) := by decide +kernel
theorem dX2_mostApart_9 : decode cX2_mostApart 9 = .ok (.iconst 1, 1) := by decide +kernel
theorem dX2_mostApart_10 : decode cX2_mostApart 10 = .ok (.istore_n 2, 1) := by decide +kernel
theorem dX2_mostApart_11 : decode cX2_mostApart 11 = .ok (.iload_n 2, 1) := by decide +kernel
theorem dX2_mostApart_12 : decode cX2_mostApart 12 = .ok (.aload_n 0, 1) := by decide +kernel
theorem dX2_mostApart_13 : decode cX2_mostApart 13 = .ok (.invokevirtual 48, 3) := by decide +kernel
theorem dX2_mostApart_16 : decode cX2_mostApart 16 = .ok (.if_icmp .ge 30, 3) := by decide +kernel
theorem dX2_mostApart_19 : decode cX2_mostApart 19 = .ok (.iload_n 2, 1) := by decide +kernel
theorem dX2_mostApart_20 : decode cX2_mostApart 20 = .ok (.invokestatic 52, 3) := by decide +kernel
theorem dX2_mostApart_23 : decode cX2_mostApart 23 = .ok (.iload_n 1, 1) := by decide +kernel
theorem dX2_mostApart_24 : decode cX2_mostApart 24 = .ok (.invokestatic 52, 3) := by decide +kernel
theorem dX2_mostApart_27 : decode cX2_mostApart 27 = .ok (.if_icmp .le 13, 3) := by decide +kernel
theorem dX2_mostApart_30 : decode cX2_mostApart 30 = .ok (.aload_n 0, 1) := by decide +kernel
theorem dX2_mostApart_31 : decode cX2_mostApart 31 = .ok (.iload_n 2, 1) := by decide +kernel
theorem dX2_mostApart_32 : decode cX2_mostApart 32 = .ok (.invokevirtual 58, 3) := by decide +kernel
theorem dX2_mostApart_35 : decode cX2_mostApart 35 = .ok (.ifCond .eq 5, 3) := by decide +kernel
theorem dX2_mostApart_38 : decode cX2_mostApart 38 = .ok (.iload_n 2, 1) := by decide +kernel
theorem dX2_mostApart_39 : decode cX2_mostApart 39 = .ok (.istore_n 1, 1) := by decide +kernel
theorem dX2_mostApart_40 : decode cX2_mostApart 40 = .ok (.iinc 2 1, 3) := by decide +kernel
theorem dX2_mostApart_43 : decode cX2_mostApart 43 = .ok (.goto (-32), 3) := by decide +kernel
theorem dX2_mostApart_46 : decode cX2_mostApart 46 = .ok (.iload_n 1, 1) := by decide +kernel
theorem dX2_mostApart_47 : decode cX2_mostApart 47 = .ok (.ireturn, 1) := by decide +kernel
set_option maxRecDepth 100000 in
set_option maxHeartbeats 4000000 in
theorem c_X2_mostApart {l : Launch} {G : Gx} (hap : k_ap G shC.length) (M0 : Mem) (r : Int32 × Mem) (hf : f_X2_mostApart M0 = some r) : k_Met l yX2_mostApart cX2_mostApart 3 (some .int) 4 88 G shC [.ref (G.2.1 36)] M0 (k_Qi G shC r.1 r.2) := by
  refine k_Met_of (by decide) hap (Nat.le_of_ble_eq_true rfl) ?_
  intro p e s m args below meth c C hr hlk
  have C : Cx p s m args c cX2_mostApart RX2 3 G shC := C
  have k_b11 : ∀ (n11 : Nat) (v1 : Int32) (v2 : Int32) (M : Mem), f_X2_mostApart_b11 n11 v1 v2 M = some r → K p l e (k_rm 4 88) s m args below meth c 3 G shC (MQ below (k_Qi G shC r.1 r.2) args s 0 0 (k_A G shC.length)) 11 [(0, .ref (G.2.1 36)), (1, .int v1), (2, .int v2)] [] M := by
    intro n11
    induction n11 with
    | zero => intro v1 v2 M hf; simp [f_X2_mostApart_b11] at hf
    | succ n11 ih11 =>
      intro v1 v2 M hf
      unfold f_X2_mostApart_b11 at hf
      refine k_iload_n C dX2_mostApart_11 2 rfl ?_
      refine k_aload_n C dX2_mostApart_12 0 rfl ?_
      refine k_callVi C (As := []) (c_X2_sets hap M _ rfl) ML_X2_sets wd_762 shC_36 rfl rfl rfl ⟨Nat.le_of_ble_eq_true rfl, Nat.le_of_ble_eq_true rfl⟩ (Nat.le_of_ble_eq_true rfl) dX2_mostApart_13 ?_
      rcases ite_g hf with ⟨c2, hf⟩ | ⟨c2, hf⟩
      · refine k_icmp_ge_t C dX2_mostApart_16 (tgt := 46) (by decide) c2 ?_
        refine k_iload_n C dX2_mostApart_46 1 rfl ?_
        exact k_iret C hr hlk (prf hf) (prs hf) dX2_mostApart_47
      · refine k_icmp_ge_f C dX2_mostApart_16 (tgt := 46) (by decide) c2 ?_
        refine k_iload_n C dX2_mostApart_19 2 rfl ?_
        refine k_callSi C (As := [.int v2]) (c_J6_bitCount_0f7a4 hap v2 M _ rfl) MS_J6_bitCount_0f7a4 wd_766 rfl rfl ⟨Nat.le_of_ble_eq_true rfl, Nat.le_of_ble_eq_true rfl⟩ (Nat.le_of_ble_eq_true rfl) dX2_mostApart_20 ?_
        refine k_iload_n C dX2_mostApart_23 1 rfl ?_
        refine k_callSi C (As := [.int v1]) (c_J6_bitCount_0f7a4 hap v1 M _ rfl) MS_J6_bitCount_0f7a4 wd_766 rfl rfl ⟨Nat.le_of_ble_eq_true rfl, Nat.le_of_ble_eq_true rfl⟩ (Nat.le_of_ble_eq_true rfl) dX2_mostApart_24 ?_
        rcases ite_g hf with ⟨c4, hf⟩ | ⟨c4, hf⟩
        · refine k_icmp_le_t C dX2_mostApart_27 (tgt := 40) (by decide) c4 ?_
          refine k_iinc C dX2_mostApart_40 2 rfl (v := (v2 + (1 : Int32))) rfl (by decide) [1, 2, 0] (lv' := [(0, .ref (G.2.1 36)), (1, .int v1), (2, .int (v2 + (1 : Int32)))]) rfl ?_
          refine k_goto C dX2_mostApart_43 (tgt := 11) (by decide) ?_
          exact ih11 v1 (v2 + (1 : Int32)) M hf
        · refine k_icmp_le_f C dX2_mostApart_27 (tgt := 40) (by decide) c4 ?_
          refine k_aload_n C dX2_mostApart_30 0 rfl ?_
          refine k_iload_n C dX2_mostApart_31 2 rfl ?_
          obtain ⟨t5, ht5, hf⟩ := bnd hf
          refine k_callVi C (As := [.int v2]) (c_X2_areApart hap v2 M t5 ht5) ML_X2_areApart wd_767 shC_36 rfl rfl rfl ⟨Nat.le_of_ble_eq_true rfl, Nat.le_of_ble_eq_true rfl⟩ (Nat.le_of_ble_eq_true rfl) dX2_mostApart_32 ?_
          rcases ite_g hf with ⟨c6, hf⟩ | ⟨c6, hf⟩
          · refine k_if_eq_t C dX2_mostApart_35 (tgt := 40) (by decide) c6 ?_
            refine k_iinc C dX2_mostApart_40 2 rfl (v := (v2 + (1 : Int32))) rfl (by decide) [1, 2, 0] (lv' := [(0, .ref (G.2.1 36)), (1, .int v1), (2, .int (v2 + (1 : Int32)))]) rfl ?_
            refine k_goto C dX2_mostApart_43 (tgt := 11) (by decide) ?_
            exact ih11 v1 (v2 + (1 : Int32)) M hf
          · refine k_if_eq_f C dX2_mostApart_35 (tgt := 40) (by decide) c6 ?_
            refine k_iload_n C dX2_mostApart_38 2 rfl ?_
            refine k_istore_n C dX2_mostApart_39 (by decide) [1, 0, 2] (lv' := [(0, .ref (G.2.1 36)), (1, .int v2), (2, .int v2)]) rfl ?_
            refine k_iinc C dX2_mostApart_40 2 rfl (v := (v2 + (1 : Int32))) rfl (by decide) [1, 2, 0] (lv' := [(0, .ref (G.2.1 36)), (1, .int v2), (2, .int (v2 + (1 : Int32)))]) rfl ?_
            refine k_goto C dX2_mostApart_43 (tgt := 11) (by decide) ?_
            exact ih11 v2 (v2 + (1 : Int32)) M hf
  unfold f_X2_mostApart at hf
  refine k_lv (lv' := [(0, .ref (G.2.1 36))]) [0] rfl ?_
  refine k_aload_n C dX2_mostApart_0 0 rfl ?_
  refine k_getr C shC_36 (j := 1) rfl FL_X2_30 dX2_mostApart_1 ?_
  obtain ⟨M1, hM1, hf⟩ := bnd hf
  refine k_callVv C (As := []) (c_X8_open hap M0 M1 hM1) ML_X8_open wd_761 shC_25 rfl rfl rfl ⟨Nat.le_of_ble_eq_true rfl, Nat.le_of_ble_eq_true rfl⟩ (Nat.le_of_ble_eq_true rfl) dX2_mostApart_4 ?_
  refine k_iconst C dX2_mostApart_7 (v := (0 : Int32)) rfl ?_
  refine k_istore_n C dX2_mostApart_8 (by decide) [1, 0] (lv' := [(0, .ref (G.2.1 36)), (1, .int (0 : Int32))]) rfl ?_
  refine k_iconst C dX2_mostApart_9 (v := (1 : Int32)) rfl ?_
  refine k_istore_n C dX2_mostApart_10 (by decide) [1, 2, 0] (lv' := [(0, .ref (G.2.1 36)), (1, .int (0 : Int32)), (2, .int (1 : Int32))]) rfl ?_
  exact k_b11 FU (0 : Int32) (1 : Int32) M1 hf
theorem dX2_fewestFor_0 : decode cX2_fewestFor 0 = .ok (.bipush 8, 2) := by decide +kernel
theorem dX2_fewestFor_2 : decode cX2_fewestFor 2 = .ok (.istore_n 2, 1) := by decide +kernel
theorem dX2_fewestFor_3 : decode cX2_fewestFor 3 = .ok (.iload_n 1, 1) := by decide +kernel
theorem dX2_fewestFor_4 : decode cX2_fewestFor 4 = .ok (.istore_n 3, 1) := by decide +kernel
theorem dX2_fewestFor_5 : decode cX2_fewestFor 5 = .ok (.iload_n 3, 1) := by decide +kernel
theorem dX2_fewestFor_6 : decode cX2_fewestFor 6 = .ok (.ifCond .le 38, 3) := by decide +kernel
theorem dX2_fewestFor_9 : decode cX2_fewestFor 9 = .ok (.aload_n 0, 1) := by decide +kernel
theorem dX2_fewestFor_10 : decode cX2_fewestFor 10 = .ok (.getfield 15, 3) := by decide +kernel
theorem dX2_fewestFor_13 : decode cX2_fewestFor 13 = .ok (.iload_n 3, 1) := by decide +kernel
theorem dX2_fewestFor_14 : decode cX2_fewestFor 14 = .ok (.baload, 1) := by decide +kernel
theorem dX2_fewestFor_15 : decode cX2_fewestFor 15 = .ok (.ifCond .eq 20, 3) := by decide +kernel
theorem dX2_fewestFor_18 : decode cX2_fewestFor 18 = .ok (.iload_n 2, 1) := by decide +kernel
theorem dX2_fewestFor_19 : decode cX2_fewestFor 19 = .ok (.aload_n 0, 1) := by decide +kernel
theorem dX2_fewestFor_20 : decode cX2_fewestFor 20 = .ok (.getfield 9, 3) := by decide +kernel
theorem dX2_fewestFor_23 : decode cX2_fewestFor 23 = .ok (.iload_n 1, 1) := by decide +kernel
theorem dX2_fewestFor_24 : decode cX2_fewestFor 24 = .ok (.iload_n 3, 1) := by decide +kernel
theorem dX2_fewestFor_25 : decode cX2_fewestFor 25 = .ok (.iconst (-1), 1) := by decide +kernel
theorem dX2_fewestFor_26 : decode cX2_fewestFor 26 = .ok (.ixor, 1) := by decide +kernel
theorem dX2_fewestFor_27 : decode cX2_fewestFor 27 = .ok (.iand, 1) := by decide +kernel
theorem dX2_fewestFor_28 : decode cX2_fewestFor 28 = .ok (.iaload, 1) := by decide +kernel
theorem dX2_fewestFor_29 : decode cX2_fewestFor 29 = .ok (.iconst 1, 1) := by decide +kernel
theorem dX2_fewestFor_30 : decode cX2_fewestFor 30 = .ok (.iadd, 1) := by decide +kernel
theorem dX2_fewestFor_31 : decode cX2_fewestFor 31 = .ok (.invokestatic 65, 3) := by decide +kernel
theorem dX2_fewestFor_34 : decode cX2_fewestFor 34 = .ok (.istore_n 2, 1) := by decide +kernel
theorem dX2_fewestFor_35 : decode cX2_fewestFor 35 = .ok (.iload_n 3, 1) := by decide +kernel
theorem dX2_fewestFor_36 : decode cX2_fewestFor 36 = .ok (.iconst 1, 1) := by decide +kernel
theorem dX2_fewestFor_37 : decode cX2_fewestFor 37 = .ok (.isub, 1) := by decide +kernel
theorem dX2_fewestFor_38 : decode cX2_fewestFor 38 = .ok (.iload_n 1, 1) := by decide +kernel
theorem dX2_fewestFor_39 : decode cX2_fewestFor 39 = .ok (.iand, 1) := by decide +kernel
theorem dX2_fewestFor_40 : decode cX2_fewestFor 40 = .ok (.istore_n 3, 1) := by decide +kernel
theorem dX2_fewestFor_41 : decode cX2_fewestFor 41 = .ok (.goto (-36), 3) := by decide +kernel
theorem dX2_fewestFor_44 : decode cX2_fewestFor 44 = .ok (.iload_n 2, 1) := by decide +kernel
theorem dX2_fewestFor_45 : decode cX2_fewestFor 45 = .ok (.ireturn, 1) := by decide +kernel
set_option maxRecDepth 100000 in
set_option maxHeartbeats 4000000 in
theorem c_X2_fewestFor {l : Launch} {G : Gx} (hap : k_ap G shC.length) (v1 : Int32) (M0 : Mem) (r : Int32) (hf : f_X2_fewestFor v1 M0 = some r) : k_Met l yX2_fewestFor cX2_fewestFor 4 (some .int) 1 40 G shC [.ref (G.2.1 36), .int v1] M0 (k_Qi G shC r M0) := by
  refine k_Met_of (by decide) hap (Nat.le_of_ble_eq_true rfl) ?_
  intro p e s m args below meth c C hr hlk
  have C : Cx p s m args c cX2_fewestFor RX2 4 G shC := C
  have k_b5 : ∀ (n5 : Nat) (v1 : Int32) (v2 : Int32) (v3 : Int32), f_X2_fewestFor_b5 M0 n5 v1 v2 v3 = some r → K p l e (k_rm 1 40) s m args below meth c 4 G shC (MQ below (k_Qi G shC r M0) args s 0 0 (k_A G shC.length)) 5 [(0, .ref (G.2.1 36)), (1, .int v1), (2, .int v2), (3, .int v3)] [] M0 := by
    intro n5
    induction n5 with
    | zero => intro v1 v2 v3 hf; simp [f_X2_fewestFor_b5] at hf
    | succ n5 ih5 =>
      intro v1 v2 v3 hf
      unfold f_X2_fewestFor_b5 at hf
      refine k_iload_n C dX2_fewestFor_5 3 rfl ?_
      rcases ite_g hf with ⟨c1, hf⟩ | ⟨c1, hf⟩
      · refine k_if_le_t C dX2_fewestFor_6 (tgt := 44) (by decide) c1 ?_
        refine k_iload_n C dX2_fewestFor_44 2 rfl ?_
        exact k_iret C hr hlk (Option.some.inj hf) rfl dX2_fewestFor_45
      · refine k_if_le_f C dX2_fewestFor_6 (tgt := 44) (by decide) c1 ?_
        refine k_aload_n C dX2_fewestFor_9 0 rfl ?_
        refine k_getr C shC_36 (j := 3) rfl FL_X2_15 dX2_fewestFor_10 ?_
        refine k_iload_n C dX2_fewestFor_13 3 rfl ?_
        obtain ⟨t2, ht2, hf⟩ := bnd hf
        refine k_zald C shC_38 ht2 dX2_fewestFor_14 ?_
        rcases ite_g hf with ⟨c3, hf⟩ | ⟨c3, hf⟩
        · refine k_if_eq_t C dX2_fewestFor_15 (tgt := 35) (by decide) c3 ?_
          refine k_iload_n C dX2_fewestFor_35 3 rfl ?_
          refine k_iconst C dX2_fewestFor_36 (v := (1 : Int32)) rfl ?_
          refine k_isub C dX2_fewestFor_37 ?_
          refine k_iload_n C dX2_fewestFor_38 1 rfl ?_
          refine k_iand C dX2_fewestFor_39 ?_
          refine k_istore_n C dX2_fewestFor_40 (by decide) [1, 2, 3, 0] (lv' := [(0, .ref (G.2.1 36)), (1, .int v1), (2, .int v2), (3, .int ((v3 - (1 : Int32)) &&& v1))]) rfl ?_
          refine k_goto C dX2_fewestFor_41 (tgt := 5) (by decide) ?_
          exact ih5 v1 v2 ((v3 - (1 : Int32)) &&& v1) hf
        · refine k_if_eq_f C dX2_fewestFor_15 (tgt := 35) (by decide) c3 ?_
          refine k_iload_n C dX2_fewestFor_18 2 rfl ?_
          refine k_aload_n C dX2_fewestFor_19 0 rfl ?_
          refine k_getr C shC_36 (j := 2) rfl FL_X2_9 dX2_fewestFor_20 ?_
          refine k_iload_n C dX2_fewestFor_23 1 rfl ?_
          refine k_iload_n C dX2_fewestFor_24 3 rfl ?_
          refine k_iconst C dX2_fewestFor_25 (v := (-1 : Int32)) rfl ?_
          refine k_ixor C dX2_fewestFor_26 ?_
          refine k_iand C dX2_fewestFor_27 ?_
          obtain ⟨t4, ht4, hf⟩ := bnd hf
          refine k_iald C shC_37 ht4 dX2_fewestFor_28 ?_
          refine k_iconst C dX2_fewestFor_29 (v := (1 : Int32)) rfl ?_
          refine k_iadd C dX2_fewestFor_30 ?_
          refine k_min C W_min wd_783 ⟨Nat.le_of_ble_eq_true rfl, Nat.le_of_ble_eq_true rfl⟩ dX2_fewestFor_31 ?_
          refine k_istore_n C dX2_fewestFor_34 (by decide) [1, 2, 0, 3] (lv' := [(0, .ref (G.2.1 36)), (1, .int v1), (2, .int (mnI v2 (t4 + (1 : Int32)))), (3, .int v3)]) rfl ?_
          refine k_iload_n C dX2_fewestFor_35 3 rfl ?_
          refine k_iconst C dX2_fewestFor_36 (v := (1 : Int32)) rfl ?_
          refine k_isub C dX2_fewestFor_37 ?_
          refine k_iload_n C dX2_fewestFor_38 1 rfl ?_
          refine k_iand C dX2_fewestFor_39 ?_
          refine k_istore_n C dX2_fewestFor_40 (by decide) [1, 2, 3, 0] (lv' := [(0, .ref (G.2.1 36)), (1, .int v1), (2, .int (mnI v2 (t4 + (1 : Int32)))), (3, .int ((v3 - (1 : Int32)) &&& v1))]) rfl ?_
          refine k_goto C dX2_fewestFor_41 (tgt := 5) (by decide) ?_
          exact ih5 v1 (mnI v2 (t4 + (1 : Int32))) ((v3 - (1 : Int32)) &&& v1) hf
  unfold f_X2_fewestFor at hf
  refine k_lv (lv' := [(0, .ref (G.2.1 36)), (1, .int v1)]) [0, 1] rfl ?_
  refine k_bipush C dX2_fewestFor_0 (v := (8 : Int32)) rfl ?_
  refine k_istore_n C dX2_fewestFor_2 (by decide) [1, 2, 0] (lv' := [(0, .ref (G.2.1 36)), (1, .int v1), (2, .int (8 : Int32))]) rfl ?_
  refine k_iload_n C dX2_fewestFor_3 1 rfl ?_
  refine k_istore_n C dX2_fewestFor_4 (by decide) [1, 2, 3, 0] (lv' := [(0, .ref (G.2.1 36)), (1, .int v1), (2, .int (8 : Int32)), (3, .int v1)]) rfl ?_
  exact k_b5 FU v1 (8 : Int32) v1 hf
theorem dX2_fewestPeople_0 : decode cX2_fewestPeople 0 = .ok (.aload_n 0, 1) := by decide +kernel
theorem dX2_fewestPeople_1 : decode cX2_fewestPeople 1 = .ok (.getfield 30, 3) := by decide +kernel
theorem dX2_fewestPeople_4 : decode cX2_fewestPeople 4 = .ok (.invokevirtual 45, 3) := by decide +kernel
theorem dX2_fewestPeople_7 : decode cX2_fewestPeople 7 = .ok (.aload_n 0, 1) := by decide +kernel
theorem dX2_fewestPeople_8 : decode cX2_fewestPeople 8 = .ok (.getfield 9, 3) := by decide +kernel
theorem dX2_fewestPeople_11 : decode cX2_fewestPeople 11 = .ok (.iconst 0, 1) := by decide +kernel
theorem dX2_fewestPeople_12 : decode cX2_fewestPeople 12 = .ok (.iconst 0, 1) := by decide +kernel
theorem dX2_fewestPeople_13 : decode cX2_fewestPeople 13 = .ok (.iastore, 1) := by decide +kernel
theorem dX2_fewestPeople_14 : decode cX2_fewestPeople 14 = .ok (.iconst 1, 1) := by decide +kernel
theorem dX2_fewestPeople_15 : decode cX2_fewestPeople 15 = .ok (.istore_n 1, 1) := by decide +kernel
theorem dX2_fewestPeople_16 : decode cX2_fewestPeople 16 = .ok (.iload_n 1, 1) := by decide +kernel
theorem dX2_fewestPeople_17 : decode cX2_fewestPeople 17 = .ok (.aload_n 0, 1) := by decide +kernel
theorem dX2_fewestPeople_18 : decode cX2_fewestPeople 18 = .ok (.invokevirtual 48, 3) := by decide +kernel
theorem dX2_fewestPeople_21 : decode cX2_fewestPeople 21 = .ok (.if_icmp .ge 31, 3) := by decide +kernel
theorem dX2_fewestPeople_24 : decode cX2_fewestPeople 24 = .ok (.aload_n 0, 1) := by decide +kernel
theorem dX2_fewestPeople_25 : decode cX2_fewestPeople 25 = .ok (.getfield 15, 3) := by decide +kernel
theorem dX2_fewestPeople_28 : decode cX2_fewestPeople 28 = .ok (.iload_n 1, 1) := by decide +kernel
theorem dX2_fewestPeople_29 : decode cX2_fewestPeople 29 = .ok (.aload_n 0, 1) := by decide +kernel
theorem dX2_fewestPeople_30 : decode cX2_fewestPeople 30 = .ok (.iload_n 1, 1) := by decide +kernel
theorem dX2_fewestPeople_31 : decode cX2_fewestPeople 31 = .ok (.invokevirtual 58, 3) := by decide +kernel
theorem dX2_fewestPeople_34 : decode cX2_fewestPeople 34 = .ok (.bastore, 1) := by decide +kernel
theorem dX2_fewestPeople_35 : decode cX2_fewestPeople 35 = .ok (.aload_n 0, 1) := by decide +kernel
theorem dX2_fewestPeople_36 : decode cX2_fewestPeople 36 = .ok (.getfield 9, 3) := by decide +kernel
theorem dX2_fewestPeople_39 : decode cX2_fewestPeople 39 = .ok (.iload_n 1, 1) := by decide +kernel
theorem dX2_fewestPeople_40 : decode cX2_fewestPeople 40 = .ok (.aload_n 0, 1) := by decide +kernel
theorem dX2_fewestPeople_41 : decode cX2_fewestPeople 41 = .ok (.iload_n 1, 1) := by decide +kernel
theorem dX2_fewestPeople_42 : decode cX2_fewestPeople 42 = .ok (.invokevirtual 62, 3) := by decide +kernel
theorem dX2_fewestPeople_45 : decode cX2_fewestPeople 45 = .ok (.iastore, 1) := by decide +kernel
theorem dX2_fewestPeople_46 : decode cX2_fewestPeople 46 = .ok (.iinc 1 1, 3) := by decide +kernel
theorem dX2_fewestPeople_49 : decode cX2_fewestPeople 49 = .ok (.goto (-33), 3) := by decide +kernel
theorem dX2_fewestPeople_52 : decode cX2_fewestPeople 52 = .ok (.aload_n 0, 1) := by decide +kernel
theorem dX2_fewestPeople_53 : decode cX2_fewestPeople 53 = .ok (.getfield 9, 3) := by decide +kernel
theorem dX2_fewestPeople_56 : decode cX2_fewestPeople 56 = .ok (.aload_n 0, 1) := by decide +kernel
theorem dX2_fewestPeople_57 : decode cX2_fewestPeople 57 = .ok (.invokevirtual 48, 3) := by decide +kernel
theorem dX2_fewestPeople_60 : decode cX2_fewestPeople 60 = .ok (.iconst 1, 1) := by decide +kernel
theorem dX2_fewestPeople_61 : decode cX2_fewestPeople 61 = .ok (.isub, 1) := by decide +kernel
theorem dX2_fewestPeople_62 : decode cX2_fewestPeople 62 = .ok (.iaload, 1) := by decide +kernel
theorem dX2_fewestPeople_63 : decode cX2_fewestPeople 63 = .ok (.ireturn, 1) := by decide +kernel
set_option maxRecDepth 100000 in
set_option maxHeartbeats 4000000 in
theorem c_X2_fewestPeople {l : Launch} {G : Gx} (hap : k_ap G shC.length) (M0 : Mem) (r : Int32 × Mem) (hf : f_X2_fewestPeople M0 = some r) : k_Met l yX2_fewestPeople cX2_fewestPeople 2 (some .int) 4 88 G shC [.ref (G.2.1 36)] M0 (k_Qi G shC r.1 r.2) := by
  refine k_Met_of (by decide) hap (Nat.le_of_ble_eq_true rfl) ?_
  intro p e s m args below meth c C hr hlk
  have C : Cx p s m args c cX2_fewestPeople RX2 2 G shC := C
  have k_b16 : ∀ (n16 : Nat) (v1 : Int32) (M : Mem), f_X2_fewestPeople_b16 n16 v1 M = some r → K p l e (k_rm 4 88) s m args below meth c 2 G shC (MQ below (k_Qi G shC r.1 r.2) args s 0 0 (k_A G shC.length)) 16 [(0, .ref (G.2.1 36)), (1, .int v1)] [] M := by
    intro n16
    induction n16 with
    | zero => intro v1 M hf; simp [f_X2_fewestPeople_b16] at hf
    | succ n16 ih16 =>
      intro v1 M hf
      unfold f_X2_fewestPeople_b16 at hf
      refine k_iload_n C dX2_fewestPeople_16 1 rfl ?_
      refine k_aload_n C dX2_fewestPeople_17 0 rfl ?_
      refine k_callVi C (As := []) (c_X2_sets hap M _ rfl) ML_X2_sets wd_762 shC_36 rfl rfl rfl ⟨Nat.le_of_ble_eq_true rfl, Nat.le_of_ble_eq_true rfl⟩ (Nat.le_of_ble_eq_true rfl) dX2_fewestPeople_18 ?_
      rcases ite_g hf with ⟨c4, hf⟩ | ⟨c4, hf⟩
      · refine k_icmp_ge_t C dX2_fewestPeople_21 (tgt := 52) (by decide) c4 ?_
        refine k_aload_n C dX2_fewestPeople_52 0 rfl ?_
        refine k_getr C shC_36 (j := 2) rfl FL_X2_9 dX2_fewestPeople_53 ?_
        refine k_aload_n C dX2_fewestPeople_56 0 rfl ?_
        refine k_callVi C (As := []) (c_X2_sets hap M _ rfl) ML_X2_sets wd_762 shC_36 rfl rfl rfl ⟨Nat.le_of_ble_eq_true rfl, Nat.le_of_ble_eq_true rfl⟩ (Nat.le_of_ble_eq_true rfl) dX2_fewestPeople_57 ?_
        refine k_iconst C dX2_fewestPeople_60 (v := (1 : Int32)) rfl ?_
        refine k_isub C dX2_fewestPeople_61 ?_
        obtain ⟨t5, ht5, hf⟩ := bnd hf
        refine k_iald C shC_37 ht5 dX2_fewestPeople_62 ?_
        exact k_iret C hr hlk (prf hf) (prs hf) dX2_fewestPeople_63
      · refine k_icmp_ge_f C dX2_fewestPeople_21 (tgt := 52) (by decide) c4 ?_
        refine k_aload_n C dX2_fewestPeople_24 0 rfl ?_
        refine k_getr C shC_36 (j := 3) rfl FL_X2_15 dX2_fewestPeople_25 ?_
        refine k_iload_n C dX2_fewestPeople_28 1 rfl ?_
        refine k_aload_n C dX2_fewestPeople_29 0 rfl ?_
        refine k_iload_n C dX2_fewestPeople_30 1 rfl ?_
        obtain ⟨t6, ht6, hf⟩ := bnd hf
        refine k_callVi C (As := [.int v1]) (c_X2_areApart hap v1 M t6 ht6) ML_X2_areApart wd_767 shC_36 rfl rfl rfl ⟨Nat.le_of_ble_eq_true rfl, Nat.le_of_ble_eq_true rfl⟩ (Nat.le_of_ble_eq_true rfl) dX2_fewestPeople_31 ?_
        obtain ⟨M7, hM7, hf⟩ := bnd hf
        refine k_zast C shC_38 hM7 dX2_fewestPeople_34 ?_
        refine k_aload_n C dX2_fewestPeople_35 0 rfl ?_
        refine k_getr C shC_36 (j := 2) rfl FL_X2_9 dX2_fewestPeople_36 ?_
        refine k_iload_n C dX2_fewestPeople_39 1 rfl ?_
        refine k_aload_n C dX2_fewestPeople_40 0 rfl ?_
        refine k_iload_n C dX2_fewestPeople_41 1 rfl ?_
        obtain ⟨t8, ht8, hf⟩ := bnd hf
        refine k_callVi C (As := [.int v1]) (c_X2_fewestFor hap v1 M7 t8 ht8) ML_X2_fewestFor wd_779 shC_36 rfl rfl rfl ⟨Nat.le_of_ble_eq_true rfl, Nat.le_of_ble_eq_true rfl⟩ (Nat.le_of_ble_eq_true rfl) dX2_fewestPeople_42 ?_
        obtain ⟨M9, hM9, hf⟩ := bnd hf
        refine k_iast C shC_37 hM9 dX2_fewestPeople_45 ?_
        refine k_iinc C dX2_fewestPeople_46 1 rfl (v := (v1 + (1 : Int32))) rfl (by decide) [1, 0] (lv' := [(0, .ref (G.2.1 36)), (1, .int (v1 + (1 : Int32)))]) rfl ?_
        refine k_goto C dX2_fewestPeople_49 (tgt := 16) (by decide) ?_
        exact ih16 (v1 + (1 : Int32)) M9 hf
  unfold f_X2_fewestPeople at hf
  refine k_lv (lv' := [(0, .ref (G.2.1 36))]) [0] rfl ?_
  refine k_aload_n C dX2_fewestPeople_0 0 rfl ?_
  refine k_getr C shC_36 (j := 1) rfl FL_X2_30 dX2_fewestPeople_1 ?_
  obtain ⟨M1, hM1, hf⟩ := bnd hf
  refine k_callVv C (As := []) (c_X8_open hap M0 M1 hM1) ML_X8_open wd_761 shC_25 rfl rfl rfl ⟨Nat.le_of_ble_eq_true rfl, Nat.le_of_ble_eq_true rfl⟩ (Nat.le_of_ble_eq_true rfl) dX2_fewestPeople_4 ?_
  refine k_aload_n C dX2_fewestPeople_7 0 rfl ?_
  refine k_getr C shC_36 (j := 2) rfl FL_X2_9 dX2_fewestPeople_8 ?_
  refine k_iconst C dX2_fewestPeople_11 (v := (0 : Int32)) rfl ?_
  refine k_iconst C dX2_fewestPeople_12 (v := (0 : Int32)) rfl ?_
  obtain ⟨M2, hM2, hf⟩ := bnd hf
  refine k_iast C shC_37 hM2 dX2_fewestPeople_13 ?_
  refine k_iconst C dX2_fewestPeople_14 (v := (1 : Int32)) rfl ?_
  refine k_istore_n C dX2_fewestPeople_15 (by decide) [1, 0] (lv' := [(0, .ref (G.2.1 36)), (1, .int (1 : Int32))]) rfl ?_
  exact k_b16 FU (1 : Int32) M2 hf
theorem dX2_tiesOf_0 : decode cX2_tiesOf 0 = .ok (.aload_n 0, 1) := by decide +kernel
theorem dX2_tiesOf_1 : decode cX2_tiesOf 1 = .ok (.getfield 30, 3) := by decide +kernel
theorem dX2_tiesOf_4 : decode cX2_tiesOf 4 = .ok (.getfield 40, 3) := by decide +kernel
theorem dX2_tiesOf_7 : decode cX2_tiesOf 7 = .ok (.iload_n 1, 1) := by decide +kernel
theorem dX2_tiesOf_8 : decode cX2_tiesOf 8 = .ok (.iaload, 1) := by decide +kernel
theorem dX2_tiesOf_9 : decode cX2_tiesOf 9 = .ok (.invokestatic 52, 3) := by decide +kernel
theorem dX2_tiesOf_12 : decode cX2_tiesOf 12 = .ok (.iconst 1, 1) := by decide +kernel
theorem dX2_tiesOf_13 : decode cX2_tiesOf 13 = .ok (.isub, 1) := by decide +kernel
theorem dX2_tiesOf_14 : decode cX2_tiesOf 14 = .ok (.ireturn, 1) := by decide +kernel
set_option maxRecDepth 100000 in
set_option maxHeartbeats 4000000 in
theorem c_X2_tiesOf {l : Launch} {G : Gx} (hap : k_ap G shC.length) (v1 : Int32) (M0 : Mem) (r : Int32) (hf : f_X2_tiesOf v1 M0 = some r) : k_Met l yX2_tiesOf cX2_tiesOf 2 (some .int) 1 20 G shC [.ref (G.2.1 36), .int v1] M0 (k_Qi G shC r M0) := by
  refine k_Met_of (by decide) hap (Nat.le_of_ble_eq_true rfl) ?_
  intro p e s m args below meth c C hr hlk
  have C : Cx p s m args c cX2_tiesOf RX2 2 G shC := C
  unfold f_X2_tiesOf at hf
  refine k_lv (lv' := [(0, .ref (G.2.1 36)), (1, .int v1)]) [0, 1] rfl ?_
  refine k_aload_n C dX2_tiesOf_0 0 rfl ?_
  refine k_getr C shC_36 (j := 1) rfl FL_X2_30 dX2_tiesOf_1 ?_
  refine k_getr C shC_25 (j := 1) rfl FL_X2_40 dX2_tiesOf_4 ?_
  refine k_iload_n C dX2_tiesOf_7 1 rfl ?_
  obtain ⟨t1, ht1, hf⟩ := bnd hf
  refine k_iald C shC_26 ht1 dX2_tiesOf_8 ?_
  refine k_callSi C (As := [.int t1]) (c_J6_bitCount_0f7a4 hap t1 M0 _ rfl) MS_J6_bitCount_0f7a4 wd_766 rfl rfl ⟨Nat.le_of_ble_eq_true rfl, Nat.le_of_ble_eq_true rfl⟩ (Nat.le_of_ble_eq_true rfl) dX2_tiesOf_9 ?_
  refine k_iconst C dX2_tiesOf_12 (v := (1 : Int32)) rfl ?_
  refine k_isub C dX2_tiesOf_13 ?_
  exact k_iret C hr hlk (Option.some.inj hf) rfl dX2_tiesOf_14
theorem dX2_likesOf_0 : decode cX2_likesOf 0 = .ok (.aload_n 0, 1) := by decide +kernel
theorem dX2_likesOf_1 : decode cX2_likesOf 1 = .ok (.getfield 30, 3) := by decide +kernel
theorem dX2_likesOf_4 : decode cX2_likesOf 4 = .ok (.invokevirtual 45, 3) := by decide +kernel
theorem dX2_likesOf_7 : decode cX2_likesOf 7 = .ok (.aload_n 0, 1) := by decide +kernel
theorem dX2_likesOf_8 : decode cX2_likesOf 8 = .ok (.iload_n 1, 1) := by decide +kernel
theorem dX2_likesOf_9 : decode cX2_likesOf 9 = .ok (.invokevirtual 71, 3) := by decide +kernel
theorem dX2_likesOf_12 : decode cX2_likesOf 12 = .ok (.ireturn, 1) := by decide +kernel
set_option maxRecDepth 100000 in
set_option maxHeartbeats 4000000 in
theorem c_X2_likesOf {l : Launch} {G : Gx} (hap : k_ap G shC.length) (v1 : Int32) (M0 : Mem) (r : Int32 × Mem) (hf : f_X2_likesOf v1 M0 = some r) : k_Met l yX2_likesOf cX2_likesOf 2 (some .int) 4 88 G shC [.ref (G.2.1 36), .int v1] M0 (k_Qi G shC r.1 r.2) := by
  refine k_Met_of (by decide) hap (Nat.le_of_ble_eq_true rfl) ?_
  intro p e s m args below meth c C hr hlk
  have C : Cx p s m args c cX2_likesOf RX2 2 G shC := C
  unfold f_X2_likesOf at hf
  refine k_lv (lv' := [(0, .ref (G.2.1 36)), (1, .int v1)]) [0, 1] rfl ?_
  refine k_aload_n C dX2_likesOf_0 0 rfl ?_
  refine k_getr C shC_36 (j := 1) rfl FL_X2_30 dX2_likesOf_1 ?_
  obtain ⟨M1, hM1, hf⟩ := bnd hf
  refine k_callVv C (As := []) (c_X8_open hap M0 M1 hM1) ML_X8_open wd_761 shC_25 rfl rfl rfl ⟨Nat.le_of_ble_eq_true rfl, Nat.le_of_ble_eq_true rfl⟩ (Nat.le_of_ble_eq_true rfl) dX2_likesOf_4 ?_
  refine k_aload_n C dX2_likesOf_7 0 rfl ?_
  refine k_iload_n C dX2_likesOf_8 1 rfl ?_
  obtain ⟨t2, ht2, hf⟩ := bnd hf
  refine k_callVi C (As := [.int v1]) (c_X2_tiesOf hap v1 M1 t2 ht2) ML_X2_tiesOf wd_792 shC_36 rfl rfl rfl ⟨Nat.le_of_ble_eq_true rfl, Nat.le_of_ble_eq_true rfl⟩ (Nat.le_of_ble_eq_true rfl) dX2_likesOf_9 ?_
  exact k_iret C hr hlk (prf hf) (prs hf) dX2_likesOf_12
theorem dX2_withMostLikes_0 : decode cX2_withMostLikes 0 = .ok (.aload_n 0, 1) := by decide +kernel
theorem dX2_withMostLikes_1 : decode cX2_withMostLikes 1 = .ok (.getfield 30, 3) := by decide +kernel
theorem dX2_withMostLikes_4 : decode cX2_withMostLikes 4 = .ok (.invokevirtual 45, 3) := by decide +kernel
theorem dX2_withMostLikes_7 : decode cX2_withMostLikes 7 = .ok (.bipush (-9), 2) := by decide +kernel
theorem dX2_withMostLikes_9 : decode cX2_withMostLikes 9 = .ok (.istore_n 1, 1) := by decide +kernel
theorem dX2_withMostLikes_10 : decode cX2_withMostLikes 10 = .ok (.iconst (-1), 1) := by decide +kernel
theorem dX2_withMostLikes_11 : decode cX2_withMostLikes 11 = .ok (.istore_n 2, 1) := by decide +kernel
theorem dX2_withMostLikes_12 : decode cX2_withMostLikes 12 = .ok (.iconst 0, 1) := by decide +kernel
theorem dX2_withMostLikes_13 : decode cX2_withMostLikes 13 = .ok (.istore_n 3, 1) := by decide +kernel
theorem dX2_withMostLikes_14 : decode cX2_withMostLikes 14 = .ok (.iload_n 3, 1) := by decide +kernel
theorem dX2_withMostLikes_15 : decode cX2_withMostLikes 15 = .ok (.aload_n 0, 1) := by decide +kernel
theorem dX2_withMostLikes_16 : decode cX2_withMostLikes 16 = .ok (.getfield 26, 3) := by decide +kernel
theorem dX2_withMostLikes_19 : decode cX2_withMostLikes 19 = .ok (.getfield 34, 3) := by decide +kernel
theorem dX2_withMostLikes_22 : decode cX2_withMostLikes 22 = .ok (.if_icmp .ge 27, 3) := by decide +kernel
theorem dX2_withMostLikes_25 : decode cX2_withMostLikes 25 = .ok (.aload_n 0, 1) := by decide +kernel
theorem dX2_withMostLikes_26 : decode cX2_withMostLikes 26 = .ok (.iload_n 3, 1) := by decide +kernel
theorem dX2_withMostLikes_27 : decode cX2_withMostLikes 27 = .ok (.invokevirtual 71, 3) := by decide +kernel
theorem dX2_withMostLikes_30 : decode cX2_withMostLikes 30 = .ok (.istore 4, 2) := by decide +kernel
theorem dX2_withMostLikes_32 : decode cX2_withMostLikes 32 = .ok (.iload 4, 2) := by decide +kernel
theorem dX2_withMostLikes_34 : decode cX2_withMostLikes 34 = .ok (.iload_n 2, 1) := by decide +kernel
theorem dX2_withMostLikes_35 : decode cX2_withMostLikes 35 = .ok (.if_icmp .le 8, 3) := by decide +kernel
theorem dX2_withMostLikes_38 : decode cX2_withMostLikes 38 = .ok (.iload 4, 2) := by decide +kernel
theorem dX2_withMostLikes_40 : decode cX2_withMostLikes 40 = .ok (.istore_n 2, 1) := by decide +kernel
theorem dX2_withMostLikes_41 : decode cX2_withMostLikes 41 = .ok (.iload_n 3, 1) := by decide +kernel
theorem dX2_withMostLikes_42 : decode cX2_withMostLikes 42 = .ok (.istore_n 1, 1) := by decide +kernel
theorem dX2_withMostLikes_43 : decode cX2_withMostLikes 43 = .ok (.iinc 3 1, 3) := by decide +kernel
theorem dX2_withMostLikes_46 : decode cX2_withMostLikes 46 = .ok (.goto (-32), 3) := by decide +kernel
theorem dX2_withMostLikes_49 : decode cX2_withMostLikes 49 = .ok (.iload_n 1, 1) := by decide +kernel
theorem dX2_withMostLikes_50 : decode cX2_withMostLikes 50 = .ok (.ireturn, 1) := by decide +kernel
set_option maxRecDepth 100000 in
set_option maxHeartbeats 4000000 in
theorem c_X2_withMostLikes {l : Launch} {G : Gx} (hap : k_ap G shC.length) (M0 : Mem) (r : Int32 × Mem) (hf : f_X2_withMostLikes M0 = some r) : k_Met l yX2_withMostLikes cX2_withMostLikes 5 (some .int) 4 88 G shC [.ref (G.2.1 36)] M0 (k_Qi G shC r.1 r.2) := by
  refine k_Met_of (by decide) hap (Nat.le_of_ble_eq_true rfl) ?_
  intro p e s m args below meth c C hr hlk
  have C : Cx p s m args c cX2_withMostLikes RX2 5 G shC := C
  have k_b14 : ∀ (n14 : Nat) (v1 : Int32) (v2 : Int32) (v3 : Int32) (M : Mem), f_X2_withMostLikes_b14 n14 v1 v2 v3 M = some r → K p l e (k_rm 4 88) s m args below meth c 5 G shC (MQ below (k_Qi G shC r.1 r.2) args s 0 0 (k_A G shC.length)) 14 [(0, .ref (G.2.1 36)), (1, .int v1), (2, .int v2), (3, .int v3)] [] M := by
    intro n14
    induction n14 with
    | zero => intro v1 v2 v3 M hf; simp [f_X2_withMostLikes_b14] at hf
    | succ n14 ih14 =>
      intro v1 v2 v3 M hf
      unfold f_X2_withMostLikes_b14 at hf
      refine k_iload_n C dX2_withMostLikes_14 3 rfl ?_
      refine k_aload_n C dX2_withMostLikes_15 0 rfl ?_
      refine k_getr C shC_36 (j := 0) rfl FL_X2_26 dX2_withMostLikes_16 ?_
      refine k_geti C shC_1 (j := 4) rfl FL_X2_34 dX2_withMostLikes_19 ?_
      rcases ite_g hf with ⟨c3, hf⟩ | ⟨c3, hf⟩
      · refine k_icmp_ge_t C dX2_withMostLikes_22 (tgt := 49) (by decide) c3 ?_
        refine k_iload_n C dX2_withMostLikes_49 1 rfl ?_
        exact k_iret C hr hlk (prf hf) (prs hf) dX2_withMostLikes_50
      · refine k_icmp_ge_f C dX2_withMostLikes_22 (tgt := 49) (by decide) c3 ?_
        refine k_aload_n C dX2_withMostLikes_25 0 rfl ?_
        refine k_iload_n C dX2_withMostLikes_26 3 rfl ?_
        obtain ⟨t4, ht4, hf⟩ := bnd hf
        refine k_callVi C (As := [.int v3]) (c_X2_tiesOf hap v3 M t4 ht4) ML_X2_tiesOf wd_792 shC_36 rfl rfl rfl ⟨Nat.le_of_ble_eq_true rfl, Nat.le_of_ble_eq_true rfl⟩ (Nat.le_of_ble_eq_true rfl) dX2_withMostLikes_27 ?_
        refine k_istore C dX2_withMostLikes_30 (by decide) [1, 2, 3, 4, 0] (lv' := [(0, .ref (G.2.1 36)), (1, .int v1), (2, .int v2), (3, .int v3), (4, .int t4)]) rfl ?_
        refine k_iload C dX2_withMostLikes_32 4 rfl ?_
        refine k_iload_n C dX2_withMostLikes_34 2 rfl ?_
        rcases ite_g hf with ⟨c5, hf⟩ | ⟨c5, hf⟩
        · refine k_icmp_le_t C dX2_withMostLikes_35 (tgt := 43) (by decide) c5 ?_
          refine k_iinc C dX2_withMostLikes_43 3 rfl (v := (v3 + (1 : Int32))) rfl (by decide) [1, 2, 3, 0] (lv' := [(0, .ref (G.2.1 36)), (1, .int v1), (2, .int v2), (3, .int (v3 + (1 : Int32)))]) rfl ?_
          refine k_goto C dX2_withMostLikes_46 (tgt := 14) (by decide) ?_
          exact ih14 v1 v2 (v3 + (1 : Int32)) M hf
        · refine k_icmp_le_f C dX2_withMostLikes_35 (tgt := 43) (by decide) c5 ?_
          refine k_iload C dX2_withMostLikes_38 4 rfl ?_
          refine k_istore_n C dX2_withMostLikes_40 (by decide) [1, 0, 3] (lv' := [(0, .ref (G.2.1 36)), (2, .int t4), (3, .int v3)]) rfl ?_
          refine k_iload_n C dX2_withMostLikes_41 2 rfl ?_
          refine k_istore_n C dX2_withMostLikes_42 (by decide) [1, 0, 2, 3] (lv' := [(0, .ref (G.2.1 36)), (1, .int v3), (2, .int t4), (3, .int v3)]) rfl ?_
          refine k_iinc C dX2_withMostLikes_43 3 rfl (v := (v3 + (1 : Int32))) rfl (by decide) [1, 2, 3, 0] (lv' := [(0, .ref (G.2.1 36)), (1, .int v3), (2, .int t4), (3, .int (v3 + (1 : Int32)))]) rfl ?_
          refine k_goto C dX2_withMostLikes_46 (tgt := 14) (by decide) ?_
          exact ih14 v3 t4 (v3 + (1 : Int32)) M hf
  unfold f_X2_withMostLikes at hf
  refine k_lv (lv' := [(0, .ref (G.2.1 36))]) [0] rfl ?_
  refine k_aload_n C dX2_withMostLikes_0 0 rfl ?_
  refine k_getr C shC_36 (j := 1) rfl FL_X2_30 dX2_withMostLikes_1 ?_
  obtain ⟨M1, hM1, hf⟩ := bnd hf
  refine k_callVv C (As := []) (c_X8_open hap M0 M1 hM1) ML_X8_open wd_761 shC_25 rfl rfl rfl ⟨Nat.le_of_ble_eq_true rfl, Nat.le_of_ble_eq_true rfl⟩ (Nat.le_of_ble_eq_true rfl) dX2_withMostLikes_4 ?_
  refine k_bipush C dX2_withMostLikes_7 (v := (-9 : Int32)) rfl ?_
  refine k_istore_n C dX2_withMostLikes_9 (by decide) [1, 0] (lv' := [(0, .ref (G.2.1 36)), (1, .int (-9 : Int32))]) rfl ?_
  refine k_iconst C dX2_withMostLikes_10 (v := (-1 : Int32)) rfl ?_
  refine k_istore_n C dX2_withMostLikes_11 (by decide) [1, 2, 0] (lv' := [(0, .ref (G.2.1 36)), (1, .int (-9 : Int32)), (2, .int (-1 : Int32))]) rfl ?_
  refine k_iconst C dX2_withMostLikes_12 (v := (0 : Int32)) rfl ?_
  refine k_istore_n C dX2_withMostLikes_13 (by decide) [1, 2, 3, 0] (lv' := [(0, .ref (G.2.1 36)), (1, .int (-9 : Int32)), (2, .int (-1 : Int32)), (3, .int (0 : Int32))]) rfl ?_
  exact k_b14 FU (-9 : Int32) (-1 : Int32) (0 : Int32) M1 hf
theorem dX2_spread_0 : decode cX2_spread 0 = .ok (.iload_n 1, 1) := by decide +kernel
theorem dX2_spread_1 : decode cX2_spread 1 = .ok (.istore_n 2, 1) := by decide +kernel
theorem dX2_spread_2 : decode cX2_spread 2 = .ok (.iconst 0, 1) := by decide +kernel
theorem dX2_spread_3 : decode cX2_spread 3 = .ok (.istore_n 3, 1) := by decide +kernel
theorem dX2_spread_4 : decode cX2_spread 4 = .ok (.iload_n 3, 1) := by decide +kernel
theorem dX2_spread_5 : decode cX2_spread 5 = .ok (.aload_n 0, 1) := by decide +kernel
theorem dX2_spread_6 : decode cX2_spread 6 = .ok (.getfield 26, 3) := by decide +kernel
theorem dX2_spread_9 : decode cX2_spread 9 = .ok (.getfield 34, 3) := by decide +kernel
theorem dX2_spread_12 : decode cX2_spread 12 = .ok (.if_icmp .ge 29, 3) := by decide +kernel
theorem dX2_spread_15 : decode cX2_spread 15 = .ok (.iload_n 1, 1) := by decide +kernel
theorem dX2_spread_16 : decode cX2_spread 16 = .ok (.iload_n 3, 1) := by decide +kernel
theorem dX2_spread_17 : decode cX2_spread 17 = .ok (.ishr, 1) := by decide +kernel
theorem dX2_spread_18 : decode cX2_spread 18 = .ok (.iconst 1, 1) := by decide +kernel
theorem dX2_spread_19 : decode cX2_spread 19 = .ok (.iand, 1) := by decide +kernel
theorem dX2_spread_20 : decode cX2_spread 20 = .ok (.ifCond .eq 15, 3) := by decide +kernel
theorem dX2_spread_23 : decode cX2_spread 23 = .ok (.iload_n 2, 1) := by decide +kernel
theorem dX2_spread_24 : decode cX2_spread 24 = .ok (.aload_n 0, 1) := by decide +kernel
theorem dX2_spread_25 : decode cX2_spread 25 = .ok (.getfield 30, 3) := by decide +kernel
theorem dX2_spread_28 : decode cX2_spread 28 = .ok (.getfield 40, 3) := by decide +kernel
theorem dX2_spread_31 : decode cX2_spread 31 = .ok (.iload_n 3, 1) := by decide +kernel
theorem dX2_spread_32 : decode cX2_spread 32 = .ok (.iaload, 1) := by decide +kernel
theorem dX2_spread_33 : decode cX2_spread 33 = .ok (.ior, 1) := by decide +kernel
theorem dX2_spread_34 : decode cX2_spread 34 = .ok (.istore_n 2, 1) := by decide +kernel
theorem dX2_spread_35 : decode cX2_spread 35 = .ok (.iinc 3 1, 3) := by decide +kernel
theorem dX2_spread_38 : decode cX2_spread 38 = .ok (.goto (-34), 3) := by decide +kernel
theorem dX2_spread_41 : decode cX2_spread 41 = .ok (.iload_n 2, 1) := by decide +kernel
theorem dX2_spread_42 : decode cX2_spread 42 = .ok (.ireturn, 1) := by decide +kernel
set_option maxRecDepth 100000 in
set_option maxHeartbeats 4000000 in
theorem c_X2_spread {l : Launch} {G : Gx} (hap : k_ap G shC.length) (v1 : Int32) (M0 : Mem) (r : Int32) (hf : f_X2_spread v1 M0 = some r) : k_Met l yX2_spread cX2_spread 4 (some .int) 0 0 G shC [.ref (G.2.1 36), .int v1] M0 (k_Qi G shC r M0) := by
  refine k_Met_of (by decide) hap (Nat.le_of_ble_eq_true rfl) ?_
  intro p e s m args below meth c C hr hlk
  have C : Cx p s m args c cX2_spread RX2 4 G shC := C
  have k_b4 : ∀ (n4 : Nat) (v1 : Int32) (v2 : Int32) (v3 : Int32), f_X2_spread_b4 M0 n4 v1 v2 v3 = some r → K p l e (k_rm 0 0) s m args below meth c 4 G shC (MQ below (k_Qi G shC r M0) args s 0 0 (k_A G shC.length)) 4 [(0, .ref (G.2.1 36)), (1, .int v1), (2, .int v2), (3, .int v3)] [] M0 := by
    intro n4
    induction n4 with
    | zero => intro v1 v2 v3 hf; simp [f_X2_spread_b4] at hf
    | succ n4 ih4 =>
      intro v1 v2 v3 hf
      unfold f_X2_spread_b4 at hf
      refine k_iload_n C dX2_spread_4 3 rfl ?_
      refine k_aload_n C dX2_spread_5 0 rfl ?_
      refine k_getr C shC_36 (j := 0) rfl FL_X2_26 dX2_spread_6 ?_
      refine k_geti C shC_1 (j := 4) rfl FL_X2_34 dX2_spread_9 ?_
      rcases ite_g hf with ⟨c1, hf⟩ | ⟨c1, hf⟩
      · refine k_icmp_ge_t C dX2_spread_12 (tgt := 41) (by decide) c1 ?_
        refine k_iload_n C dX2_spread_41 2 rfl ?_
        exact k_iret C hr hlk (Option.some.inj hf) rfl dX2_spread_42
      · refine k_icmp_ge_f C dX2_spread_12 (tgt := 41) (by decide) c1 ?_
        refine k_iload_n C dX2_spread_15 1 rfl ?_
        refine k_iload_n C dX2_spread_16 3 rfl ?_
        refine k_ishrJ C dX2_spread_17 ?_
        refine k_iconst C dX2_spread_18 (v := (1 : Int32)) rfl ?_
        refine k_iand C dX2_spread_19 ?_
        rcases ite_g hf with ⟨c2, hf⟩ | ⟨c2, hf⟩
        · refine k_if_eq_t C dX2_spread_20 (tgt := 35) (by decide) c2 ?_
          refine k_iinc C dX2_spread_35 3 rfl (v := (v3 + (1 : Int32))) rfl (by decide) [1, 2, 3, 0] (lv' := [(0, .ref (G.2.1 36)), (1, .int v1), (2, .int v2), (3, .int (v3 + (1 : Int32)))]) rfl ?_
          refine k_goto C dX2_spread_38 (tgt := 4) (by decide) ?_
          exact ih4 v1 v2 (v3 + (1 : Int32)) hf
        · refine k_if_eq_f C dX2_spread_20 (tgt := 35) (by decide) c2 ?_
          refine k_iload_n C dX2_spread_23 2 rfl ?_
          refine k_aload_n C dX2_spread_24 0 rfl ?_
          refine k_getr C shC_36 (j := 1) rfl FL_X2_30 dX2_spread_25 ?_
          refine k_getr C shC_25 (j := 1) rfl FL_X2_40 dX2_spread_28 ?_
          refine k_iload_n C dX2_spread_31 3 rfl ?_
          obtain ⟨t3, ht3, hf⟩ := bnd hf
          refine k_iald C shC_26 ht3 dX2_spread_32 ?_
          refine k_ior C dX2_spread_33 ?_
          refine k_istore_n C dX2_spread_34 (by decide) [1, 2, 0, 3] (lv' := [(0, .ref (G.2.1 36)), (1, .int v1), (2, .int (v2 ||| t3)), (3, .int v3)]) rfl ?_
          refine k_iinc C dX2_spread_35 3 rfl (v := (v3 + (1 : Int32))) rfl (by decide) [1, 2, 3, 0] (lv' := [(0, .ref (G.2.1 36)), (1, .int v1), (2, .int (v2 ||| t3)), (3, .int (v3 + (1 : Int32)))]) rfl ?_
          refine k_goto C dX2_spread_38 (tgt := 4) (by decide) ?_
          exact ih4 v1 (v2 ||| t3) (v3 + (1 : Int32)) hf
  unfold f_X2_spread at hf
  refine k_lv (lv' := [(0, .ref (G.2.1 36)), (1, .int v1)]) [0, 1] rfl ?_
  refine k_iload_n C dX2_spread_0 1 rfl ?_
  refine k_istore_n C dX2_spread_1 (by decide) [1, 2, 0] (lv' := [(0, .ref (G.2.1 36)), (1, .int v1), (2, .int v1)]) rfl ?_
  refine k_iconst C dX2_spread_2 (v := (0 : Int32)) rfl ?_
  refine k_istore_n C dX2_spread_3 (by decide) [1, 2, 3, 0] (lv' := [(0, .ref (G.2.1 36)), (1, .int v1), (2, .int v1), (3, .int (0 : Int32))]) rfl ?_
  exact k_b4 FU v1 v1 (0 : Int32) hf
theorem dX2_shortestChain_0 : decode cX2_shortestChain 0 = .ok (.aload_n 0, 1) := by decide +kernel
theorem dX2_shortestChain_1 : decode cX2_shortestChain 1 = .ok (.getfield 30, 3) := by decide +kernel
theorem dX2_shortestChain_4 : decode cX2_shortestChain 4 = .ok (.invokevirtual 45, 3) := by decide +kernel
theorem dX2_shortestChain_7 : decode cX2_shortestChain 7 = .ok (.iconst 1, 1) := by decide +kernel
theorem dX2_shortestChain_8 : decode cX2_shortestChain 8 = .ok (.iload_n 1, 1) := by decide +kernel
theorem dX2_shortestChain_9 : decode cX2_shortestChain 9 = .ok (.ishl, 1) := by decide +kernel
theorem dX2_shortestChain_10 : decode cX2_shortestChain 10 = .ok (.istore_n 3, 1) := by decide +kernel
theorem dX2_shortestChain_11 : decode cX2_shortestChain 11 = .ok (.iconst 1, 1) := by decide +kernel
theorem dX2_shortestChain_12 : decode cX2_shortestChain 12 = .ok (.istore 4, 2) := by decide +kernel
theorem dX2_shortestChain_14 : decode cX2_shortestChain 14 = .ok (.iload 4, 2) := by decide +kernel
theorem dX2_shortestChain_16 : decode cX2_shortestChain 16 = .ok (.aload_n 0, 1) := by decide +kernel
theorem dX2_shortestChain_17 : decode cX2_shortestChain 17 = .ok (.getfield 26, 3) := by decide +kernel
theorem dX2_shortestChain_20 : decode cX2_shortestChain 20 = .ok (.getfield 34, 3) := by decide +kernel
theorem dX2_shortestChain_23 : decode cX2_shortestChain 23 = .ok (.if_icmp .gt 26, 3) := by decide +kernel
theorem dX2_shortestChain_26 : decode cX2_shortestChain 26 = .ok (.iload_n 3, 1) := by decide +kernel
theorem dX2_shortestChain_27 : decode cX2_shortestChain 27 = .ok (.iload_n 2, 1) := by decide +kernel
theorem dX2_shortestChain_28 : decode cX2_shortestChain 28 = .ok (.ishr, 1) := by decide +kernel
theorem dX2_shortestChain_29 : decode cX2_shortestChain 29 = .ok (.iconst 1, 1) := by decide +kernel
theorem dX2_shortestChain_30 : decode cX2_shortestChain 30 = .ok (.iand, 1) := by decide +kernel
theorem dX2_shortestChain_31 : decode cX2_shortestChain 31 = .ok (.ifCond .eq 6, 3) := by decide +kernel
theorem dX2_shortestChain_34 : decode cX2_shortestChain 34 = .ok (.iload 4, 2) := by decide +kernel
theorem dX2_shortestChain_36 : decode cX2_shortestChain 36 = .ok (.ireturn, 1) := by decide +kernel
theorem dX2_shortestChain_37 : decode cX2_shortestChain 37 = .ok (.aload_n 0, 1) := by decide +kernel
theorem dX2_shortestChain_38 : decode cX2_shortestChain 38 = .ok (.iload_n 3, 1) := by decide +kernel
theorem dX2_shortestChain_39 : decode cX2_shortestChain 39 = .ok (.invokevirtual 74, 3) := by decide +kernel
theorem dX2_shortestChain_42 : decode cX2_shortestChain 42 = .ok (.istore_n 3, 1) := by decide +kernel
theorem dX2_shortestChain_43 : decode cX2_shortestChain 43 = .ok (.iinc 4 1, 3) := by decide +kernel
theorem dX2_shortestChain_46 : decode cX2_shortestChain 46 = .ok (.goto (-32), 3) := by decide +kernel
theorem dX2_shortestChain_49 : decode cX2_shortestChain 49 = .ok (.bipush (-9), 2) := by decide +kernel
theorem dX2_shortestChain_51 : decode cX2_shortestChain 51 = .ok (.ireturn, 1) := by decide +kernel
set_option maxRecDepth 100000 in
set_option maxHeartbeats 4000000 in
theorem c_X2_shortestChain {l : Launch} {G : Gx} (hap : k_ap G shC.length) (v1 : Int32) (v2 : Int32) (M0 : Mem) (r : Int32 × Mem) (hf : f_X2_shortestChain v1 v2 M0 = some r) : k_Met l yX2_shortestChain cX2_shortestChain 5 (some .int) 4 88 G shC [.ref (G.2.1 36), .int v1, .int v2] M0 (k_Qi G shC r.1 r.2) := by
  refine k_Met_of (by decide) hap (Nat.le_of_ble_eq_true rfl) ?_
  intro p e s m args below meth c C hr hlk
  have C : Cx p s m args c cX2_shortestChain RX2 5 G shC := C
  have k_b14 : ∀ (n14 : Nat) (v2 : Int32) (v3 : Int32) (v4 : Int32) (M : Mem), f_X2_shortestChain_b14 n14 v2 v3 v4 M = some r → K p l e (k_rm 4 88) s m args below meth c 5 G shC (MQ below (k_Qi G shC r.1 r.2) args s 0 0 (k_A G shC.length)) 14 [(0, .ref (G.2.1 36)), (2, .int v2), (3, .int v3), (4, .int v4)] [] M := by
    intro n14
    induction n14 with
    | zero => intro v2 v3 v4 M hf; simp [f_X2_shortestChain_b14] at hf
    | succ n14 ih14 =>
      intro v2 v3 v4 M hf
      unfold f_X2_shortestChain_b14 at hf
      refine k_iload C dX2_shortestChain_14 3 rfl ?_
      refine k_aload_n C dX2_shortestChain_16 0 rfl ?_
      refine k_getr C shC_36 (j := 0) rfl FL_X2_26 dX2_shortestChain_17 ?_
      refine k_geti C shC_1 (j := 4) rfl FL_X2_34 dX2_shortestChain_20 ?_
      rcases ite_g hf with ⟨c2, hf⟩ | ⟨c2, hf⟩
      · refine k_icmp_gt_t C dX2_shortestChain_23 (tgt := 49) (by decide) c2 ?_
        refine k_bipush C dX2_shortestChain_49 (v := (-9 : Int32)) rfl ?_
        exact k_iret C hr hlk (prf hf) (prs hf) dX2_shortestChain_51
      · refine k_icmp_gt_f C dX2_shortestChain_23 (tgt := 49) (by decide) c2 ?_
        refine k_iload_n C dX2_shortestChain_26 2 rfl ?_
        refine k_iload_n C dX2_shortestChain_27 1 rfl ?_
        refine k_ishrJ C dX2_shortestChain_28 ?_
        refine k_iconst C dX2_shortestChain_29 (v := (1 : Int32)) rfl ?_
        refine k_iand C dX2_shortestChain_30 ?_
        rcases ite_g hf with ⟨c3, hf⟩ | ⟨c3, hf⟩
        · refine k_if_eq_t C dX2_shortestChain_31 (tgt := 37) (by decide) c3 ?_
          refine k_aload_n C dX2_shortestChain_37 0 rfl ?_
          refine k_iload_n C dX2_shortestChain_38 2 rfl ?_
          obtain ⟨t4, ht4, hf⟩ := bnd hf
          refine k_callVi C (As := [.int v3]) (c_X2_spread hap v3 M t4 ht4) ML_X2_spread wd_1031 shC_36 rfl rfl rfl ⟨Nat.le_of_ble_eq_true rfl, Nat.le_of_ble_eq_true rfl⟩ (Nat.le_of_ble_eq_true rfl) dX2_shortestChain_39 ?_
          refine k_istore_n C dX2_shortestChain_42 (by decide) [1, 2, 0, 3] (lv' := [(0, .ref (G.2.1 36)), (2, .int v2), (3, .int t4), (4, .int v4)]) rfl ?_
          refine k_iinc C dX2_shortestChain_43 3 rfl (v := (v4 + (1 : Int32))) rfl (by decide) [1, 2, 3, 0] (lv' := [(0, .ref (G.2.1 36)), (2, .int v2), (3, .int t4), (4, .int (v4 + (1 : Int32)))]) rfl ?_
          refine k_goto C dX2_shortestChain_46 (tgt := 14) (by decide) ?_
          exact ih14 v2 t4 (v4 + (1 : Int32)) M hf
        · refine k_if_eq_f C dX2_shortestChain_31 (tgt := 37) (by decide) c3 ?_
          refine k_iload C dX2_shortestChain_34 3 rfl ?_
          exact k_iret C hr hlk (prf hf) (prs hf) dX2_shortestChain_36
  unfold f_X2_shortestChain at hf
  refine k_lv (lv' := [(0, .ref (G.2.1 36)), (1, .int v1), (2, .int v2)]) [0, 1, 2] rfl ?_
  refine k_aload_n C dX2_shortestChain_0 0 rfl ?_
  refine k_getr C shC_36 (j := 1) rfl FL_X2_30 dX2_shortestChain_1 ?_
  obtain ⟨M1, hM1, hf⟩ := bnd hf
  refine k_callVv C (As := []) (c_X8_open hap M0 M1 hM1) ML_X8_open wd_761 shC_25 rfl rfl rfl ⟨Nat.le_of_ble_eq_true rfl, Nat.le_of_ble_eq_true rfl⟩ (Nat.le_of_ble_eq_true rfl) dX2_shortestChain_4 ?_
  refine k_iconst C dX2_shortestChain_7 (v := (1 : Int32)) rfl ?_
  refine k_iload_n C dX2_shortestChain_8 1 rfl ?_
  refine k_ishlJ C dX2_shortestChain_9 ?_
  refine k_istore_n C dX2_shortestChain_10 (by decide) [1, 3, 0] (lv' := [(0, .ref (G.2.1 36)), (2, .int v2), (3, .int (jshl (1 : Int32) v1))]) rfl ?_
  refine k_iconst C dX2_shortestChain_11 (v := (1 : Int32)) rfl ?_
  refine k_istore C dX2_shortestChain_12 (by decide) [1, 2, 3, 0] (lv' := [(0, .ref (G.2.1 36)), (2, .int v2), (3, .int (jshl (1 : Int32) v1)), (4, .int (1 : Int32))]) rfl ?_
  exact k_b14 FU v2 (jshl (1 : Int32) v1) (1 : Int32) M1 hf
theorem dX2_heapOf_0 : decode cX2_heapOf 0 = .ok (.iconst 1, 1) := by decide +kernel
theorem dX2_heapOf_1 : decode cX2_heapOf 1 = .ok (.iload_n 1, 1) := by decide +kernel
theorem dX2_heapOf_2 : decode cX2_heapOf 2 = .ok (.ishl, 1) := by decide +kernel
theorem dX2_heapOf_3 : decode cX2_heapOf 3 = .ok (.istore_n 2, 1) := by decide +kernel
theorem dX2_heapOf_4 : decode cX2_heapOf 4 = .ok (.iconst 0, 1) := by decide +kernel
theorem dX2_heapOf_5 : decode cX2_heapOf 5 = .ok (.istore_n 3, 1) := by decide +kernel
theorem dX2_heapOf_6 : decode cX2_heapOf 6 = .ok (.iload_n 3, 1) := by decide +kernel
theorem dX2_heapOf_7 : decode cX2_heapOf 7 = .ok (.aload_n 0, 1) := by decide +kernel
theorem dX2_heapOf_8 : decode cX2_heapOf 8 = .ok (.getfield 26, 3) := by decide +kernel
theorem dX2_heapOf_11 : decode cX2_heapOf 11 = .ok (.getfield 34, 3) := by decide +kernel
theorem dX2_heapOf_14 : decode cX2_heapOf 14 = .ok (.if_icmp .ge 15, 3) := by decide +kernel
theorem dX2_heapOf_17 : decode cX2_heapOf 17 = .ok (.aload_n 0, 1) := by decide +kernel
theorem dX2_heapOf_18 : decode cX2_heapOf 18 = .ok (.iload_n 2, 1) := by decide +kernel
theorem dX2_heapOf_19 : decode cX2_heapOf 19 = .ok (.invokevirtual 74, 3) := by decide +kernel
theorem dX2_heapOf_22 : decode cX2_heapOf 22 = .ok (.istore_n 2, 1) := by decide +kernel
theorem dX2_heapOf_23 : decode cX2_heapOf 23 = .ok (.iinc 3 1, 3) := by decide +kernel
theorem dX2_heapOf_26 : decode cX2_heapOf 26 = .ok (.goto (-20), 3) := by decide +kernel
theorem dX2_heapOf_29 : decode cX2_heapOf 29 = .ok (.iload_n 2, 1) := by decide +kernel
theorem dX2_heapOf_30 : decode cX2_heapOf 30 = .ok (.ireturn, 1) := by decide +kernel
set_option maxRecDepth 100000 in
set_option maxHeartbeats 4000000 in
theorem c_X2_heapOf {l : Launch} {G : Gx} (hap : k_ap G shC.length) (v1 : Int32) (M0 : Mem) (r : Int32) (hf : f_X2_heapOf v1 M0 = some r) : k_Met l yX2_heapOf cX2_heapOf 4 (some .int) 1 23 G shC [.ref (G.2.1 36), .int v1] M0 (k_Qi G shC r M0) := by
  refine k_Met_of (by decide) hap (Nat.le_of_ble_eq_true rfl) ?_
  intro p e s m args below meth c C hr hlk
  have C : Cx p s m args c cX2_heapOf RX2 4 G shC := C
  have k_b6 : ∀ (n6 : Nat) (v2 : Int32) (v3 : Int32), f_X2_heapOf_b6 M0 n6 v2 v3 = some r → K p l e (k_rm 1 23) s m args below meth c 4 G shC (MQ below (k_Qi G shC r M0) args s 0 0 (k_A G shC.length)) 6 [(0, .ref (G.2.1 36)), (2, .int v2), (3, .int v3)] [] M0 := by
    intro n6
    induction n6 with
    | zero => intro v2 v3 hf; simp [f_X2_heapOf_b6] at hf
    | succ n6 ih6 =>
      intro v2 v3 hf
      unfold f_X2_heapOf_b6 at hf
      refine k_iload_n C dX2_heapOf_6 2 rfl ?_
      refine k_aload_n C dX2_heapOf_7 0 rfl ?_
      refine k_getr C shC_36 (j := 0) rfl FL_X2_26 dX2_heapOf_8 ?_
      refine k_geti C shC_1 (j := 4) rfl FL_X2_34 dX2_heapOf_11 ?_
      rcases ite_g hf with ⟨c2, hf⟩ | ⟨c2, hf⟩
      · refine k_icmp_ge_t C dX2_heapOf_14 (tgt := 29) (by decide) c2 ?_
        refine k_iload_n C dX2_heapOf_29 1 rfl ?_
        exact k_iret C hr hlk (Option.some.inj hf) rfl dX2_heapOf_30
      · refine k_icmp_ge_f C dX2_heapOf_14 (tgt := 29) (by decide) c2 ?_
        refine k_aload_n C dX2_heapOf_17 0 rfl ?_
        refine k_iload_n C dX2_heapOf_18 1 rfl ?_
        obtain ⟨t3, ht3, hf⟩ := bnd hf
        refine k_callVi C (As := [.int v2]) (c_X2_spread hap v2 M0 t3 ht3) ML_X2_spread wd_1031 shC_36 rfl rfl rfl ⟨Nat.le_of_ble_eq_true rfl, Nat.le_of_ble_eq_true rfl⟩ (Nat.le_of_ble_eq_true rfl) dX2_heapOf_19 ?_
        refine k_istore_n C dX2_heapOf_22 (by decide) [1, 0, 2] (lv' := [(0, .ref (G.2.1 36)), (2, .int t3), (3, .int v3)]) rfl ?_
        refine k_iinc C dX2_heapOf_23 2 rfl (v := (v3 + (1 : Int32))) rfl (by decide) [1, 2, 0] (lv' := [(0, .ref (G.2.1 36)), (2, .int t3), (3, .int (v3 + (1 : Int32)))]) rfl ?_
        refine k_goto C dX2_heapOf_26 (tgt := 6) (by decide) ?_
        exact ih6 t3 (v3 + (1 : Int32)) hf
  unfold f_X2_heapOf at hf
  refine k_lv (lv' := [(0, .ref (G.2.1 36)), (1, .int v1)]) [0, 1] rfl ?_
  refine k_iconst C dX2_heapOf_0 (v := (1 : Int32)) rfl ?_
  refine k_iload_n C dX2_heapOf_1 1 rfl ?_
  refine k_ishlJ C dX2_heapOf_2 ?_
  refine k_istore_n C dX2_heapOf_3 (by decide) [1, 0] (lv' := [(0, .ref (G.2.1 36)), (2, .int (jshl (1 : Int32) v1))]) rfl ?_
  refine k_iconst C dX2_heapOf_4 (v := (0 : Int32)) rfl ?_
  refine k_istore_n C dX2_heapOf_5 (by decide) [1, 2, 0] (lv' := [(0, .ref (G.2.1 36)), (2, .int (jshl (1 : Int32) v1)), (3, .int (0 : Int32))]) rfl ?_
  exact k_b6 FU (jshl (1 : Int32) v1) (0 : Int32) hf
theorem dX2_allHeaps_0 : decode cX2_allHeaps 0 = .ok (.aload_n 0, 1) := by decide +kernel
theorem dX2_allHeaps_1 : decode cX2_allHeaps 1 = .ok (.getfield 30, 3) := by decide +kernel
theorem dX2_allHeaps_4 : decode cX2_allHeaps 4 = .ok (.invokevirtual 45, 3) := by decide +kernel
theorem dX2_allHeaps_7 : decode cX2_allHeaps 7 = .ok (.iconst 0, 1) := by decide +kernel
theorem dX2_allHeaps_8 : decode cX2_allHeaps 8 = .ok (.istore_n 2, 1) := by decide +kernel
theorem dX2_allHeaps_9 : decode cX2_allHeaps 9 = .ok (.iconst 0, 1) := by decide +kernel
theorem dX2_allHeaps_10 : decode cX2_allHeaps 10 = .ok (.istore_n 3, 1) := by decide +kernel
theorem dX2_allHeaps_11 : decode cX2_allHeaps 11 = .ok (.iconst 0, 1) := by decide +kernel
theorem dX2_allHeaps_12 : decode cX2_allHeaps 12 = .ok (.istore 4, 2) := by decide +kernel
theorem dX2_allHeaps_14 : decode cX2_allHeaps 14 = .ok (.iconst 0, 1) := by decide +kernel
theorem dX2_allHeaps_15 : decode cX2_allHeaps 15 = .ok (.istore 5, 2) := by decide +kernel
theorem dX2_allHeaps_17 : decode cX2_allHeaps 17 = .ok (.iload 5, 2) := by decide +kernel
theorem dX2_allHeaps_19 : decode cX2_allHeaps 19 = .ok (.aload_n 0, 1) := by decide +kernel
theorem dX2_allHeaps_20 : decode cX2_allHeaps 20 = .ok (.getfield 26, 3) := by decide +kernel
theorem dX2_allHeaps_23 : decode cX2_allHeaps 23 = .ok (.getfield 34, 3) := by decide +kernel
theorem dX2_allHeaps_26 : decode cX2_allHeaps 26 = .ok (.if_icmp .ge 47, 3) := by decide +kernel
theorem dX2_allHeaps_29 : decode cX2_allHeaps 29 = .ok (.iload 4, 2) := by decide +kernel
theorem dX2_allHeaps_31 : decode cX2_allHeaps 31 = .ok (.iload 5, 2) := by decide +kernel
theorem dX2_allHeaps_33 : decode cX2_allHeaps 33 = .ok (.ishr, 1) := by decide +kernel
theorem dX2_allHeaps_34 : decode cX2_allHeaps 34 = .ok (.iconst 1, 1) := by decide +kernel
theorem dX2_allHeaps_35 : decode cX2_allHeaps 35 = .ok (.iand, 1) := by decide +kernel
theorem dX2_allHeaps_36 : decode cX2_allHeaps 36 = .ok (.ifCond .ne 31, 3) := by decide +kernel
theorem dX2_allHeaps_39 : decode cX2_allHeaps 39 = .ok (.aload_n 0, 1) := by decide +kernel
theorem dX2_allHeaps_40 : decode cX2_allHeaps 40 = .ok (.iload 5, 2) := by decide +kernel
theorem dX2_allHeaps_42 : decode cX2_allHeaps 42 = .ok (.invokevirtual 77, 3) := by decide +kernel
theorem dX2_allHeaps_45 : decode cX2_allHeaps 45 = .ok (.istore 6, 2) := by decide +kernel
theorem dX2_allHeaps_47 : decode cX2_allHeaps 47 = .ok (.iload 4, 2) := by decide +kernel
theorem dX2_allHeaps_49 : decode cX2_allHeaps 49 = .ok (.iload 6, 2) := by decide +kernel
theorem dX2_allHeaps_51 : decode cX2_allHeaps 51 = .ok (.ior, 1) := by decide +kernel
theorem dX2_allHeaps_52 : decode cX2_allHeaps 52 = .ok (.istore 4, 2) := by decide +kernel
theorem dX2_allHeaps_54 : decode cX2_allHeaps 54 = .ok (.iinc 2 1, 3) := by decide +kernel
theorem dX2_allHeaps_57 : decode cX2_allHeaps 57 = .ok (.iload_n 3, 1) := by decide +kernel
theorem dX2_allHeaps_58 : decode cX2_allHeaps 58 = .ok (.iload 6, 2) := by decide +kernel
theorem dX2_allHeaps_60 : decode cX2_allHeaps 60 = .ok (.invokestatic 52, 3) := by decide +kernel
theorem dX2_allHeaps_63 : decode cX2_allHeaps 63 = .ok (.invokestatic 80, 3) := by decide +kernel
theorem dX2_allHeaps_66 : decode cX2_allHeaps 66 = .ok (.istore_n 3, 1) := by decide +kernel
theorem dX2_allHeaps_67 : decode cX2_allHeaps 67 = .ok (.iinc 5 1, 3) := by decide +kernel
theorem dX2_allHeaps_70 : decode cX2_allHeaps 70 = .ok (.goto (-53), 3) := by decide +kernel
theorem dX2_allHeaps_73 : decode cX2_allHeaps 73 = .ok (.iload_n 1, 1) := by decide +kernel
theorem dX2_allHeaps_74 : decode cX2_allHeaps 74 = .ok (.ifCond .ne 7, 3) := by decide +kernel
theorem dX2_allHeaps_77 : decode cX2_allHeaps 77 = .ok (.iload_n 2, 1) := by decide +kernel
theorem dX2_allHeaps_78 : decode cX2_allHeaps 78 = .ok (.goto 4, 3) := by decide +kernel
theorem dX2_allHeaps_81 : decode cX2_allHeaps 81 = .ok (.iload_n 3, 1) := by decide +kernel
theorem dX2_allHeaps_82 : decode cX2_allHeaps 82 = .ok (.ireturn, 1) := by decide +kernel
set_option maxRecDepth 100000 in
set_option maxHeartbeats 4000000 in
theorem c_X2_allHeaps {l : Launch} {G : Gx} (hap : k_ap G shC.length) (v1 : Int32) (M0 : Mem) (r : Int32 × Mem) (hf : f_X2_allHeaps v1 M0 = some r) : k_Met l yX2_allHeaps cX2_allHeaps 7 (some .int) 4 88 G shC [.ref (G.2.1 36), .int v1] M0 (k_Qi G shC r.1 r.2) := by
  refine k_Met_of (by decide) hap (Nat.le_of_ble_eq_true rfl) ?_
  intro p e s m args below meth c C hr hlk
  have C : Cx p s m args c cX2_allHeaps RX2 7 G shC := C
  have k_b17 : ∀ (n17 : Nat) (v1 : Int32) (v2 : Int32) (v3 : Int32) (v4 : Int32) (v5 : Int32) (M : Mem), f_X2_allHeaps_b17 n17 v1 v2 v3 v4 v5 M = some r → K p l e (k_rm 4 88) s m args below meth c 7 G shC (MQ below (k_Qi G shC r.1 r.2) args s 0 0 (k_A G shC.length)) 17 [(0, .ref (G.2.1 36)), (1, .int v1), (2, .int v2), (3, .int v3), (4, .int v4), (5, .int v5)] [] M := by
    intro n17
    induction n17 with
    | zero => intro v1 v2 v3 v4 v5 M hf; simp [f_X2_allHeaps_b17] at hf
    | succ n17 ih17 =>
      intro v1 v2 v3 v4 v5 M hf
      unfold f_X2_allHeaps_b17 at hf
      refine k_iload C dX2_allHeaps_17 5 rfl ?_
      refine k_aload_n C dX2_allHeaps_19 0 rfl ?_
      refine k_getr C shC_36 (j := 0) rfl FL_X2_26 dX2_allHeaps_20 ?_
      refine k_geti C shC_1 (j := 4) rfl FL_X2_34 dX2_allHeaps_23 ?_
      rcases ite_g hf with ⟨c2, hf⟩ | ⟨c2, hf⟩
      · refine k_icmp_ge_t C dX2_allHeaps_26 (tgt := 73) (by decide) c2 ?_
        refine k_iload_n C dX2_allHeaps_73 1 rfl ?_
        rcases ite_g hf with ⟨c3, hf⟩ | ⟨c3, hf⟩
        · refine k_if_ne_f C dX2_allHeaps_74 (tgt := 81) (by decide) c3 ?_
          refine k_iload_n C dX2_allHeaps_77 2 rfl ?_
          refine k_goto C dX2_allHeaps_78 (tgt := 82) (by decide) ?_
          exact k_iret C hr hlk (prf hf) (prs hf) dX2_allHeaps_82
        · refine k_if_ne_t C dX2_allHeaps_74 (tgt := 81) (by decide) c3 ?_
          refine k_iload_n C dX2_allHeaps_81 3 rfl ?_
          exact k_iret C hr hlk (prf hf) (prs hf) dX2_allHeaps_82
      · refine k_icmp_ge_f C dX2_allHeaps_26 (tgt := 73) (by decide) c2 ?_
        refine k_iload C dX2_allHeaps_29 4 rfl ?_
        refine k_iload C dX2_allHeaps_31 5 rfl ?_
        refine k_ishrJ C dX2_allHeaps_33 ?_
        refine k_iconst C dX2_allHeaps_34 (v := (1 : Int32)) rfl ?_
        refine k_iand C dX2_allHeaps_35 ?_
        rcases ite_g hf with ⟨c5, hf⟩ | ⟨c5, hf⟩
        · refine k_if_ne_f C dX2_allHeaps_36 (tgt := 67) (by decide) c5 ?_
          refine k_aload_n C dX2_allHeaps_39 0 rfl ?_
          refine k_iload C dX2_allHeaps_40 5 rfl ?_
          obtain ⟨t6, ht6, hf⟩ := bnd hf
          refine k_callVi C (As := [.int v5]) (c_X2_heapOf hap v5 M t6 ht6) ML_X2_heapOf wd_1043 shC_36 rfl rfl rfl ⟨Nat.le_of_ble_eq_true rfl, Nat.le_of_ble_eq_true rfl⟩ (Nat.le_of_ble_eq_true rfl) dX2_allHeaps_42 ?_
          refine k_istore C dX2_allHeaps_45 (by decide) [1, 2, 3, 4, 5, 6, 0] (lv' := [(0, .ref (G.2.1 36)), (1, .int v1), (2, .int v2), (3, .int v3), (4, .int v4), (5, .int v5), (6, .int t6)]) rfl ?_
          refine k_iload C dX2_allHeaps_47 4 rfl ?_
          refine k_iload C dX2_allHeaps_49 6 rfl ?_
          refine k_ior C dX2_allHeaps_51 ?_
          refine k_istore C dX2_allHeaps_52 (by decide) [1, 2, 3, 4, 0, 5, 6] (lv' := [(0, .ref (G.2.1 36)), (1, .int v1), (2, .int v2), (3, .int v3), (4, .int (v4 ||| t6)), (5, .int v5), (6, .int t6)]) rfl ?_
          refine k_iinc C dX2_allHeaps_54 2 rfl (v := (v2 + (1 : Int32))) rfl (by decide) [1, 2, 0, 3, 4, 5, 6] (lv' := [(0, .ref (G.2.1 36)), (1, .int v1), (2, .int (v2 + (1 : Int32))), (3, .int v3), (4, .int (v4 ||| t6)), (5, .int v5), (6, .int t6)]) rfl ?_
          refine k_iload_n C dX2_allHeaps_57 3 rfl ?_
          refine k_iload C dX2_allHeaps_58 6 rfl ?_
          refine k_callSi C (As := [.int t6]) (c_J6_bitCount_0f7a4 hap t6 M _ rfl) MS_J6_bitCount_0f7a4 wd_766 rfl rfl ⟨Nat.le_of_ble_eq_true rfl, Nat.le_of_ble_eq_true rfl⟩ (Nat.le_of_ble_eq_true rfl) dX2_allHeaps_60 ?_
          refine k_max C W_max wd_1047 ⟨Nat.le_of_ble_eq_true rfl, Nat.le_of_ble_eq_true rfl⟩ dX2_allHeaps_63 ?_
          refine k_istore_n C dX2_allHeaps_66 (by decide) [1, 2, 3, 0, 4, 5] (lv' := [(0, .ref (G.2.1 36)), (1, .int v1), (2, .int (v2 + (1 : Int32))), (3, .int (mxI v3 (f_J6_bitCount_0f7a4 t6))), (4, .int (v4 ||| t6)), (5, .int v5)]) rfl ?_
          refine k_iinc C dX2_allHeaps_67 5 rfl (v := (v5 + (1 : Int32))) rfl (by decide) [1, 2, 3, 4, 5, 0] (lv' := [(0, .ref (G.2.1 36)), (1, .int v1), (2, .int (v2 + (1 : Int32))), (3, .int (mxI v3 (f_J6_bitCount_0f7a4 t6))), (4, .int (v4 ||| t6)), (5, .int (v5 + (1 : Int32)))]) rfl ?_
          refine k_goto C dX2_allHeaps_70 (tgt := 17) (by decide) ?_
          exact ih17 v1 (v2 + (1 : Int32)) (mxI v3 (f_J6_bitCount_0f7a4 t6)) (v4 ||| t6) (v5 + (1 : Int32)) M hf
        · refine k_if_ne_t C dX2_allHeaps_36 (tgt := 67) (by decide) c5 ?_
          refine k_iinc C dX2_allHeaps_67 5 rfl (v := (v5 + (1 : Int32))) rfl (by decide) [1, 2, 3, 4, 5, 0] (lv' := [(0, .ref (G.2.1 36)), (1, .int v1), (2, .int v2), (3, .int v3), (4, .int v4), (5, .int (v5 + (1 : Int32)))]) rfl ?_
          refine k_goto C dX2_allHeaps_70 (tgt := 17) (by decide) ?_
          exact ih17 v1 v2 v3 v4 (v5 + (1 : Int32)) M hf
  unfold f_X2_allHeaps at hf
  refine k_lv (lv' := [(0, .ref (G.2.1 36)), (1, .int v1)]) [0, 1] rfl ?_
  refine k_aload_n C dX2_allHeaps_0 0 rfl ?_
  refine k_getr C shC_36 (j := 1) rfl FL_X2_30 dX2_allHeaps_1 ?_
  obtain ⟨M1, hM1, hf⟩ := bnd hf
  refine k_callVv C (As := []) (c_X8_open hap M0 M1 hM1) ML_X8_open wd_761 shC_25 rfl rfl rfl ⟨Nat.le_of_ble_eq_true rfl, Nat.le_of_ble_eq_true rfl⟩ (Nat.le_of_ble_eq_true rfl) dX2_allHeaps_4 ?_
  refine k_iconst C dX2_allHeaps_7 (v := (0 : Int32)) rfl ?_
  refine k_istore_n C dX2_allHeaps_8 (by decide) [1, 2, 0] (lv' := [(0, .ref (G.2.1 36)), (1, .int v1), (2, .int (0 : Int32))]) rfl ?_
  refine k_iconst C dX2_allHeaps_9 (v := (0 : Int32)) rfl ?_
  refine k_istore_n C dX2_allHeaps_10 (by decide) [1, 2, 3, 0] (lv' := [(0, .ref (G.2.1 36)), (1, .int v1), (2, .int (0 : Int32)), (3, .int (0 : Int32))]) rfl ?_
  refine k_iconst C dX2_allHeaps_11 (v := (0 : Int32)) rfl ?_
  refine k_istore C dX2_allHeaps_12 (by decide) [1, 2, 3, 4, 0] (lv' := [(0, .ref (G.2.1 36)), (1, .int v1), (2, .int (0 : Int32)), (3, .int (0 : Int32)), (4, .int (0 : Int32))]) rfl ?_
  refine k_iconst C dX2_allHeaps_14 (v := (0 : Int32)) rfl ?_
  refine k_istore C dX2_allHeaps_15 (by decide) [1, 2, 3, 4, 5, 0] (lv' := [(0, .ref (G.2.1 36)), (1, .int v1), (2, .int (0 : Int32)), (3, .int (0 : Int32)), (4, .int (0 : Int32)), (5, .int (0 : Int32))]) rfl ?_
  exact k_b17 FU v1 (0 : Int32) (0 : Int32) (0 : Int32) (0 : Int32) M1 hf
theorem dJ7_fill_d0a16_0 : decode cJ7_fill_d0a16 0 = .ok (.iconst 0, 1) := by decide +kernel
theorem dJ7_fill_d0a16_1 : decode cJ7_fill_d0a16 1 = .ok (.istore_n 3, 1) := by decide +kernel
theorem dJ7_fill_d0a16_2 : decode cJ7_fill_d0a16 2 = .ok (.aload_n 0, 1) := by decide +kernel
theorem dJ7_fill_d0a16_3 : decode cJ7_fill_d0a16 3 = .ok (.arraylength, 1) := by decide +kernel
theorem dJ7_fill_d0a16_4 : decode cJ7_fill_d0a16 4 = .ok (.istore 4, 2) := by decide +kernel
theorem dJ7_fill_d0a16_6 : decode cJ7_fill_d0a16 6 = .ok (.iload_n 3, 1) := by decide +kernel
theorem dJ7_fill_d0a16_7 : decode cJ7_fill_d0a16 7 = .ok (.iload 4, 2) := by decide +kernel
theorem dJ7_fill_d0a16_9 : decode cJ7_fill_d0a16 9 = .ok (.if_icmp .ge 13, 3) := by decide +kernel
theorem dJ7_fill_d0a16_12 : decode cJ7_fill_d0a16 12 = .ok (.aload_n 0, 1) := by decide +kernel
theorem dJ7_fill_d0a16_13 : decode cJ7_fill_d0a16 13 = .ok (.iload_n 3, 1) := by decide +kernel
theorem dJ7_fill_d0a16_14 : decode cJ7_fill_d0a16 14 = .ok (.lload_n 1, 1) := by decide +kernel
theorem dJ7_fill_d0a16_15 : decode cJ7_fill_d0a16 15 = .ok (.lastore, 1) := by decide +kernel
theorem dJ7_fill_d0a16_16 : decode cJ7_fill_d0a16 16 = .ok (.iinc 3 1, 3) := by decide +kernel
theorem dJ7_fill_d0a16_19 : decode cJ7_fill_d0a16 19 = .ok (.goto (-13), 3) := by decide +kernel
theorem dJ7_fill_d0a16_22 : decode cJ7_fill_d0a16 22 = .ok (.return_, 1) := by decide +kernel
set_option maxRecDepth 100000 in
set_option maxHeartbeats 4000000 in
theorem c_J7_fill_d0a16 {l : Launch} {G : Gx} (hap : k_ap G shC.length) (q : Nat) (n : Nat) (hq : shC[q]? = some (.inl (1, n))) (v1 : Int64) (M0 : Mem) (r : Mem) (hf : f_J7_fill_d0a16 q n v1 M0 = some r) : k_Met l yJ7_fill_d0a16 cJ7_fill_d0a16 5 none 0 0 G shC [.ref (G.2.1 q), .long v1] M0 (k_Qv G shC r) := by
  refine k_Met_of (by decide) hap (Nat.le_of_ble_eq_true rfl) ?_
  intro p e s m args below meth c C hr hlk
  have C : Cx p s m args c cJ7_fill_d0a16 RJ7 5 G shC := C
  have k_b6 : ∀ (n6 : Nat) (v1 : Int64) (v3 : Int32) (v4 : Int32) (M : Mem), f_J7_fill_d0a16_b6 q n n6 v1 v3 v4 M = some r → K p l e (k_rm 0 0) s m args below meth c 5 G shC (MQ below (k_Qv G shC r) args s 0 0 (k_A G shC.length)) 6 [(0, .ref (G.2.1 q)), (1, .long v1), (3, .int v3), (4, .int v4)] [] M := by
    intro n6
    induction n6 with
    | zero => intro v1 v3 v4 M hf; simp [f_J7_fill_d0a16_b6] at hf
    | succ n6 ih6 =>
      intro v1 v3 v4 M hf
      unfold f_J7_fill_d0a16_b6 at hf
      refine k_iload_n C dJ7_fill_d0a16_6 2 rfl ?_
      refine k_iload C dJ7_fill_d0a16_7 3 rfl ?_
      rcases ite_g hf with ⟨c1, hf⟩ | ⟨c1, hf⟩
      · refine k_icmp_ge_t C dJ7_fill_d0a16_9 (tgt := 22) (by decide) c1 ?_
        exact k_vret C hr hlk (Option.some.inj hf) dJ7_fill_d0a16_22
      · refine k_icmp_ge_f C dJ7_fill_d0a16_9 (tgt := 22) (by decide) c1 ?_
        refine k_aload_n C dJ7_fill_d0a16_12 0 rfl ?_
        refine k_iload_n C dJ7_fill_d0a16_13 2 rfl ?_
        refine k_lload_n C dJ7_fill_d0a16_14 1 rfl ?_
        obtain ⟨M2, hM2, hf⟩ := bnd hf
        refine k_last C hq hM2 dJ7_fill_d0a16_15 ?_
        refine k_iinc C dJ7_fill_d0a16_16 2 rfl (v := (v3 + (1 : Int32))) rfl (by decide) [1, 2, 0, 3] (lv' := [(0, .ref (G.2.1 q)), (1, .long v1), (3, .int (v3 + (1 : Int32))), (4, .int v4)]) rfl ?_
        refine k_goto C dJ7_fill_d0a16_19 (tgt := 6) (by decide) ?_
        exact ih6 v1 (v3 + (1 : Int32)) v4 M2 hf
  unfold f_J7_fill_d0a16 at hf
  refine k_lv (lv' := [(0, .ref (G.2.1 q)), (1, .long v1)]) [0, 1] rfl ?_
  refine k_iconst C dJ7_fill_d0a16_0 (v := (0 : Int32)) rfl ?_
  refine k_istore_n C dJ7_fill_d0a16_1 (by decide) [1, 2, 0] (lv' := [(0, .ref (G.2.1 q)), (1, .long v1), (3, .int (0 : Int32))]) rfl ?_
  refine k_aload_n C dJ7_fill_d0a16_2 0 rfl ?_
  refine k_alenL C hq dJ7_fill_d0a16_3 ?_
  refine k_istore C dJ7_fill_d0a16_4 (by decide) [1, 2, 3, 0] (lv' := [(0, .ref (G.2.1 q)), (1, .long v1), (3, .int (0 : Int32)), (4, .int (nI n))]) rfl ?_
  exact k_b6 FU v1 (0 : Int32) (nI n) M0 hf
theorem dX2_mayFollow_0 : decode cX2_mayFollow 0 = .ok (.iload_n 2, 1) := by decide +kernel
theorem dX2_mayFollow_1 : decode cX2_mayFollow 1 = .ok (.bipush 8, 2) := by decide +kernel
theorem dX2_mayFollow_3 : decode cX2_mayFollow 3 = .ok (.if_icmp .eq 19, 3) := by decide +kernel
theorem dX2_mayFollow_6 : decode cX2_mayFollow 6 = .ok (.aload_n 0, 1) := by decide +kernel
theorem dX2_mayFollow_7 : decode cX2_mayFollow 7 = .ok (.getfield 30, 3) := by decide +kernel
theorem dX2_mayFollow_10 : decode cX2_mayFollow 10 = .ok (.getfield 40, 3) := by decide +kernel
theorem dX2_mayFollow_13 : decode cX2_mayFollow 13 = .ok (.iload_n 1, 1) := by decide +kernel
theorem dX2_mayFollow_14 : decode cX2_mayFollow 14 = .ok (.iaload, 1) := by decide +kernel
theorem dX2_mayFollow_15 : decode cX2_mayFollow 15 = .ok (.iload_n 2, 1) := by decide +kernel
theorem dX2_mayFollow_16 : decode cX2_mayFollow 16 = .ok (.ishr, 1) := by decide +kernel
theorem dX2_mayFollow_17 : decode cX2_mayFollow 17 = .ok (.iconst 1, 1) := by decide +kernel
theorem dX2_mayFollow_18 : decode cX2_mayFollow 18 = .ok (.iand, 1) := by decide +kernel
theorem dX2_mayFollow_19 : decode cX2_mayFollow 19 = .ok (.ifCond .ne 7, 3) := by decide +kernel
theorem dX2_mayFollow_22 : decode cX2_mayFollow 22 = .ok (.iconst 1, 1) := by decide +kernel
theorem dX2_mayFollow_23 : decode cX2_mayFollow 23 = .ok (.goto 4, 3) := by decide +kernel
theorem dX2_mayFollow_26 : decode cX2_mayFollow 26 = .ok (.iconst 0, 1) := by decide +kernel
theorem dX2_mayFollow_27 : decode cX2_mayFollow 27 = .ok (.ireturn, 1) := by decide +kernel
set_option maxRecDepth 100000 in
set_option maxHeartbeats 4000000 in
theorem c_X2_mayFollow {l : Launch} {G : Gx} (hap : k_ap G shC.length) (v1 : Int32) (v2 : Int32) (M0 : Mem) (r : Int32) (hf : f_X2_mayFollow v1 v2 M0 = some r) : k_Met l yX2_mayFollow cX2_mayFollow 3 (some .boolean) 0 0 G shC [.ref (G.2.1 36), .int v1, .int v2] M0 (k_Qi G shC r M0) := by
  refine k_Met_of (by decide) hap (Nat.le_of_ble_eq_true rfl) ?_
  intro p e s m args below meth c C hr hlk
  have C : Cx p s m args c cX2_mayFollow RX2 3 G shC := C
  unfold f_X2_mayFollow at hf
  refine k_lv (lv' := [(0, .ref (G.2.1 36)), (1, .int v1), (2, .int v2)]) [0, 1, 2] rfl ?_
  refine k_iload_n C dX2_mayFollow_0 2 rfl ?_
  refine k_bipush C dX2_mayFollow_1 (v := (8 : Int32)) rfl ?_
  rcases ite_g hf with ⟨c1, hf⟩ | ⟨c1, hf⟩
  · refine k_icmp_eq_t C dX2_mayFollow_3 (tgt := 22) (by decide) c1 ?_
    refine k_iconst C dX2_mayFollow_22 (v := (1 : Int32)) rfl ?_
    refine k_goto C dX2_mayFollow_23 (tgt := 27) (by decide) ?_
    exact k_zret C hr hlk (gZ1.trans (congrArg some (Option.some.inj hf))) rfl dX2_mayFollow_27
  · refine k_icmp_eq_f C dX2_mayFollow_3 (tgt := 22) (by decide) c1 ?_
    refine k_aload_n C dX2_mayFollow_6 0 rfl ?_
    refine k_getr C shC_36 (j := 1) rfl FL_X2_30 dX2_mayFollow_7 ?_
    refine k_getr C shC_25 (j := 1) rfl FL_X2_40 dX2_mayFollow_10 ?_
    refine k_iload_n C dX2_mayFollow_13 1 rfl ?_
    obtain ⟨t2, ht2, hf⟩ := bnd hf
    refine k_iald C shC_26 ht2 dX2_mayFollow_14 ?_
    refine k_iload_n C dX2_mayFollow_15 2 rfl ?_
    refine k_ishrJ C dX2_mayFollow_16 ?_
    refine k_iconst C dX2_mayFollow_17 (v := (1 : Int32)) rfl ?_
    refine k_iand C dX2_mayFollow_18 ?_
    rcases ite_g hf with ⟨c3, hf⟩ | ⟨c3, hf⟩
    · refine k_if_ne_f C dX2_mayFollow_19 (tgt := 26) (by decide) c3 ?_
      refine k_iconst C dX2_mayFollow_22 (v := (1 : Int32)) rfl ?_
      refine k_goto C dX2_mayFollow_23 (tgt := 27) (by decide) ?_
      exact k_zret C hr hlk (gZ1.trans (congrArg some (Option.some.inj hf))) rfl dX2_mayFollow_27
    · refine k_if_ne_t C dX2_mayFollow_19 (tgt := 26) (by decide) c3 ?_
      refine k_iconst C dX2_mayFollow_26 (v := (0 : Int32)) rfl ?_
      exact k_zret C hr hlk (gZ0.trans (congrArg some (Option.some.inj hf))) rfl dX2_mayFollow_27
theorem dX2_lengthen_0 : decode cX2_lengthen 0 = .ok (.aload_n 0, 1) := by decide +kernel
theorem dX2_lengthen_1 : decode cX2_lengthen 1 = .ok (.getfield 23, 3) := by decide +kernel
theorem dX2_lengthen_4 : decode cX2_lengthen 4 = .ok (.lconst 0, 1) := by decide +kernel
theorem dX2_lengthen_5 : decode cX2_lengthen 5 = .ok (.invokestatic 83, 3) := by decide +kernel
theorem dX2_lengthen_8 : decode cX2_lengthen 8 = .ok (.iconst 0, 1) := by decide +kernel
theorem dX2_lengthen_9 : decode cX2_lengthen 9 = .ok (.istore_n 2, 1) := by decide +kernel
theorem dX2_lengthen_10 : decode cX2_lengthen 10 = .ok (.iload_n 2, 1) := by decide +kernel
theorem dX2_lengthen_11 : decode cX2_lengthen 11 = .ok (.bipush 9, 2) := by decide +kernel
theorem dX2_lengthen_13 : decode cX2_lengthen 13 = .ok (.if_icmp .ge 111, 3) := by decide +kernel
theorem dX2_lengthen_16 : decode cX2_lengthen 16 = .ok (.iconst 0, 1) := by decide +kernel
theorem dX2_lengthen_17 : decode cX2_lengthen 17 = .ok (.istore_n 3, 1) := by decide +kernel
theorem dX2_lengthen_18 : decode cX2_lengthen 18 = .ok (.iload_n 3, 1) := by decide +kernel
theorem dX2_lengthen_19 : decode cX2_lengthen 19 = .ok (.bipush 9, 2) := by decide +kernel
theorem dX2_lengthen_21 : decode cX2_lengthen 21 = .ok (.if_icmp .ge 97, 3) := by decide +kernel
theorem dX2_lengthen_24 : decode cX2_lengthen 24 = .ok (.aload_n 0, 1) := by decide +kernel
theorem dX2_lengthen_25 : decode cX2_lengthen 25 = .ok (.getfield 19, 3) := by decide +kernel
theorem dX2_lengthen_28 : decode cX2_lengthen 28 = .ok (.iload_n 2, 1) := by decide +kernel
theorem dX2_lengthen_29 : decode cX2_lengthen 29 = .ok (.bipush 9, 2) := by decide +kernel
theorem dX2_lengthen_31 : decode cX2_lengthen 31 = .ok (.imul, 1) := by decide +kernel
theorem dX2_lengthen_32 : decode cX2_lengthen 32 = .ok (.iload_n 3, 1) := by decide +kernel
theorem dX2_lengthen_33 : decode cX2_lengthen 33 = .ok (.iadd, 1) := by decide +kernel
theorem dX2_lengthen_34 : decode cX2_lengthen 34 = .ok (.laload, 1) := by decide +kernel
theorem dX2_lengthen_35 : decode cX2_lengthen 35 = .ok (.lstore 4, 2) := by decide +kernel
theorem dX2_lengthen_37 : decode cX2_lengthen 37 = .ok (.iconst 0, 1) := by decide +kernel
theorem dX2_lengthen_38 : decode cX2_lengthen 38 = .ok (.istore 6, 2) := by decide +kernel
theorem dX2_lengthen_40 : decode cX2_lengthen 40 = .ok (.iload 6, 2) := by decide +kernel
theorem dX2_lengthen_42 : decode cX2_lengthen 42 = .ok (.aload_n 0, 1) := by decide +kernel
theorem dX2_lengthen_43 : decode cX2_lengthen 43 = .ok (.getfield 26, 3) := by decide +kernel
theorem dX2_lengthen_46 : decode cX2_lengthen 46 = .ok (.getfield 34, 3) := by decide +kernel
theorem dX2_lengthen_49 : decode cX2_lengthen 49 = .ok (.if_icmp .ge 63, 3) := by decide +kernel
theorem dX2_lengthen_52 : decode cX2_lengthen 52 = .ok (.lload 4, 2) := by decide +kernel
theorem dX2_lengthen_54 : decode cX2_lengthen 54 = .ok (.lconst 0, 1) := by decide +kernel
theorem dX2_lengthen_55 : decode cX2_lengthen 55 = .ok (.lcmp, 1) := by decide +kernel
theorem dX2_lengthen_56 : decode cX2_lengthen 56 = .ok (.ifCond .le 56, 3) := by decide +kernel
theorem dX2_lengthen_59 : decode cX2_lengthen 59 = .ok (.iload_n 1, 1) := by decide +kernel
theorem dX2_lengthen_60 : decode cX2_lengthen 60 = .ok (.iconst 1, 1) := by decide +kernel
theorem dX2_lengthen_61 : decode cX2_lengthen 61 = .ok (.if_icmp .lt 13, 3) := by decide +kernel
theorem dX2_lengthen_64 : decode cX2_lengthen 64 = .ok (.aload_n 0, 1) := by decide +kernel
theorem dX2_lengthen_65 : decode cX2_lengthen 65 = .ok (.iload 6, 2) := by decide +kernel
theorem dX2_lengthen_67 : decode cX2_lengthen 67 = .ok (.iload_n 3, 1) := by decide +kernel
theorem dX2_lengthen_68 : decode cX2_lengthen 68 = .ok (.invokevirtual 93, 3) := by decide +kernel
theorem dX2_lengthen_71 : decode cX2_lengthen 71 = .ok (.ifCond .eq 35, 3) := by decide +kernel
theorem dX2_lengthen_74 : decode cX2_lengthen 74 = .ok (.iload_n 1, 1) := by decide +kernel
theorem dX2_lengthen_75 : decode cX2_lengthen 75 = .ok (.iconst 2, 1) := by decide +kernel
theorem dX2_lengthen_76 : decode cX2_lengthen 76 = .ok (.if_icmp .lt 13, 3) := by decide +kernel
theorem dX2_lengthen_79 : decode cX2_lengthen 79 = .ok (.aload_n 0, 1) := by decide +kernel
theorem dX2_lengthen_80 : decode cX2_lengthen 80 = .ok (.iload 6, 2) := by decide +kernel
theorem dX2_lengthen_82 : decode cX2_lengthen 82 = .ok (.iload_n 2, 1) := by decide +kernel
theorem dX2_lengthen_83 : decode cX2_lengthen 83 = .ok (.invokevirtual 93, 3) := by decide +kernel
theorem dX2_lengthen_86 : decode cX2_lengthen 86 = .ok (.ifCond .eq 20, 3) := by decide +kernel
theorem dX2_lengthen_89 : decode cX2_lengthen 89 = .ok (.aload_n 0, 1) := by decide +kernel
theorem dX2_lengthen_90 : decode cX2_lengthen 90 = .ok (.getfield 23, 3) := by decide +kernel
theorem dX2_lengthen_93 : decode cX2_lengthen 93 = .ok (.iload_n 3, 1) := by decide +kernel
theorem dX2_lengthen_94 : decode cX2_lengthen 94 = .ok (.bipush 9, 2) := by decide +kernel
theorem dX2_lengthen_96 : decode cX2_lengthen 96 = .ok (.imul, 1) := by decide +kernel
theorem dX2_lengthen_97 : decode cX2_lengthen 97 = .ok (.iload 6, 2) := by decide +kernel
theorem dX2_lengthen_99 : decode cX2_lengthen 99 = .ok (.iadd, 1) := by decide +kernel
theorem dX2_lengthen_100 : decode cX2_lengthen 100 = .ok (.dup2, 1) := by decide +kernel
theorem dX2_lengthen_101 : decode cX2_lengthen 101 = .ok (.laload, 1) := by decide +kernel
theorem dX2_lengthen_102 : decode cX2_lengthen 102 = .ok (.lload 4, 2) := by decide +kernel
theorem dX2_lengthen_104 : decode cX2_lengthen 104 = .ok (.ladd, 1) := by decide +kernel
theorem dX2_lengthen_105 : decode cX2_lengthen 105 = .ok (.lastore, 1) := by decide +kernel
theorem dX2_lengthen_106 : decode cX2_lengthen 106 = .ok (.iinc 6 1, 3) := by decide +kernel
theorem dX2_lengthen_109 : decode cX2_lengthen 109 = .ok (.goto (-69), 3) := by decide +kernel
theorem dX2_lengthen_112 : decode cX2_lengthen 112 = .ok (.iinc 3 1, 3) := by decide +kernel
theorem dX2_lengthen_115 : decode cX2_lengthen 115 = .ok (.goto (-97), 3) := by decide +kernel
theorem dX2_lengthen_118 : decode cX2_lengthen 118 = .ok (.iinc 2 1, 3) := by decide +kernel
theorem dX2_lengthen_121 : decode cX2_lengthen 121 = .ok (.goto (-111), 3) := by decide +kernel
theorem dX2_lengthen_124 : decode cX2_lengthen 124 = .ok (.aload_n 0, 1) := by decide +kernel
theorem dX2_lengthen_125 : decode cX2_lengthen 125 = .ok (.getfield 23, 3) := by decide +kernel
theorem dX2_lengthen_128 : decode cX2_lengthen 128 = .ok (.iconst 0, 1) := by decide +kernel
theorem dX2_lengthen_129 : decode cX2_lengthen 129 = .ok (.aload_n 0, 1) := by decide +kernel
theorem dX2_lengthen_130 : decode cX2_lengthen 130 = .ok (.getfield 19, 3) := by decide +kernel
theorem dX2_lengthen_133 : decode cX2_lengthen 133 = .ok (.iconst 0, 1) := by decide +kernel
theorem dX2_lengthen_134 : decode cX2_lengthen 134 = .ok (.bipush 81, 2) := by decide +kernel
theorem dX2_lengthen_136 : decode cX2_lengthen 136 = .ok (.invokestatic 97, 3) := by decide +kernel
theorem dX2_lengthen_139 : decode cX2_lengthen 139 = .ok (.return_, 1) := by decide +kernel
set_option maxRecDepth 100000 in
set_option maxHeartbeats 4000000 in
theorem c_X2_lengthen {l : Launch} {G : Gx} (hap : k_ap G shC.length) (v1 : Int32) (M0 : Mem) (r : Mem) (hf : f_X2_lengthen v1 M0 = some r) : k_Met l yX2_lengthen cX2_lengthen 7 none 1 40 G shC [.ref (G.2.1 36), .int v1] M0 (k_Qv G shC r) := by
  refine k_Met_of (by decide) hap (Nat.le_of_ble_eq_true rfl) ?_
  intro p e s m args below meth c C hr hlk
  have C : Cx p s m args c cX2_lengthen RX2 7 G shC := C
  have k_b10 : ∀ (n10 : Nat) (v1 : Int32) (v2 : Int32) (M : Mem), f_X2_lengthen_b10 n10 v1 v2 M = some r → K p l e (k_rm 1 40) s m args below meth c 7 G shC (MQ below (k_Qv G shC r) args s 0 0 (k_A G shC.length)) 10 [(0, .ref (G.2.1 36)), (1, .int v1), (2, .int v2)] [] M := by
    intro n10
    induction n10 with
    | zero => intro v1 v2 M hf; simp [f_X2_lengthen_b10] at hf
    | succ n10 ih10 =>
      have k_b18 : ∀ (n18 : Nat) (v1 : Int32) (v2 : Int32) (v3 : Int32) (M : Mem), f_X2_lengthen_b18 (f_X2_lengthen_b10 n10) n18 v1 v2 v3 M = some r → K p l e (k_rm 1 40) s m args below meth c 7 G shC (MQ below (k_Qv G shC r) args s 0 0 (k_A G shC.length)) 18 [(0, .ref (G.2.1 36)), (1, .int v1), (2, .int v2), (3, .int v3)] [] M := by
        intro n18
        induction n18 with
        | zero => intro v1 v2 v3 M hf; simp [f_X2_lengthen_b18] at hf
        | succ n18 ih18 =>
          have k_b40 : ∀ (n40 : Nat) (v1 : Int32) (v2 : Int32) (v3 : Int32) (v4 : Int64) (v6 : Int32) (M : Mem), f_X2_lengthen_b40 (f_X2_lengthen_b10 n10) (f_X2_lengthen_b18 (f_X2_lengthen_b10 n10) n18) n40 v1 v2 v3 v4 v6 M = some r → K p l e (k_rm 1 40) s m args below meth c 7 G shC (MQ below (k_Qv G shC r) args s 0 0 (k_A G shC.length)) 40 [(0, .ref (G.2.1 36)), (1, .int v1), (2, .int v2), (3, .int v3), (4, .long v4), (6, .int v6)] [] M := by
            intro n40
            induction n40 with
            | zero => intro v1 v2 v3 v4 v6 M hf; simp [f_X2_lengthen_b40] at hf
            | succ n40 ih40 =>
              have k_b89 : ∀ (v1 : Int32) (v2 : Int32) (v3 : Int32) (v4 : Int64) (v6 : Int32) (M : Mem), f_X2_lengthen_b89 (f_X2_lengthen_b10 n10) (f_X2_lengthen_b18 (f_X2_lengthen_b10 n10) n18) (f_X2_lengthen_b40 (f_X2_lengthen_b10 n10) (f_X2_lengthen_b18 (f_X2_lengthen_b10 n10) n18) n40) v1 v2 v3 v4 v6 M = some r → K p l e (k_rm 1 40) s m args below meth c 7 G shC (MQ below (k_Qv G shC r) args s 0 0 (k_A G shC.length)) 89 [(0, .ref (G.2.1 36)), (1, .int v1), (2, .int v2), (3, .int v3), (4, .long v4), (6, .int v6)] [] M := by
                intro v1 v2 v3 v4 v6 M hf
                unfold f_X2_lengthen_b89 at hf
                refine k_aload_n C dX2_lengthen_89 0 rfl ?_
                refine k_getr C shC_36 (j := 5) rfl FL_X2_23 dX2_lengthen_90 ?_
                refine k_iload_n C dX2_lengthen_93 3 rfl ?_
                refine k_bipush C dX2_lengthen_94 (v := (9 : Int32)) rfl ?_
                refine k_imul C dX2_lengthen_96 ?_
                refine k_iload C dX2_lengthen_97 5 rfl ?_
                refine k_iadd C dX2_lengthen_99 ?_
                refine k_dup2 C dX2_lengthen_100 rfl rfl ?_
                obtain ⟨t10, ht10, hf⟩ := bnd hf
                refine k_lald C shC_40 ht10 dX2_lengthen_101 ?_
                refine k_lload C dX2_lengthen_102 4 rfl ?_
                refine k_ladd C dX2_lengthen_104 ?_
                obtain ⟨M11, hM11, hf⟩ := bnd hf
                refine k_last C shC_40 hM11 dX2_lengthen_105 ?_
                refine k_iinc C dX2_lengthen_106 5 rfl (v := (v6 + (1 : Int32))) rfl (by decide) [1, 2, 3, 4, 5, 0] (lv' := [(0, .ref (G.2.1 36)), (1, .int v1), (2, .int v2), (3, .int v3), (4, .long v4), (6, .int (v6 + (1 : Int32)))]) rfl ?_
                refine k_goto C dX2_lengthen_109 (tgt := 40) (by decide) ?_
                exact ih40 v1 v2 v3 v4 (v6 + (1 : Int32)) M11 hf
              have k_b74 : ∀ (v1 : Int32) (v2 : Int32) (v3 : Int32) (v4 : Int64) (v6 : Int32) (M : Mem), f_X2_lengthen_b74 (f_X2_lengthen_b10 n10) (f_X2_lengthen_b18 (f_X2_lengthen_b10 n10) n18) (f_X2_lengthen_b40 (f_X2_lengthen_b10 n10) (f_X2_lengthen_b18 (f_X2_lengthen_b10 n10) n18) n40) v1 v2 v3 v4 v6 M = some r → K p l e (k_rm 1 40) s m args below meth c 7 G shC (MQ below (k_Qv G shC r) args s 0 0 (k_A G shC.length)) 74 [(0, .ref (G.2.1 36)), (1, .int v1), (2, .int v2), (3, .int v3), (4, .long v4), (6, .int v6)] [] M := by
                intro v1 v2 v3 v4 v6 M hf
                unfold f_X2_lengthen_b74 at hf
                refine k_iload_n C dX2_lengthen_74 1 rfl ?_
                refine k_iconst C dX2_lengthen_75 (v := (2 : Int32)) rfl ?_
                rcases ite_g hf with ⟨c9, hf⟩ | ⟨c9, hf⟩
                · refine k_icmp_lt_t C dX2_lengthen_76 (tgt := 89) (by decide) c9 ?_
                  exact k_b89 v1 v2 v3 v4 v6 M hf
                · refine k_icmp_lt_f C dX2_lengthen_76 (tgt := 89) (by decide) c9 ?_
                  refine k_aload_n C dX2_lengthen_79 0 rfl ?_
                  refine k_iload C dX2_lengthen_80 5 rfl ?_
                  refine k_iload_n C dX2_lengthen_82 2 rfl ?_
                  obtain ⟨t12, ht12, hf⟩ := bnd hf
                  refine k_callVi C (As := [.int v6, .int v2]) (c_X2_mayFollow hap v6 v2 M t12 ht12) ML_X2_mayFollow wd_973 shC_36 rfl rfl rfl ⟨Nat.le_of_ble_eq_true rfl, Nat.le_of_ble_eq_true rfl⟩ (Nat.le_of_ble_eq_true rfl) dX2_lengthen_83 ?_
                  rcases ite_g hf with ⟨c13, hf⟩ | ⟨c13, hf⟩
                  · refine k_if_eq_t C dX2_lengthen_86 (tgt := 106) (by decide) c13 ?_
                    refine k_iinc C dX2_lengthen_106 5 rfl (v := (v6 + (1 : Int32))) rfl (by decide) [1, 2, 3, 4, 5, 0] (lv' := [(0, .ref (G.2.1 36)), (1, .int v1), (2, .int v2), (3, .int v3), (4, .long v4), (6, .int (v6 + (1 : Int32)))]) rfl ?_
                    refine k_goto C dX2_lengthen_109 (tgt := 40) (by decide) ?_
                    exact ih40 v1 v2 v3 v4 (v6 + (1 : Int32)) M hf
                  · refine k_if_eq_f C dX2_lengthen_86 (tgt := 106) (by decide) c13 ?_
                    exact k_b89 v1 v2 v3 v4 v6 M hf
              intro v1 v2 v3 v4 v6 M hf
              unfold f_X2_lengthen_b40 at hf
              refine k_iload C dX2_lengthen_40 5 rfl ?_
              refine k_aload_n C dX2_lengthen_42 0 rfl ?_
              refine k_getr C shC_36 (j := 0) rfl FL_X2_26 dX2_lengthen_43 ?_
              refine k_geti C shC_1 (j := 4) rfl FL_X2_34 dX2_lengthen_46 ?_
              rcases ite_g hf with ⟨c6, hf⟩ | ⟨c6, hf⟩
              · refine k_icmp_ge_t C dX2_lengthen_49 (tgt := 112) (by decide) c6 ?_
                refine k_iinc C dX2_lengthen_112 3 rfl (v := (v3 + (1 : Int32))) rfl (by decide) [1, 2, 3, 0] (lv' := [(0, .ref (G.2.1 36)), (1, .int v1), (2, .int v2), (3, .int (v3 + (1 : Int32)))]) rfl ?_
                refine k_goto C dX2_lengthen_115 (tgt := 18) (by decide) ?_
                exact ih18 v1 v2 (v3 + (1 : Int32)) M hf
              · refine k_icmp_ge_f C dX2_lengthen_49 (tgt := 112) (by decide) c6 ?_
                refine k_lload C dX2_lengthen_52 4 rfl ?_
                refine k_lconst C dX2_lengthen_54 (v := (0 : Int64)) rfl ?_
                refine k_lcmp C dX2_lengthen_55 ?_
                rcases ite_g hf with ⟨c7, hf⟩ | ⟨c7, hf⟩
                · refine k_if_le_t C dX2_lengthen_56 (tgt := 112) (by decide) c7 ?_
                  refine k_iinc C dX2_lengthen_112 3 rfl (v := (v3 + (1 : Int32))) rfl (by decide) [1, 2, 3, 0] (lv' := [(0, .ref (G.2.1 36)), (1, .int v1), (2, .int v2), (3, .int (v3 + (1 : Int32)))]) rfl ?_
                  refine k_goto C dX2_lengthen_115 (tgt := 18) (by decide) ?_
                  exact ih18 v1 v2 (v3 + (1 : Int32)) M hf
                · refine k_if_le_f C dX2_lengthen_56 (tgt := 112) (by decide) c7 ?_
                  refine k_iload_n C dX2_lengthen_59 1 rfl ?_
                  refine k_iconst C dX2_lengthen_60 (v := (1 : Int32)) rfl ?_
                  rcases ite_g hf with ⟨c8, hf⟩ | ⟨c8, hf⟩
                  · refine k_icmp_lt_t C dX2_lengthen_61 (tgt := 74) (by decide) c8 ?_
                    exact k_b74 v1 v2 v3 v4 v6 M hf
                  · refine k_icmp_lt_f C dX2_lengthen_61 (tgt := 74) (by decide) c8 ?_
                    refine k_aload_n C dX2_lengthen_64 0 rfl ?_
                    refine k_iload C dX2_lengthen_65 5 rfl ?_
                    refine k_iload_n C dX2_lengthen_67 3 rfl ?_
                    obtain ⟨t14, ht14, hf⟩ := bnd hf
                    refine k_callVi C (As := [.int v6, .int v3]) (c_X2_mayFollow hap v6 v3 M t14 ht14) ML_X2_mayFollow wd_973 shC_36 rfl rfl rfl ⟨Nat.le_of_ble_eq_true rfl, Nat.le_of_ble_eq_true rfl⟩ (Nat.le_of_ble_eq_true rfl) dX2_lengthen_68 ?_
                    rcases ite_g hf with ⟨c15, hf⟩ | ⟨c15, hf⟩
                    · refine k_if_eq_t C dX2_lengthen_71 (tgt := 106) (by decide) c15 ?_
                      refine k_iinc C dX2_lengthen_106 5 rfl (v := (v6 + (1 : Int32))) rfl (by decide) [1, 2, 3, 4, 5, 0] (lv' := [(0, .ref (G.2.1 36)), (1, .int v1), (2, .int v2), (3, .int v3), (4, .long v4), (6, .int (v6 + (1 : Int32)))]) rfl ?_
                      refine k_goto C dX2_lengthen_109 (tgt := 40) (by decide) ?_
                      exact ih40 v1 v2 v3 v4 (v6 + (1 : Int32)) M hf
                    · refine k_if_eq_f C dX2_lengthen_71 (tgt := 106) (by decide) c15 ?_
                      exact k_b74 v1 v2 v3 v4 v6 M hf
          intro v1 v2 v3 M hf
          unfold f_X2_lengthen_b18 at hf
          refine k_iload_n C dX2_lengthen_18 3 rfl ?_
          refine k_bipush C dX2_lengthen_19 (v := (9 : Int32)) rfl ?_
          rcases ite_g hf with ⟨c4, hf⟩ | ⟨c4, hf⟩
          · refine k_icmp_ge_t C dX2_lengthen_21 (tgt := 118) (by decide) c4 ?_
            refine k_iinc C dX2_lengthen_118 2 rfl (v := (v2 + (1 : Int32))) rfl (by decide) [1, 2, 0] (lv' := [(0, .ref (G.2.1 36)), (1, .int v1), (2, .int (v2 + (1 : Int32)))]) rfl ?_
            refine k_goto C dX2_lengthen_121 (tgt := 10) (by decide) ?_
            exact ih10 v1 (v2 + (1 : Int32)) M hf
          · refine k_icmp_ge_f C dX2_lengthen_21 (tgt := 118) (by decide) c4 ?_
            refine k_aload_n C dX2_lengthen_24 0 rfl ?_
            refine k_getr C shC_36 (j := 4) rfl FL_X2_19 dX2_lengthen_25 ?_
            refine k_iload_n C dX2_lengthen_28 2 rfl ?_
            refine k_bipush C dX2_lengthen_29 (v := (9 : Int32)) rfl ?_
            refine k_imul C dX2_lengthen_31 ?_
            refine k_iload_n C dX2_lengthen_32 3 rfl ?_
            refine k_iadd C dX2_lengthen_33 ?_
            obtain ⟨t5, ht5, hf⟩ := bnd hf
            refine k_lald C shC_39 ht5 dX2_lengthen_34 ?_
            refine k_lstore C dX2_lengthen_35 (by decide) [1, 2, 3, 4, 0] (lv' := [(0, .ref (G.2.1 36)), (1, .int v1), (2, .int v2), (3, .int v3), (4, .long t5)]) rfl ?_
            refine k_iconst C dX2_lengthen_37 (v := (0 : Int32)) rfl ?_
            refine k_istore C dX2_lengthen_38 (by decide) [1, 2, 3, 4, 5, 0] (lv' := [(0, .ref (G.2.1 36)), (1, .int v1), (2, .int v2), (3, .int v3), (4, .long t5), (6, .int (0 : Int32))]) rfl ?_
            exact k_b40 FU v1 v2 v3 t5 (0 : Int32) M hf
      intro v1 v2 M hf
      unfold f_X2_lengthen_b10 at hf
      refine k_iload_n C dX2_lengthen_10 2 rfl ?_
      refine k_bipush C dX2_lengthen_11 (v := (9 : Int32)) rfl ?_
      rcases ite_g hf with ⟨c2, hf⟩ | ⟨c2, hf⟩
      · refine k_icmp_ge_t C dX2_lengthen_13 (tgt := 124) (by decide) c2 ?_
        refine k_aload_n C dX2_lengthen_124 0 rfl ?_
        refine k_getr C shC_36 (j := 5) rfl FL_X2_23 dX2_lengthen_125 ?_
        refine k_iconst C dX2_lengthen_128 (v := (0 : Int32)) rfl ?_
        refine k_aload_n C dX2_lengthen_129 0 rfl ?_
        refine k_getr C shC_36 (j := 4) rfl FL_X2_19 dX2_lengthen_130 ?_
        refine k_iconst C dX2_lengthen_133 (v := (0 : Int32)) rfl ?_
        refine k_bipush C dX2_lengthen_134 (v := (81 : Int32)) rfl ?_
        obtain ⟨M3, hM3, hf⟩ := bnd hf
        refine k_cpyL C W_cpy wd_977 ⟨Nat.le_of_ble_eq_true rfl, Nat.le_of_ble_eq_true rfl⟩ shC_40 shC_39 hM3 dX2_lengthen_136 ?_
        exact k_vret C hr hlk (Option.some.inj hf) dX2_lengthen_139
      · refine k_icmp_ge_f C dX2_lengthen_13 (tgt := 124) (by decide) c2 ?_
        refine k_iconst C dX2_lengthen_16 (v := (0 : Int32)) rfl ?_
        refine k_istore_n C dX2_lengthen_17 (by decide) [1, 2, 3, 0] (lv' := [(0, .ref (G.2.1 36)), (1, .int v1), (2, .int v2), (3, .int (0 : Int32))]) rfl ?_
        exact k_b18 FU v1 v2 (0 : Int32) M hf
  unfold f_X2_lengthen at hf
  refine k_lv (lv' := [(0, .ref (G.2.1 36)), (1, .int v1)]) [0, 1] rfl ?_
  refine k_aload_n C dX2_lengthen_0 0 rfl ?_
  refine k_getr C shC_36 (j := 5) rfl FL_X2_23 dX2_lengthen_1 ?_
  refine k_lconst C dX2_lengthen_4 (v := (0 : Int64)) rfl ?_
  obtain ⟨M1, hM1, hf⟩ := bnd hf
  refine k_callSv C (As := [.ref (G.2.1 40), .long (0 : Int64)]) (c_J7_fill_d0a16 hap 40 81 shC_40 (0 : Int64) M0 M1 hM1) MS_J7_fill_d0a16 wd_966 rfl rfl ⟨Nat.le_of_ble_eq_true rfl, Nat.le_of_ble_eq_true rfl⟩ (Nat.le_of_ble_eq_true rfl) dX2_lengthen_5 ?_
  refine k_iconst C dX2_lengthen_8 (v := (0 : Int32)) rfl ?_
  refine k_istore_n C dX2_lengthen_9 (by decide) [1, 2, 0] (lv' := [(0, .ref (G.2.1 36)), (1, .int v1), (2, .int (0 : Int32))]) rfl ?_
  exact k_b10 FU v1 (0 : Int32) M1 hf
theorem dX2_songRows_0 : decode cX2_songRows 0 = .ok (.aload_n 0, 1) := by decide +kernel
theorem dX2_songRows_1 : decode cX2_songRows 1 = .ok (.getfield 30, 3) := by decide +kernel
theorem dX2_songRows_4 : decode cX2_songRows 4 = .ok (.invokevirtual 45, 3) := by decide +kernel
theorem dX2_songRows_7 : decode cX2_songRows 7 = .ok (.aload_n 0, 1) := by decide +kernel
theorem dX2_songRows_8 : decode cX2_songRows 8 = .ok (.getfield 19, 3) := by decide +kernel
theorem dX2_songRows_11 : decode cX2_songRows 11 = .ok (.lconst 0, 1) := by decide +kernel
theorem dX2_songRows_12 : decode cX2_songRows 12 = .ok (.invokestatic 83, 3) := by decide +kernel
theorem dX2_songRows_15 : decode cX2_songRows 15 = .ok (.aload_n 0, 1) := by decide +kernel
theorem dX2_songRows_16 : decode cX2_songRows 16 = .ok (.getfield 19, 3) := by decide +kernel
theorem dX2_songRows_19 : decode cX2_songRows 19 = .ok (.bipush 80, 2) := by decide +kernel
theorem dX2_songRows_21 : decode cX2_songRows 21 = .ok (.lconst 1, 1) := by decide +kernel
theorem dX2_songRows_22 : decode cX2_songRows 22 = .ok (.lastore, 1) := by decide +kernel
theorem dX2_songRows_23 : decode cX2_songRows 23 = .ok (.iconst 0, 1) := by decide +kernel
theorem dX2_songRows_24 : decode cX2_songRows 24 = .ok (.istore_n 3, 1) := by decide +kernel
theorem dX2_songRows_25 : decode cX2_songRows 25 = .ok (.iload_n 3, 1) := by decide +kernel
theorem dX2_songRows_26 : decode cX2_songRows 26 = .ok (.iload_n 1, 1) := by decide +kernel
theorem dX2_songRows_27 : decode cX2_songRows 27 = .ok (.if_icmp .ge 14, 3) := by decide +kernel
theorem dX2_songRows_30 : decode cX2_songRows 30 = .ok (.aload_n 0, 1) := by decide +kernel
theorem dX2_songRows_31 : decode cX2_songRows 31 = .ok (.iload_n 2, 1) := by decide +kernel
theorem dX2_songRows_32 : decode cX2_songRows 32 = .ok (.invokevirtual 89, 3) := by decide +kernel
theorem dX2_songRows_35 : decode cX2_songRows 35 = .ok (.iinc 3 1, 3) := by decide +kernel
theorem dX2_songRows_38 : decode cX2_songRows 38 = .ok (.goto (-13), 3) := by decide +kernel
theorem dX2_songRows_41 : decode cX2_songRows 41 = .ok (.lconst 0, 1) := by decide +kernel
theorem dX2_songRows_42 : decode cX2_songRows 42 = .ok (.lstore_n 3, 1) := by decide +kernel
theorem dX2_songRows_43 : decode cX2_songRows 43 = .ok (.iconst 0, 1) := by decide +kernel
theorem dX2_songRows_44 : decode cX2_songRows 44 = .ok (.istore 5, 2) := by decide +kernel
theorem dX2_songRows_46 : decode cX2_songRows 46 = .ok (.iload 5, 2) := by decide +kernel
theorem dX2_songRows_48 : decode cX2_songRows 48 = .ok (.aload_n 0, 1) := by decide +kernel
theorem dX2_songRows_49 : decode cX2_songRows 49 = .ok (.getfield 19, 3) := by decide +kernel
theorem dX2_songRows_52 : decode cX2_songRows 52 = .ok (.arraylength, 1) := by decide +kernel
theorem dX2_songRows_53 : decode cX2_songRows 53 = .ok (.if_icmp .ge 19, 3) := by decide +kernel
theorem dX2_songRows_56 : decode cX2_songRows 56 = .ok (.lload_n 3, 1) := by decide +kernel
theorem dX2_songRows_57 : decode cX2_songRows 57 = .ok (.aload_n 0, 1) := by decide +kernel
theorem dX2_songRows_58 : decode cX2_songRows 58 = .ok (.getfield 19, 3) := by decide +kernel
theorem dX2_songRows_61 : decode cX2_songRows 61 = .ok (.iload 5, 2) := by decide +kernel
theorem dX2_songRows_63 : decode cX2_songRows 63 = .ok (.laload, 1) := by decide +kernel
theorem dX2_songRows_64 : decode cX2_songRows 64 = .ok (.ladd, 1) := by decide +kernel
theorem dX2_songRows_65 : decode cX2_songRows 65 = .ok (.lstore_n 3, 1) := by decide +kernel
theorem dX2_songRows_66 : decode cX2_songRows 66 = .ok (.iinc 5 1, 3) := by decide +kernel
theorem dX2_songRows_69 : decode cX2_songRows 69 = .ok (.goto (-23), 3) := by decide +kernel
theorem dX2_songRows_72 : decode cX2_songRows 72 = .ok (.lload_n 3, 1) := by decide +kernel
theorem dX2_songRows_73 : decode cX2_songRows 73 = .ok (.lreturn, 1) := by decide +kernel
set_option maxRecDepth 100000 in
set_option maxHeartbeats 4000000 in
theorem c_X2_songRows {l : Launch} {G : Gx} (hap : k_ap G shC.length) (v1 : Int32) (v2 : Int32) (M0 : Mem) (r : Int64 × Mem) (hf : f_X2_songRows v1 v2 M0 = some r) : k_Met l yX2_songRows cX2_songRows 6 (some .long) 4 88 G shC [.ref (G.2.1 36), .int v1, .int v2] M0 (k_Ql G shC r.1 r.2) := by
  refine k_Met_of (by decide) hap (Nat.le_of_ble_eq_true rfl) ?_
  intro p e s m args below meth c C hr hlk
  have C : Cx p s m args c cX2_songRows RX2 6 G shC := C
  have k_b46 : ∀ (n46 : Nat) (v3 : Int64) (v5 : Int32) (M : Mem), f_X2_songRows_b46 n46 v3 v5 M = some r → K p l e (k_rm 4 88) s m args below meth c 6 G shC (MQ below (k_Ql G shC r.1 r.2) args s 0 0 (k_A G shC.length)) 46 [(0, .ref (G.2.1 36)), (3, .long v3), (5, .int v5)] [] M := by
    intro n46
    induction n46 with
    | zero => intro v3 v5 M hf; simp [f_X2_songRows_b46] at hf
    | succ n46 ih46 =>
      intro v3 v5 M hf
      unfold f_X2_songRows_b46 at hf
      refine k_iload C dX2_songRows_46 2 rfl ?_
      refine k_aload_n C dX2_songRows_48 0 rfl ?_
      refine k_getr C shC_36 (j := 4) rfl FL_X2_19 dX2_songRows_49 ?_
      refine k_alenL C shC_39 dX2_songRows_52 ?_
      rcases ite_g hf with ⟨c6, hf⟩ | ⟨c6, hf⟩
      · refine k_icmp_ge_t C dX2_songRows_53 (tgt := 72) (by decide) c6 ?_
        refine k_lload_n C dX2_songRows_72 1 rfl ?_
        exact k_lret C hr hlk (prf hf) (prs hf) dX2_songRows_73
      · refine k_icmp_ge_f C dX2_songRows_53 (tgt := 72) (by decide) c6 ?_
        refine k_lload_n C dX2_songRows_56 1 rfl ?_
        refine k_aload_n C dX2_songRows_57 0 rfl ?_
        refine k_getr C shC_36 (j := 4) rfl FL_X2_19 dX2_songRows_58 ?_
        refine k_iload C dX2_songRows_61 2 rfl ?_
        obtain ⟨t7, ht7, hf⟩ := bnd hf
        refine k_lald C shC_39 ht7 dX2_songRows_63 ?_
        refine k_ladd C dX2_songRows_64 ?_
        refine k_lstore_n C dX2_songRows_65 (by decide) [1, 0, 2] (lv' := [(0, .ref (G.2.1 36)), (3, .long (v3 + t7)), (5, .int v5)]) rfl ?_
        refine k_iinc C dX2_songRows_66 2 rfl (v := (v5 + (1 : Int32))) rfl (by decide) [1, 2, 0] (lv' := [(0, .ref (G.2.1 36)), (3, .long (v3 + t7)), (5, .int (v5 + (1 : Int32)))]) rfl ?_
        refine k_goto C dX2_songRows_69 (tgt := 46) (by decide) ?_
        exact ih46 (v3 + t7) (v5 + (1 : Int32)) M hf
  have k_b25 : ∀ (n25 : Nat) (v1 : Int32) (v2 : Int32) (v3 : Int32) (M : Mem), f_X2_songRows_b25 n25 v1 v2 v3 M = some r → K p l e (k_rm 4 88) s m args below meth c 6 G shC (MQ below (k_Ql G shC r.1 r.2) args s 0 0 (k_A G shC.length)) 25 [(0, .ref (G.2.1 36)), (1, .int v1), (2, .int v2), (3, .int v3)] [] M := by
    intro n25
    induction n25 with
    | zero => intro v1 v2 v3 M hf; simp [f_X2_songRows_b25] at hf
    | succ n25 ih25 =>
      intro v1 v2 v3 M hf
      unfold f_X2_songRows_b25 at hf
      refine k_iload_n C dX2_songRows_25 3 rfl ?_
      refine k_iload_n C dX2_songRows_26 1 rfl ?_
      rcases ite_g hf with ⟨c5, hf⟩ | ⟨c5, hf⟩
      · refine k_icmp_ge_t C dX2_songRows_27 (tgt := 41) (by decide) c5 ?_
        refine k_lconst C dX2_songRows_41 (v := (0 : Int64)) rfl ?_
        refine k_lstore_n C dX2_songRows_42 (by decide) [1, 0] (lv' := [(0, .ref (G.2.1 36)), (3, .long (0 : Int64))]) rfl ?_
        refine k_iconst C dX2_songRows_43 (v := (0 : Int32)) rfl ?_
        refine k_istore C dX2_songRows_44 (by decide) [1, 2, 0] (lv' := [(0, .ref (G.2.1 36)), (3, .long (0 : Int64)), (5, .int (0 : Int32))]) rfl ?_
        exact k_b46 FU (0 : Int64) (0 : Int32) M hf
      · refine k_icmp_ge_f C dX2_songRows_27 (tgt := 41) (by decide) c5 ?_
        refine k_aload_n C dX2_songRows_30 0 rfl ?_
        refine k_iload_n C dX2_songRows_31 2 rfl ?_
        obtain ⟨M8, hM8, hf⟩ := bnd hf
        refine k_callVv C (As := [.int v2]) (c_X2_lengthen hap v2 M M8 hM8) ML_X2_lengthen wd_969 shC_36 rfl rfl rfl ⟨Nat.le_of_ble_eq_true rfl, Nat.le_of_ble_eq_true rfl⟩ (Nat.le_of_ble_eq_true rfl) dX2_songRows_32 ?_
        refine k_iinc C dX2_songRows_35 3 rfl (v := (v3 + (1 : Int32))) rfl (by decide) [1, 2, 3, 0] (lv' := [(0, .ref (G.2.1 36)), (1, .int v1), (2, .int v2), (3, .int (v3 + (1 : Int32)))]) rfl ?_
        refine k_goto C dX2_songRows_38 (tgt := 25) (by decide) ?_
        exact ih25 v1 v2 (v3 + (1 : Int32)) M8 hf
  unfold f_X2_songRows at hf
  refine k_lv (lv' := [(0, .ref (G.2.1 36)), (1, .int v1), (2, .int v2)]) [0, 1, 2] rfl ?_
  refine k_aload_n C dX2_songRows_0 0 rfl ?_
  refine k_getr C shC_36 (j := 1) rfl FL_X2_30 dX2_songRows_1 ?_
  obtain ⟨M1, hM1, hf⟩ := bnd hf
  refine k_callVv C (As := []) (c_X8_open hap M0 M1 hM1) ML_X8_open wd_761 shC_25 rfl rfl rfl ⟨Nat.le_of_ble_eq_true rfl, Nat.le_of_ble_eq_true rfl⟩ (Nat.le_of_ble_eq_true rfl) dX2_songRows_4 ?_
  refine k_aload_n C dX2_songRows_7 0 rfl ?_
  refine k_getr C shC_36 (j := 4) rfl FL_X2_19 dX2_songRows_8 ?_
  refine k_lconst C dX2_songRows_11 (v := (0 : Int64)) rfl ?_
  obtain ⟨M2, hM2, hf⟩ := bnd hf
  refine k_callSv C (As := [.ref (G.2.1 39), .long (0 : Int64)]) (c_J7_fill_d0a16 hap 39 81 shC_39 (0 : Int64) M1 M2 hM2) MS_J7_fill_d0a16 wd_966 rfl rfl ⟨Nat.le_of_ble_eq_true rfl, Nat.le_of_ble_eq_true rfl⟩ (Nat.le_of_ble_eq_true rfl) dX2_songRows_12 ?_
  refine k_aload_n C dX2_songRows_15 0 rfl ?_
  refine k_getr C shC_36 (j := 4) rfl FL_X2_19 dX2_songRows_16 ?_
  refine k_bipush C dX2_songRows_19 (v := (80 : Int32)) rfl ?_
  refine k_lconst C dX2_songRows_21 (v := (1 : Int64)) rfl ?_
  obtain ⟨M3, hM3, hf⟩ := bnd hf
  refine k_last C shC_39 hM3 dX2_songRows_22 ?_
  refine k_iconst C dX2_songRows_23 (v := (0 : Int32)) rfl ?_
  refine k_istore_n C dX2_songRows_24 (by decide) [1, 2, 3, 0] (lv' := [(0, .ref (G.2.1 36)), (1, .int v1), (2, .int v2), (3, .int (0 : Int32))]) rfl ?_
  exact k_b25 FU v1 v2 (0 : Int32) M3 hf
theorem dX2_firstCaught_0 : decode cX2_firstCaught 0 = .ok (.aload_n 0, 1) := by decide +kernel
theorem dX2_firstCaught_1 : decode cX2_firstCaught 1 = .ok (.getfield 30, 3) := by decide +kernel
theorem dX2_firstCaught_4 : decode cX2_firstCaught 4 = .ok (.invokevirtual 45, 3) := by decide +kernel
theorem dX2_firstCaught_7 : decode cX2_firstCaught 7 = .ok (.iconst 0, 1) := by decide +kernel
theorem dX2_firstCaught_8 : decode cX2_firstCaught 8 = .ok (.istore_n 2, 1) := by decide +kernel
theorem dX2_firstCaught_9 : decode cX2_firstCaught 9 = .ok (.iconst 0, 1) := by decide +kernel
theorem dX2_firstCaught_10 : decode cX2_firstCaught 10 = .ok (.istore_n 3, 1) := by decide +kernel
theorem dX2_firstCaught_11 : decode cX2_firstCaught 11 = .ok (.iconst 1, 1) := by decide +kernel
theorem dX2_firstCaught_12 : decode cX2_firstCaught 12 = .ok (.istore 4, 2) := by decide +kernel
theorem dX2_firstCaught_14 : decode cX2_firstCaught 14 = .ok (.iload 4, 2) := by decide +kernel
theorem dX2_firstCaught_16 : decode cX2_firstCaught 16 = .ok (.aload_n 0, 1) := by decide +kernel
theorem dX2_firstCaught_17 : decode cX2_firstCaught 17 = .ok (.getfield 26, 3) := by decide +kernel
theorem dX2_firstCaught_20 : decode cX2_firstCaught 20 = .ok (.getfield 34, 3) := by decide +kernel
theorem dX2_firstCaught_23 : decode cX2_firstCaught 23 = .ok (.iconst 1, 1) := by decide +kernel
theorem dX2_firstCaught_24 : decode cX2_firstCaught 24 = .ok (.iadd, 1) := by decide +kernel
theorem dX2_firstCaught_25 : decode cX2_firstCaught 25 = .ok (.if_icmp .gt 54, 3) := by decide +kernel
theorem dX2_firstCaught_28 : decode cX2_firstCaught 28 = .ok (.aload_n 0, 1) := by decide +kernel
theorem dX2_firstCaught_29 : decode cX2_firstCaught 29 = .ok (.getfield 26, 3) := by decide +kernel
theorem dX2_firstCaught_32 : decode cX2_firstCaught 32 = .ok (.getfield 34, 3) := by decide +kernel
theorem dX2_firstCaught_35 : decode cX2_firstCaught 35 = .ok (.ifCond .le 44, 3) := by decide +kernel
theorem dX2_firstCaught_38 : decode cX2_firstCaught 38 = .ok (.aload_n 0, 1) := by decide +kernel
theorem dX2_firstCaught_39 : decode cX2_firstCaught 39 = .ok (.getfield 30, 3) := by decide +kernel
theorem dX2_firstCaught_42 : decode cX2_firstCaught 42 = .ok (.getfield 40, 3) := by decide +kernel
theorem dX2_firstCaught_45 : decode cX2_firstCaught 45 = .ok (.iload_n 3, 1) := by decide +kernel
theorem dX2_firstCaught_46 : decode cX2_firstCaught 46 = .ok (.iaload, 1) := by decide +kernel
theorem dX2_firstCaught_47 : decode cX2_firstCaught 47 = .ok (.iload_n 2, 1) := by decide +kernel
theorem dX2_firstCaught_48 : decode cX2_firstCaught 48 = .ok (.iand, 1) := by decide +kernel
theorem dX2_firstCaught_49 : decode cX2_firstCaught 49 = .ok (.ifCond .eq 6, 3) := by decide +kernel
theorem dX2_firstCaught_52 : decode cX2_firstCaught 52 = .ok (.iload 4, 2) := by decide +kernel
theorem dX2_firstCaught_54 : decode cX2_firstCaught 54 = .ok (.ireturn, 1) := by decide +kernel
theorem dX2_firstCaught_55 : decode cX2_firstCaught 55 = .ok (.iload_n 2, 1) := by decide +kernel
theorem dX2_firstCaught_56 : decode cX2_firstCaught 56 = .ok (.iconst 1, 1) := by decide +kernel
theorem dX2_firstCaught_57 : decode cX2_firstCaught 57 = .ok (.iload_n 3, 1) := by decide +kernel
theorem dX2_firstCaught_58 : decode cX2_firstCaught 58 = .ok (.ishl, 1) := by decide +kernel
theorem dX2_firstCaught_59 : decode cX2_firstCaught 59 = .ok (.ior, 1) := by decide +kernel
theorem dX2_firstCaught_60 : decode cX2_firstCaught 60 = .ok (.istore_n 2, 1) := by decide +kernel
theorem dX2_firstCaught_61 : decode cX2_firstCaught 61 = .ok (.iload_n 3, 1) := by decide +kernel
theorem dX2_firstCaught_62 : decode cX2_firstCaught 62 = .ok (.iload_n 1, 1) := by decide +kernel
theorem dX2_firstCaught_63 : decode cX2_firstCaught 63 = .ok (.iadd, 1) := by decide +kernel
theorem dX2_firstCaught_64 : decode cX2_firstCaught 64 = .ok (.aload_n 0, 1) := by decide +kernel
theorem dX2_firstCaught_65 : decode cX2_firstCaught 65 = .ok (.getfield 26, 3) := by decide +kernel
theorem dX2_firstCaught_68 : decode cX2_firstCaught 68 = .ok (.getfield 34, 3) := by decide +kernel
theorem dX2_firstCaught_71 : decode cX2_firstCaught 71 = .ok (.irem, 1) := by decide +kernel
theorem dX2_firstCaught_72 : decode cX2_firstCaught 72 = .ok (.istore_n 3, 1) := by decide +kernel
theorem dX2_firstCaught_73 : decode cX2_firstCaught 73 = .ok (.iinc 4 1, 3) := by decide +kernel
theorem dX2_firstCaught_76 : decode cX2_firstCaught 76 = .ok (.goto (-62), 3) := by decide +kernel
theorem dX2_firstCaught_79 : decode cX2_firstCaught 79 = .ok (.bipush (-9), 2) := by decide +kernel
theorem dX2_firstCaught_81 : decode cX2_firstCaught 81 = .ok (.ireturn, 1) := by decide +kernel
set_option maxRecDepth 100000 in
set_option maxHeartbeats 4000000 in
theorem c_X2_firstCaught {l : Launch} {G : Gx} (hap : k_ap G shC.length) (v1 : Int32) (M0 : Mem) (r : Int32 × Mem) (hf : f_X2_firstCaught v1 M0 = some r) : k_Met l yX2_firstCaught cX2_firstCaught 5 (some .int) 4 88 G shC [.ref (G.2.1 36), .int v1] M0 (k_Qi G shC r.1 r.2) := by
  refine k_Met_of (by decide) hap (Nat.le_of_ble_eq_true rfl) ?_
  intro p e s m args below meth c C hr hlk
  have C : Cx p s m args c cX2_firstCaught RX2 5 G shC := C
  have k_b14 : ∀ (n14 : Nat) (v1 : Int32) (v2 : Int32) (v3 : Int32) (v4 : Int32) (M : Mem), f_X2_firstCaught_b14 n14 v1 v2 v3 v4 M = some r → K p l e (k_rm 4 88) s m args below meth c 5 G shC (MQ below (k_Qi G shC r.1 r.2) args s 0 0 (k_A G shC.length)) 14 [(0, .ref (G.2.1 36)), (1, .int v1), (2, .int v2), (3, .int v3), (4, .int v4)] [] M := by
    intro n14
    induction n14 with
    | zero => intro v1 v2 v3 v4 M hf; simp [f_X2_firstCaught_b14] at hf
    | succ n14 ih14 =>
      intro v1 v2 v3 v4 M hf
      unfold f_X2_firstCaught_b14 at hf
      refine k_iload C dX2_firstCaught_14 4 rfl ?_
      refine k_aload_n C dX2_firstCaught_16 0 rfl ?_
      refine k_getr C shC_36 (j := 0) rfl FL_X2_26 dX2_firstCaught_17 ?_
      refine k_geti C shC_1 (j := 4) rfl FL_X2_34 dX2_firstCaught_20 ?_
      refine k_iconst C dX2_firstCaught_23 (v := (1 : Int32)) rfl ?_
      refine k_iadd C dX2_firstCaught_24 ?_
      rcases ite_g hf with ⟨c2, hf⟩ | ⟨c2, hf⟩
      · refine k_icmp_gt_t C dX2_firstCaught_25 (tgt := 79) (by decide) c2 ?_
        refine k_bipush C dX2_firstCaught_79 (v := (-9 : Int32)) rfl ?_
        exact k_iret C hr hlk (prf hf) (prs hf) dX2_firstCaught_81
      · refine k_icmp_gt_f C dX2_firstCaught_25 (tgt := 79) (by decide) c2 ?_
        refine k_aload_n C dX2_firstCaught_28 0 rfl ?_
        refine k_getr C shC_36 (j := 0) rfl FL_X2_26 dX2_firstCaught_29 ?_
        refine k_geti C shC_1 (j := 4) rfl FL_X2_34 dX2_firstCaught_32 ?_
        rcases ite_g hf with ⟨c3, hf⟩ | ⟨c3, hf⟩
        · refine k_if_le_t C dX2_firstCaught_35 (tgt := 79) (by decide) c3 ?_
          refine k_bipush C dX2_firstCaught_79 (v := (-9 : Int32)) rfl ?_
          exact k_iret C hr hlk (prf hf) (prs hf) dX2_firstCaught_81
        · refine k_if_le_f C dX2_firstCaught_35 (tgt := 79) (by decide) c3 ?_
          refine k_aload_n C dX2_firstCaught_38 0 rfl ?_
          refine k_getr C shC_36 (j := 1) rfl FL_X2_30 dX2_firstCaught_39 ?_
          refine k_getr C shC_25 (j := 1) rfl FL_X2_40 dX2_firstCaught_42 ?_
          refine k_iload_n C dX2_firstCaught_45 3 rfl ?_
          obtain ⟨t4, ht4, hf⟩ := bnd hf
          refine k_iald C shC_26 ht4 dX2_firstCaught_46 ?_
          refine k_iload_n C dX2_firstCaught_47 2 rfl ?_
          refine k_iand C dX2_firstCaught_48 ?_
          rcases ite_g hf with ⟨c5, hf⟩ | ⟨c5, hf⟩
          · refine k_if_eq_t C dX2_firstCaught_49 (tgt := 55) (by decide) c5 ?_
            refine k_iload_n C dX2_firstCaught_55 2 rfl ?_
            refine k_iconst C dX2_firstCaught_56 (v := (1 : Int32)) rfl ?_
            refine k_iload_n C dX2_firstCaught_57 3 rfl ?_
            refine k_ishlJ C dX2_firstCaught_58 ?_
            refine k_ior C dX2_firstCaught_59 ?_
            refine k_istore_n C dX2_firstCaught_60 (by decide) [1, 2, 0, 3, 4] (lv' := [(0, .ref (G.2.1 36)), (1, .int v1), (2, .int (v2 ||| (jshl (1 : Int32) v3))), (3, .int v3), (4, .int v4)]) rfl ?_
            refine k_iload_n C dX2_firstCaught_61 3 rfl ?_
            refine k_iload_n C dX2_firstCaught_62 1 rfl ?_
            refine k_iadd C dX2_firstCaught_63 ?_
            refine k_aload_n C dX2_firstCaught_64 0 rfl ?_
            refine k_getr C shC_36 (j := 0) rfl FL_X2_26 dX2_firstCaught_65 ?_
            refine k_geti C shC_1 (j := 4) rfl FL_X2_34 dX2_firstCaught_68 ?_
            obtain ⟨t6, ht6, hf⟩ := bnd hf
            refine k_iremO C dX2_firstCaught_71 ht6 ?_
            refine k_istore_n C dX2_firstCaught_72 (by decide) [1, 2, 3, 0, 4] (lv' := [(0, .ref (G.2.1 36)), (1, .int v1), (2, .int (v2 ||| (jshl (1 : Int32) v3))), (3, .int t6), (4, .int v4)]) rfl ?_
            refine k_iinc C dX2_firstCaught_73 4 rfl (v := (v4 + (1 : Int32))) rfl (by decide) [1, 2, 3, 4, 0] (lv' := [(0, .ref (G.2.1 36)), (1, .int v1), (2, .int (v2 ||| (jshl (1 : Int32) v3))), (3, .int t6), (4, .int (v4 + (1 : Int32)))]) rfl ?_
            refine k_goto C dX2_firstCaught_76 (tgt := 14) (by decide) ?_
            exact ih14 v1 (v2 ||| (jshl (1 : Int32) v3)) t6 (v4 + (1 : Int32)) M hf
          · refine k_if_eq_f C dX2_firstCaught_49 (tgt := 55) (by decide) c5 ?_
            refine k_iload C dX2_firstCaught_52 4 rfl ?_
            exact k_iret C hr hlk (prf hf) (prs hf) dX2_firstCaught_54
  unfold f_X2_firstCaught at hf
  refine k_lv (lv' := [(0, .ref (G.2.1 36)), (1, .int v1)]) [0, 1] rfl ?_
  refine k_aload_n C dX2_firstCaught_0 0 rfl ?_
  refine k_getr C shC_36 (j := 1) rfl FL_X2_30 dX2_firstCaught_1 ?_
  obtain ⟨M1, hM1, hf⟩ := bnd hf
  refine k_callVv C (As := []) (c_X8_open hap M0 M1 hM1) ML_X8_open wd_761 shC_25 rfl rfl rfl ⟨Nat.le_of_ble_eq_true rfl, Nat.le_of_ble_eq_true rfl⟩ (Nat.le_of_ble_eq_true rfl) dX2_firstCaught_4 ?_
  refine k_iconst C dX2_firstCaught_7 (v := (0 : Int32)) rfl ?_
  refine k_istore_n C dX2_firstCaught_8 (by decide) [1, 2, 0] (lv' := [(0, .ref (G.2.1 36)), (1, .int v1), (2, .int (0 : Int32))]) rfl ?_
  refine k_iconst C dX2_firstCaught_9 (v := (0 : Int32)) rfl ?_
  refine k_istore_n C dX2_firstCaught_10 (by decide) [1, 2, 3, 0] (lv' := [(0, .ref (G.2.1 36)), (1, .int v1), (2, .int (0 : Int32)), (3, .int (0 : Int32))]) rfl ?_
  refine k_iconst C dX2_firstCaught_11 (v := (1 : Int32)) rfl ?_
  refine k_istore C dX2_firstCaught_12 (by decide) [1, 2, 3, 4, 0] (lv' := [(0, .ref (G.2.1 36)), (1, .int v1), (2, .int (0 : Int32)), (3, .int (0 : Int32)), (4, .int (1 : Int32))]) rfl ?_
  exact k_b14 FU v1 (0 : Int32) (0 : Int32) (1 : Int32) M1 hf
theorem dX8_shift_0 : decode cX8_shift 0 = .ok (.aload_n 0, 1) := by decide +kernel
theorem dX8_shift_1 : decode cX8_shift 1 = .ok (.getfield 9, 3) := by decide +kernel
theorem dX8_shift_4 : decode cX8_shift 4 = .ok (.iload_n 1, 1) := by decide +kernel
theorem dX8_shift_5 : decode cX8_shift 5 = .ok (.iaload, 1) := by decide +kernel
theorem dX8_shift_6 : decode cX8_shift 6 = .ok (.istore_n 3, 1) := by decide +kernel
theorem dX8_shift_7 : decode cX8_shift 7 = .ok (.iconst 0, 1) := by decide +kernel
theorem dX8_shift_8 : decode cX8_shift 8 = .ok (.istore 4, 2) := by decide +kernel
theorem dX8_shift_10 : decode cX8_shift 10 = .ok (.iload 4, 2) := by decide +kernel
theorem dX8_shift_12 : decode cX8_shift 12 = .ok (.aload_n 0, 1) := by decide +kernel
theorem dX8_shift_13 : decode cX8_shift 13 = .ok (.getfield 18, 3) := by decide +kernel
theorem dX8_shift_16 : decode cX8_shift 16 = .ok (.getfield 35, 3) := by decide +kernel
theorem dX8_shift_19 : decode cX8_shift 19 = .ok (.if_icmp .ge 29, 3) := by decide +kernel
theorem dX8_shift_22 : decode cX8_shift 22 = .ok (.iload_n 3, 1) := by decide +kernel
theorem dX8_shift_23 : decode cX8_shift 23 = .ok (.iload 4, 2) := by decide +kernel
theorem dX8_shift_25 : decode cX8_shift 25 = .ok (.ishr, 1) := by decide +kernel
theorem dX8_shift_26 : decode cX8_shift 26 = .ok (.iconst 1, 1) := by decide +kernel
theorem dX8_shift_27 : decode cX8_shift 27 = .ok (.iand, 1) := by decide +kernel
theorem dX8_shift_28 : decode cX8_shift 28 = .ok (.ifCond .eq 14, 3) := by decide +kernel
theorem dX8_shift_31 : decode cX8_shift 31 = .ok (.aload_n 0, 1) := by decide +kernel
theorem dX8_shift_32 : decode cX8_shift 32 = .ok (.getfield 15, 3) := by decide +kernel
theorem dX8_shift_35 : decode cX8_shift 35 = .ok (.iload 4, 2) := by decide +kernel
theorem dX8_shift_37 : decode cX8_shift 37 = .ok (.dup2, 1) := by decide +kernel
theorem dX8_shift_38 : decode cX8_shift 38 = .ok (.iaload, 1) := by decide +kernel
theorem dX8_shift_39 : decode cX8_shift 39 = .ok (.iload_n 2, 1) := by decide +kernel
theorem dX8_shift_40 : decode cX8_shift 40 = .ok (.iadd, 1) := by decide +kernel
theorem dX8_shift_41 : decode cX8_shift 41 = .ok (.iastore, 1) := by decide +kernel
theorem dX8_shift_42 : decode cX8_shift 42 = .ok (.iinc 4 1, 3) := by decide +kernel
theorem dX8_shift_45 : decode cX8_shift 45 = .ok (.goto (-35), 3) := by decide +kernel
theorem dX8_shift_48 : decode cX8_shift 48 = .ok (.return_, 1) := by decide +kernel
set_option maxRecDepth 100000 in
set_option maxHeartbeats 4000000 in
theorem c_X8_shift {l : Launch} {G : Gx} (hap : k_ap G shC.length) (v1 : Int32) (v2 : Int32) (M0 : Mem) (r : Mem) (hf : f_X8_shift v1 v2 M0 = some r) : k_Met l yX8_shift cX8_shift 5 none 0 0 G shC [.ref (G.2.1 25), .int v1, .int v2] M0 (k_Qv G shC r) := by
  refine k_Met_of (by decide) hap (Nat.le_of_ble_eq_true rfl) ?_
  intro p e s m args below meth c C hr hlk
  have C : Cx p s m args c cX8_shift RX8 5 G shC := C
  have k_b10 : ∀ (n10 : Nat) (v2 : Int32) (v3 : Int32) (v4 : Int32) (M : Mem), f_X8_shift_b10 n10 v2 v3 v4 M = some r → K p l e (k_rm 0 0) s m args below meth c 5 G shC (MQ below (k_Qv G shC r) args s 0 0 (k_A G shC.length)) 10 [(0, .ref (G.2.1 25)), (2, .int v2), (3, .int v3), (4, .int v4)] [] M := by
    intro n10
    induction n10 with
    | zero => intro v2 v3 v4 M hf; simp [f_X8_shift_b10] at hf
    | succ n10 ih10 =>
      intro v2 v3 v4 M hf
      unfold f_X8_shift_b10 at hf
      refine k_iload C dX8_shift_10 3 rfl ?_
      refine k_aload_n C dX8_shift_12 0 rfl ?_
      refine k_getr C shC_25 (j := 0) rfl FL_X8_18 dX8_shift_13 ?_
      refine k_geti C shC_1 (j := 4) rfl FL_X8_35 dX8_shift_16 ?_
      rcases ite_g hf with ⟨c2, hf⟩ | ⟨c2, hf⟩
      · refine k_icmp_ge_t C dX8_shift_19 (tgt := 48) (by decide) c2 ?_
        exact k_vret C hr hlk (Option.some.inj hf) dX8_shift_48
      · refine k_icmp_ge_f C dX8_shift_19 (tgt := 48) (by decide) c2 ?_
        refine k_iload_n C dX8_shift_22 2 rfl ?_
        refine k_iload C dX8_shift_23 3 rfl ?_
        refine k_ishrJ C dX8_shift_25 ?_
        refine k_iconst C dX8_shift_26 (v := (1 : Int32)) rfl ?_
        refine k_iand C dX8_shift_27 ?_
        rcases ite_g hf with ⟨c3, hf⟩ | ⟨c3, hf⟩
        · refine k_if_eq_t C dX8_shift_28 (tgt := 42) (by decide) c3 ?_
          refine k_iinc C dX8_shift_42 3 rfl (v := (v4 + (1 : Int32))) rfl (by decide) [1, 2, 3, 0] (lv' := [(0, .ref (G.2.1 25)), (2, .int v2), (3, .int v3), (4, .int (v4 + (1 : Int32)))]) rfl ?_
          refine k_goto C dX8_shift_45 (tgt := 10) (by decide) ?_
          exact ih10 v2 v3 (v4 + (1 : Int32)) M hf
        · refine k_if_eq_f C dX8_shift_28 (tgt := 42) (by decide) c3 ?_
          refine k_aload_n C dX8_shift_31 0 rfl ?_
          refine k_getr C shC_25 (j := 2) rfl FL_X8_15 dX8_shift_32 ?_
          refine k_iload C dX8_shift_35 3 rfl ?_
          refine k_dup2 C dX8_shift_37 rfl rfl ?_
          obtain ⟨t4, ht4, hf⟩ := bnd hf
          refine k_iald C shC_27 ht4 dX8_shift_38 ?_
          refine k_iload_n C dX8_shift_39 1 rfl ?_
          refine k_iadd C dX8_shift_40 ?_
          obtain ⟨M5, hM5, hf⟩ := bnd hf
          refine k_iast C shC_27 hM5 dX8_shift_41 ?_
          refine k_iinc C dX8_shift_42 3 rfl (v := (v4 + (1 : Int32))) rfl (by decide) [1, 2, 3, 0] (lv' := [(0, .ref (G.2.1 25)), (2, .int v2), (3, .int v3), (4, .int (v4 + (1 : Int32)))]) rfl ?_
          refine k_goto C dX8_shift_45 (tgt := 10) (by decide) ?_
          exact ih10 v2 v3 (v4 + (1 : Int32)) M5 hf
  unfold f_X8_shift at hf
  refine k_lv (lv' := [(0, .ref (G.2.1 25)), (1, .int v1), (2, .int v2)]) [0, 1, 2] rfl ?_
  refine k_aload_n C dX8_shift_0 0 rfl ?_
  refine k_getr C shC_25 (j := 1) rfl FL_X8_9 dX8_shift_1 ?_
  refine k_iload_n C dX8_shift_4 1 rfl ?_
  obtain ⟨t1, ht1, hf⟩ := bnd hf
  refine k_iald C shC_26 ht1 dX8_shift_5 ?_
  refine k_istore_n C dX8_shift_6 (by decide) [1, 3, 0] (lv' := [(0, .ref (G.2.1 25)), (2, .int v2), (3, .int t1)]) rfl ?_
  refine k_iconst C dX8_shift_7 (v := (0 : Int32)) rfl ?_
  refine k_istore C dX8_shift_8 (by decide) [1, 2, 3, 0] (lv' := [(0, .ref (G.2.1 25)), (2, .int v2), (3, .int t1), (4, .int (0 : Int32))]) rfl ?_
  exact k_b10 FU v2 t1 (0 : Int32) M0 hf
theorem dX8_step_0 : decode cX8_step 0 = .ok (.aload_n 0, 1) := by decide +kernel
theorem dX8_step_1 : decode cX8_step 1 = .ok (.getfield 18, 3) := by decide +kernel
theorem dX8_step_4 : decode cX8_step 4 = .ok (.iload_n 1, 1) := by decide +kernel
theorem dX8_step_5 : decode cX8_step 5 = .ok (.aload_n 0, 1) := by decide +kernel
theorem dX8_step_6 : decode cX8_step 6 = .ok (.getfield 15, 3) := by decide +kernel
theorem dX8_step_9 : decode cX8_step 9 = .ok (.iload_n 1, 1) := by decide +kernel
theorem dX8_step_10 : decode cX8_step 10 = .ok (.iaload, 1) := by decide +kernel
theorem dX8_step_11 : decode cX8_step 11 = .ok (.invokevirtual 58, 3) := by decide +kernel
theorem dX8_step_14 : decode cX8_step 14 = .ok (.istore_n 2, 1) := by decide +kernel
theorem dX8_step_15 : decode cX8_step 15 = .ok (.aload_n 0, 1) := by decide +kernel
theorem dX8_step_16 : decode cX8_step 16 = .ok (.iload_n 1, 1) := by decide +kernel
theorem dX8_step_17 : decode cX8_step 17 = .ok (.iconst 1, 1) := by decide +kernel
theorem dX8_step_18 : decode cX8_step 18 = .ok (.invokevirtual 62, 3) := by decide +kernel
theorem dX8_step_21 : decode cX8_step 21 = .ok (.iload_n 2, 1) := by decide +kernel
theorem dX8_step_22 : decode cX8_step 22 = .ok (.ireturn, 1) := by decide +kernel
set_option maxRecDepth 100000 in
set_option maxHeartbeats 4000000 in
theorem c_X8_step {l : Launch} {G : Gx} (hap : k_ap G shC.length) (v1 : Int32) (M0 : Mem) (r : Int32 × Mem) (hf : f_X8_step v1 M0 = some r) : k_Met l yX8_step cX8_step 3 (some .int) 1 24 G shC [.ref (G.2.1 25), .int v1] M0 (k_Qi G shC r.1 r.2) := by
  refine k_Met_of (by decide) hap (Nat.le_of_ble_eq_true rfl) ?_
  intro p e s m args below meth c C hr hlk
  have C : Cx p s m args c cX8_step RX8 3 G shC := C
  unfold f_X8_step at hf
  refine k_lv (lv' := [(0, .ref (G.2.1 25)), (1, .int v1)]) [0, 1] rfl ?_
  refine k_aload_n C dX8_step_0 0 rfl ?_
  refine k_getr C shC_25 (j := 0) rfl FL_X8_18 dX8_step_1 ?_
  refine k_iload_n C dX8_step_4 1 rfl ?_
  refine k_aload_n C dX8_step_5 0 rfl ?_
  refine k_getr C shC_25 (j := 2) rfl FL_X8_15 dX8_step_6 ?_
  refine k_iload_n C dX8_step_9 1 rfl ?_
  obtain ⟨t1, ht1, hf⟩ := bnd hf
  refine k_iald C shC_27 ht1 dX8_step_10 ?_
  obtain ⟨t2, ht2, hf⟩ := bnd hf
  refine k_callVi C (As := [.int v1, .int t1]) (c_X0_dueFor hap 1 BD_1 v1 t1 M0 t2 ht2) ML_X0_dueFor wd_596 shC_1 rfl rfl rfl ⟨Nat.le_of_ble_eq_true rfl, Nat.le_of_ble_eq_true rfl⟩ (Nat.le_of_ble_eq_true rfl) dX8_step_11 ?_
  refine k_istore_n C dX8_step_14 (by decide) [1, 2, 0] (lv' := [(0, .ref (G.2.1 25)), (1, .int v1), (2, .int t2)]) rfl ?_
  refine k_aload_n C dX8_step_15 0 rfl ?_
  refine k_iload_n C dX8_step_16 1 rfl ?_
  refine k_iconst C dX8_step_17 (v := (1 : Int32)) rfl ?_
  obtain ⟨M3, hM3, hf⟩ := bnd hf
  refine k_callVv C (As := [.int v1, .int (1 : Int32)]) (c_X8_shift hap v1 (1 : Int32) M0 M3 hM3) ML_X8_shift wd_600 shC_25 rfl rfl rfl ⟨Nat.le_of_ble_eq_true rfl, Nat.le_of_ble_eq_true rfl⟩ (Nat.le_of_ble_eq_true rfl) dX8_step_18 ?_
  refine k_iload_n C dX8_step_21 2 rfl ?_
  exact k_iret C hr hlk (prf hf) (prs hf) dX8_step_22
theorem dX3_reckonPlaces_0 : decode cX3_reckonPlaces 0 = .ok (.aload_n 0, 1) := by decide +kernel
theorem dX3_reckonPlaces_1 : decode cX3_reckonPlaces 1 = .ok (.getfield 25, 3) := by decide +kernel
theorem dX3_reckonPlaces_4 : decode cX3_reckonPlaces 4 = .ok (.invokevirtual 29, 3) := by decide +kernel
theorem dX3_reckonPlaces_7 : decode cX3_reckonPlaces 7 = .ok (.iconst 0, 1) := by decide +kernel
theorem dX3_reckonPlaces_8 : decode cX3_reckonPlaces 8 = .ok (.istore_n 1, 1) := by decide +kernel
theorem dX3_reckonPlaces_9 : decode cX3_reckonPlaces 9 = .ok (.iload_n 1, 1) := by decide +kernel
theorem dX3_reckonPlaces_10 : decode cX3_reckonPlaces 10 = .ok (.aload_n 0, 1) := by decide +kernel
theorem dX3_reckonPlaces_11 : decode cX3_reckonPlaces 11 = .ok (.getfield 21, 3) := by decide +kernel
theorem dX3_reckonPlaces_14 : decode cX3_reckonPlaces 14 = .ok (.getfield 34, 3) := by decide +kernel
theorem dX3_reckonPlaces_17 : decode cX3_reckonPlaces 17 = .ok (.if_icmp .ge 48, 3) := by decide +kernel
theorem dX3_reckonPlaces_20 : decode cX3_reckonPlaces 20 = .ok (.aload_n 0, 1) := by decide +kernel
theorem dX3_reckonPlaces_21 : decode cX3_reckonPlaces 21 = .ok (.getfield 21, 3) := by decide +kernel
theorem dX3_reckonPlaces_24 : decode cX3_reckonPlaces 24 = .ok (.getfield 40, 3) := by decide +kernel
theorem dX3_reckonPlaces_27 : decode cX3_reckonPlaces 27 = .ok (.iload_n 1, 1) := by decide +kernel
theorem dX3_reckonPlaces_28 : decode cX3_reckonPlaces 28 = .ok (.iaload, 1) := by decide +kernel
theorem dX3_reckonPlaces_29 : decode cX3_reckonPlaces 29 = .ok (.istore_n 2, 1) := by decide +kernel
theorem dX3_reckonPlaces_30 : decode cX3_reckonPlaces 30 = .ok (.aload_n 0, 1) := by decide +kernel
theorem dX3_reckonPlaces_31 : decode cX3_reckonPlaces 31 = .ok (.getfield 9, 3) := by decide +kernel
theorem dX3_reckonPlaces_34 : decode cX3_reckonPlaces 34 = .ok (.iload_n 1, 1) := by decide +kernel
theorem dX3_reckonPlaces_35 : decode cX3_reckonPlaces 35 = .ok (.aload_n 0, 1) := by decide +kernel
theorem dX3_reckonPlaces_36 : decode cX3_reckonPlaces 36 = .ok (.getfield 25, 3) := by decide +kernel
theorem dX3_reckonPlaces_39 : decode cX3_reckonPlaces 39 = .ok (.getfield 43, 3) := by decide +kernel
theorem dX3_reckonPlaces_42 : decode cX3_reckonPlaces 42 = .ok (.iload_n 2, 1) := by decide +kernel
theorem dX3_reckonPlaces_43 : decode cX3_reckonPlaces 43 = .ok (.iaload, 1) := by decide +kernel
theorem dX3_reckonPlaces_44 : decode cX3_reckonPlaces 44 = .ok (.iastore, 1) := by decide +kernel
theorem dX3_reckonPlaces_45 : decode cX3_reckonPlaces 45 = .ok (.aload_n 0, 1) := by decide +kernel
theorem dX3_reckonPlaces_46 : decode cX3_reckonPlaces 46 = .ok (.getfield 15, 3) := by decide +kernel
theorem dX3_reckonPlaces_49 : decode cX3_reckonPlaces 49 = .ok (.iload_n 1, 1) := by decide +kernel
theorem dX3_reckonPlaces_50 : decode cX3_reckonPlaces 50 = .ok (.aload_n 0, 1) := by decide +kernel
theorem dX3_reckonPlaces_51 : decode cX3_reckonPlaces 51 = .ok (.getfield 25, 3) := by decide +kernel
theorem dX3_reckonPlaces_54 : decode cX3_reckonPlaces 54 = .ok (.iload_n 2, 1) := by decide +kernel
theorem dX3_reckonPlaces_55 : decode cX3_reckonPlaces 55 = .ok (.invokevirtual 44, 3) := by decide +kernel
theorem dX3_reckonPlaces_58 : decode cX3_reckonPlaces 58 = .ok (.iastore, 1) := by decide +kernel
theorem dX3_reckonPlaces_59 : decode cX3_reckonPlaces 59 = .ok (.iinc 1 1, 3) := by decide +kernel
theorem dX3_reckonPlaces_62 : decode cX3_reckonPlaces 62 = .ok (.goto (-53), 3) := by decide +kernel
theorem dX3_reckonPlaces_65 : decode cX3_reckonPlaces 65 = .ok (.return_, 1) := by decide +kernel
set_option maxRecDepth 100000 in
set_option maxHeartbeats 4000000 in
theorem c_X3_reckonPlaces {l : Launch} {G : Gx} (hap : k_ap G shC.length) (M0 : Mem) (r : Mem) (hf : f_X3_reckonPlaces M0 = some r) : k_Met l yX3_reckonPlaces cX3_reckonPlaces 3 none 4 88 G shC [.ref (G.2.1 28)] M0 (k_Qv G shC r) := by
  refine k_Met_of (by decide) hap (Nat.le_of_ble_eq_true rfl) ?_
  intro p e s m args below meth c C hr hlk
  have C : Cx p s m args c cX3_reckonPlaces RX3 3 G shC := C
  have k_b9 : ∀ (n9 : Nat) (v1 : Int32) (M : Mem), f_X3_reckonPlaces_b9 n9 v1 M = some r → K p l e (k_rm 4 88) s m args below meth c 3 G shC (MQ below (k_Qv G shC r) args s 0 0 (k_A G shC.length)) 9 [(0, .ref (G.2.1 28)), (1, .int v1)] [] M := by
    intro n9
    induction n9 with
    | zero => intro v1 M hf; simp [f_X3_reckonPlaces_b9] at hf
    | succ n9 ih9 =>
      intro v1 M hf
      unfold f_X3_reckonPlaces_b9 at hf
      refine k_iload_n C dX3_reckonPlaces_9 1 rfl ?_
      refine k_aload_n C dX3_reckonPlaces_10 0 rfl ?_
      refine k_getr C shC_28 (j := 0) rfl FL_X3_21 dX3_reckonPlaces_11 ?_
      refine k_geti C shC_1 (j := 5) rfl FL_X3_34 dX3_reckonPlaces_14 ?_
      rcases ite_g hf with ⟨c2, hf⟩ | ⟨c2, hf⟩
      · refine k_icmp_ge_t C dX3_reckonPlaces_17 (tgt := 65) (by decide) c2 ?_
        exact k_vret C hr hlk (Option.some.inj hf) dX3_reckonPlaces_65
      · refine k_icmp_ge_f C dX3_reckonPlaces_17 (tgt := 65) (by decide) c2 ?_
        refine k_aload_n C dX3_reckonPlaces_20 0 rfl ?_
        refine k_getr C shC_28 (j := 0) rfl FL_X3_21 dX3_reckonPlaces_21 ?_
        refine k_getr C shC_1 (j := 3) rfl FL_X3_40 dX3_reckonPlaces_24 ?_
        refine k_iload_n C dX3_reckonPlaces_27 1 rfl ?_
        obtain ⟨t3, ht3, hf⟩ := bnd hf
        refine k_iald C shC_5 ht3 dX3_reckonPlaces_28 ?_
        refine k_istore_n C dX3_reckonPlaces_29 (by decide) [1, 2, 0] (lv' := [(0, .ref (G.2.1 28)), (1, .int v1), (2, .int t3)]) rfl ?_
        refine k_aload_n C dX3_reckonPlaces_30 0 rfl ?_
        refine k_getr C shC_28 (j := 2) rfl FL_X3_9 dX3_reckonPlaces_31 ?_
        refine k_iload_n C dX3_reckonPlaces_34 1 rfl ?_
        refine k_aload_n C dX3_reckonPlaces_35 0 rfl ?_
        refine k_getr C shC_28 (j := 1) rfl FL_X3_25 dX3_reckonPlaces_36 ?_
        refine k_getr C shC_25 (j := 2) rfl FL_X3_43 dX3_reckonPlaces_39 ?_
        refine k_iload_n C dX3_reckonPlaces_42 2 rfl ?_
        obtain ⟨t4, ht4, hf⟩ := bnd hf
        refine k_iald C shC_27 ht4 dX3_reckonPlaces_43 ?_
        obtain ⟨M5, hM5, hf⟩ := bnd hf
        refine k_iast C shC_29 hM5 dX3_reckonPlaces_44 ?_
        refine k_aload_n C dX3_reckonPlaces_45 0 rfl ?_
        refine k_getr C shC_28 (j := 3) rfl FL_X3_15 dX3_reckonPlaces_46 ?_
        refine k_iload_n C dX3_reckonPlaces_49 1 rfl ?_
        refine k_aload_n C dX3_reckonPlaces_50 0 rfl ?_
        refine k_getr C shC_28 (j := 1) rfl FL_X3_25 dX3_reckonPlaces_51 ?_
        refine k_iload_n C dX3_reckonPlaces_54 2 rfl ?_
        obtain ⟨⟨t6, M6⟩, ht6, hf⟩ := bnd hf
        replace hf := bp_s hf
        refine k_callVi C (As := [.int t3]) (c_X8_step hap t3 M5 (t6, M6) ht6) ML_X8_step wd_675 shC_25 rfl rfl rfl ⟨Nat.le_of_ble_eq_true rfl, Nat.le_of_ble_eq_true rfl⟩ (Nat.le_of_ble_eq_true rfl) dX3_reckonPlaces_55 ?_
        obtain ⟨M7, hM7, hf⟩ := bnd hf
        refine k_iast C shC_30 hM7 dX3_reckonPlaces_58 ?_
        refine k_iinc C dX3_reckonPlaces_59 1 rfl (v := (v1 + (1 : Int32))) rfl (by decide) [1, 0] (lv' := [(0, .ref (G.2.1 28)), (1, .int (v1 + (1 : Int32)))]) rfl ?_
        refine k_goto C dX3_reckonPlaces_62 (tgt := 9) (by decide) ?_
        exact ih9 (v1 + (1 : Int32)) M7 hf
  unfold f_X3_reckonPlaces at hf
  refine k_lv (lv' := [(0, .ref (G.2.1 28))]) [0] rfl ?_
  refine k_aload_n C dX3_reckonPlaces_0 0 rfl ?_
  refine k_getr C shC_28 (j := 1) rfl FL_X3_25 dX3_reckonPlaces_1 ?_
  obtain ⟨M1, hM1, hf⟩ := bnd hf
  refine k_callVv C (As := []) (c_X8_open hap M0 M1 hM1) ML_X8_open wd_674 shC_25 rfl rfl rfl ⟨Nat.le_of_ble_eq_true rfl, Nat.le_of_ble_eq_true rfl⟩ (Nat.le_of_ble_eq_true rfl) dX3_reckonPlaces_4 ?_
  refine k_iconst C dX3_reckonPlaces_7 (v := (0 : Int32)) rfl ?_
  refine k_istore_n C dX3_reckonPlaces_8 (by decide) [1, 0] (lv' := [(0, .ref (G.2.1 28)), (1, .int (0 : Int32))]) rfl ?_
  exact k_b9 FU (0 : Int32) M1 hf
theorem dX8_walkLog_0 : decode cX8_walkLog 0 = .ok (.iconst 0, 1) := by decide +kernel
theorem dX8_walkLog_1 : decode cX8_walkLog 1 = .ok (.istore_n 1, 1) := by decide +kernel
theorem dX8_walkLog_2 : decode cX8_walkLog 2 = .ok (.iconst 0, 1) := by decide +kernel
theorem dX8_walkLog_3 : decode cX8_walkLog 3 = .ok (.istore_n 2, 1) := by decide +kernel
theorem dX8_walkLog_4 : decode cX8_walkLog 4 = .ok (.iload_n 2, 1) := by decide +kernel
theorem dX8_walkLog_5 : decode cX8_walkLog 5 = .ok (.aload_n 0, 1) := by decide +kernel
theorem dX8_walkLog_6 : decode cX8_walkLog 6 = .ok (.getfield 18, 3) := by decide +kernel
theorem dX8_walkLog_9 : decode cX8_walkLog 9 = .ok (.getfield 65, 3) := by decide +kernel
theorem dX8_walkLog_12 : decode cX8_walkLog 12 = .ok (.if_icmp .ge 25, 3) := by decide +kernel
theorem dX8_walkLog_15 : decode cX8_walkLog 15 = .ok (.iload_n 1, 1) := by decide +kernel
theorem dX8_walkLog_16 : decode cX8_walkLog 16 = .ok (.aload_n 0, 1) := by decide +kernel
theorem dX8_walkLog_17 : decode cX8_walkLog 17 = .ok (.aload_n 0, 1) := by decide +kernel
theorem dX8_walkLog_18 : decode cX8_walkLog 18 = .ok (.getfield 18, 3) := by decide +kernel
theorem dX8_walkLog_21 : decode cX8_walkLog 21 = .ok (.getfield 68, 3) := by decide +kernel
theorem dX8_walkLog_24 : decode cX8_walkLog 24 = .ok (.iload_n 2, 1) := by decide +kernel
theorem dX8_walkLog_25 : decode cX8_walkLog 25 = .ok (.iaload, 1) := by decide +kernel
theorem dX8_walkLog_26 : decode cX8_walkLog 26 = .ok (.invokevirtual 71, 3) := by decide +kernel
theorem dX8_walkLog_29 : decode cX8_walkLog 29 = .ok (.iadd, 1) := by decide +kernel
theorem dX8_walkLog_30 : decode cX8_walkLog 30 = .ok (.istore_n 1, 1) := by decide +kernel
theorem dX8_walkLog_31 : decode cX8_walkLog 31 = .ok (.iinc 2 1, 3) := by decide +kernel
theorem dX8_walkLog_34 : decode cX8_walkLog 34 = .ok (.goto (-30), 3) := by decide +kernel
theorem dX8_walkLog_37 : decode cX8_walkLog 37 = .ok (.iload_n 1, 1) := by decide +kernel
theorem dX8_walkLog_38 : decode cX8_walkLog 38 = .ok (.ireturn, 1) := by decide +kernel
set_option maxRecDepth 100000 in
set_option maxHeartbeats 4000000 in
theorem c_X8_walkLog {l : Launch} {G : Gx} (hap : k_ap G shC.length) (M0 : Mem) (r : Int32 × Mem) (hf : f_X8_walkLog M0 = some r) : k_Met l yX8_walkLog cX8_walkLog 3 (some .int) 2 46 G shC [.ref (G.2.1 25)] M0 (k_Qi G shC r.1 r.2) := by
  refine k_Met_of (by decide) hap (Nat.le_of_ble_eq_true rfl) ?_
  intro p e s m args below meth c C hr hlk
  have C : Cx p s m args c cX8_walkLog RX8 3 G shC := C
  have k_b4 : ∀ (n4 : Nat) (v1 : Int32) (v2 : Int32) (M : Mem), f_X8_walkLog_b4 n4 v1 v2 M = some r → K p l e (k_rm 2 46) s m args below meth c 3 G shC (MQ below (k_Qi G shC r.1 r.2) args s 0 0 (k_A G shC.length)) 4 [(0, .ref (G.2.1 25)), (1, .int v1), (2, .int v2)] [] M := by
    intro n4
    induction n4 with
    | zero => intro v1 v2 M hf; simp [f_X8_walkLog_b4] at hf
    | succ n4 ih4 =>
      intro v1 v2 M hf
      unfold f_X8_walkLog_b4 at hf
      refine k_iload_n C dX8_walkLog_4 2 rfl ?_
      refine k_aload_n C dX8_walkLog_5 0 rfl ?_
      refine k_getr C shC_25 (j := 0) rfl FL_X8_18 dX8_walkLog_6 ?_
      refine k_geti C shC_1 (j := 5) rfl FL_X8_65 dX8_walkLog_9 ?_
      rcases ite_g hf with ⟨c1, hf⟩ | ⟨c1, hf⟩
      · refine k_icmp_ge_t C dX8_walkLog_12 (tgt := 37) (by decide) c1 ?_
        refine k_iload_n C dX8_walkLog_37 1 rfl ?_
        exact k_iret C hr hlk (prf hf) (prs hf) dX8_walkLog_38
      · refine k_icmp_ge_f C dX8_walkLog_12 (tgt := 37) (by decide) c1 ?_
        refine k_iload_n C dX8_walkLog_15 1 rfl ?_
        refine k_aload_n C dX8_walkLog_16 0 rfl ?_
        refine k_aload_n C dX8_walkLog_17 0 rfl ?_
        refine k_getr C shC_25 (j := 0) rfl FL_X8_18 dX8_walkLog_18 ?_
        refine k_getr C shC_1 (j := 3) rfl FL_X8_68 dX8_walkLog_21 ?_
        refine k_iload_n C dX8_walkLog_24 2 rfl ?_
        obtain ⟨t2, ht2, hf⟩ := bnd hf
        refine k_iald C shC_5 ht2 dX8_walkLog_25 ?_
        obtain ⟨⟨t3, M3⟩, ht3, hf⟩ := bnd hf
        replace hf := bp_s hf
        refine k_callVi C (As := [.int t2]) (c_X8_step hap t2 M (t3, M3) ht3) ML_X8_step wd_592 shC_25 rfl rfl rfl ⟨Nat.le_of_ble_eq_true rfl, Nat.le_of_ble_eq_true rfl⟩ (Nat.le_of_ble_eq_true rfl) dX8_walkLog_26 ?_
        refine k_iadd C dX8_walkLog_29 ?_
        refine k_istore_n C dX8_walkLog_30 (by decide) [1, 0, 2] (lv' := [(0, .ref (G.2.1 25)), (1, .int (v1 + t3)), (2, .int v2)]) rfl ?_
        refine k_iinc C dX8_walkLog_31 2 rfl (v := (v2 + (1 : Int32))) rfl (by decide) [1, 2, 0] (lv' := [(0, .ref (G.2.1 25)), (1, .int (v1 + t3)), (2, .int (v2 + (1 : Int32)))]) rfl ?_
        refine k_goto C dX8_walkLog_34 (tgt := 4) (by decide) ?_
        exact ih4 (v1 + t3) (v2 + (1 : Int32)) M3 hf
  unfold f_X8_walkLog at hf
  refine k_lv (lv' := [(0, .ref (G.2.1 25))]) [0] rfl ?_
  refine k_iconst C dX8_walkLog_0 (v := (0 : Int32)) rfl ?_
  refine k_istore_n C dX8_walkLog_1 (by decide) [1, 0] (lv' := [(0, .ref (G.2.1 25)), (1, .int (0 : Int32))]) rfl ?_
  refine k_iconst C dX8_walkLog_2 (v := (0 : Int32)) rfl ?_
  refine k_istore_n C dX8_walkLog_3 (by decide) [1, 2, 0] (lv' := [(0, .ref (G.2.1 25)), (1, .int (0 : Int32)), (2, .int (0 : Int32))]) rfl ?_
  exact k_b4 FU (0 : Int32) (0 : Int32) M0 hf
theorem dX8_total_0 : decode cX8_total 0 = .ok (.aload_n 0, 1) := by decide +kernel
theorem dX8_total_1 : decode cX8_total 1 = .ok (.aload_n 0, 1) := by decide +kernel
theorem dX8_total_2 : decode cX8_total 2 = .ok (.getfield 18, 3) := by decide +kernel
theorem dX8_total_5 : decode cX8_total 5 = .ok (.getfield 22, 3) := by decide +kernel
theorem dX8_total_8 : decode cX8_total 8 = .ok (.aload_n 0, 1) := by decide +kernel
theorem dX8_total_9 : decode cX8_total 9 = .ok (.getfield 18, 3) := by decide +kernel
theorem dX8_total_12 : decode cX8_total 12 = .ok (.getfield 28, 3) := by decide +kernel
theorem dX8_total_15 : decode cX8_total 15 = .ok (.invokevirtual 31, 3) := by decide +kernel
theorem dX8_total_18 : decode cX8_total 18 = .ok (.aload_n 0, 1) := by decide +kernel
theorem dX8_total_19 : decode cX8_total 19 = .ok (.invokevirtual 48, 3) := by decide +kernel
theorem dX8_total_22 : decode cX8_total 22 = .ok (.ireturn, 1) := by decide +kernel
set_option maxRecDepth 100000 in
set_option maxHeartbeats 4000000 in
theorem c_X8_total {l : Launch} {G : Gx} (hap : k_ap G shC.length) (M0 : Mem) (r : Int32 × Mem) (hf : f_X8_total M0 = some r) : k_Met l yX8_total cX8_total 1 (some .int) 3 68 G shC [.ref (G.2.1 25)] M0 (k_Qi G shC r.1 r.2) := by
  refine k_Met_of (by decide) hap (Nat.le_of_ble_eq_true rfl) ?_
  intro p e s m args below meth c C hr hlk
  have C : Cx p s m args c cX8_total RX8 1 G shC := C
  unfold f_X8_total at hf
  refine k_lv (lv' := [(0, .ref (G.2.1 25))]) [0] rfl ?_
  refine k_aload_n C dX8_total_0 0 rfl ?_
  refine k_aload_n C dX8_total_1 0 rfl ?_
  refine k_getr C shC_25 (j := 0) rfl FL_X8_18 dX8_total_2 ?_
  refine k_geti C shC_1 (j := 6) rfl FL_X8_22 dX8_total_5 ?_
  refine k_aload_n C dX8_total_8 0 rfl ?_
  refine k_getr C shC_25 (j := 0) rfl FL_X8_18 dX8_total_9 ?_
  refine k_geti C shC_1 (j := 7) rfl FL_X8_28 dX8_total_12 ?_
  obtain ⟨M1, hM1, hf⟩ := bnd hf
  refine k_callVv C (As := [.int (M0.1 1 6), .int (M0.1 1 7)]) (c_X8_openBy hap (M0.1 1 6) (M0.1 1 7) M0 M1 hM1) ML_X8_openBy wd_567 shC_25 rfl rfl rfl ⟨Nat.le_of_ble_eq_true rfl, Nat.le_of_ble_eq_true rfl⟩ (Nat.le_of_ble_eq_true rfl) dX8_total_15 ?_
  refine k_aload_n C dX8_total_18 0 rfl ?_
  obtain ⟨⟨t2, M2⟩, ht2, hf⟩ := bnd hf
  replace hf := bp_s hf
  refine k_callVi C (As := []) (c_X8_walkLog hap M1 (t2, M2) ht2) ML_X8_walkLog wd_588 shC_25 rfl rfl rfl ⟨Nat.le_of_ble_eq_true rfl, Nat.le_of_ble_eq_true rfl⟩ (Nat.le_of_ble_eq_true rfl) dX8_total_19 ?_
  exact k_iret C hr hlk (prf hf) (prs hf) dX8_total_22
theorem dX3_total_0 : decode cX3_total 0 = .ok (.aload_n 0, 1) := by decide +kernel
theorem dX3_total_1 : decode cX3_total 1 = .ok (.getfield 25, 3) := by decide +kernel
theorem dX3_total_4 : decode cX3_total 4 = .ok (.invokevirtual 48, 3) := by decide +kernel
theorem dX3_total_7 : decode cX3_total 7 = .ok (.ireturn, 1) := by decide +kernel
set_option maxRecDepth 100000 in
set_option maxHeartbeats 4000000 in
theorem c_X3_total {l : Launch} {G : Gx} (hap : k_ap G shC.length) (M0 : Mem) (r : Int32 × Mem) (hf : f_X3_total M0 = some r) : k_Met l yX3_total cX3_total 1 (some .int) 4 88 G shC [.ref (G.2.1 28)] M0 (k_Qi G shC r.1 r.2) := by
  refine k_Met_of (by decide) hap (Nat.le_of_ble_eq_true rfl) ?_
  intro p e s m args below meth c C hr hlk
  have C : Cx p s m args c cX3_total RX3 1 G shC := C
  unfold f_X3_total at hf
  refine k_lv (lv' := [(0, .ref (G.2.1 28))]) [0] rfl ?_
  refine k_aload_n C dX3_total_0 0 rfl ?_
  refine k_getr C shC_28 (j := 1) rfl FL_X3_25 dX3_total_1 ?_
  obtain ⟨⟨t1, M1⟩, ht1, hf⟩ := bnd hf
  replace hf := bp_s hf
  refine k_callVi C (As := []) (c_X8_total hap M0 (t1, M1) ht1) ML_X8_total wd_684 shC_25 rfl rfl rfl ⟨Nat.le_of_ble_eq_true rfl, Nat.le_of_ble_eq_true rfl⟩ (Nat.le_of_ble_eq_true rfl) dX3_total_4 ?_
  exact k_iret C hr hlk (prf hf) (prs hf) dX3_total_7
theorem dX3_ofPlace_0 : decode cX3_ofPlace 0 = .ok (.aload_n 0, 1) := by decide +kernel
theorem dX3_ofPlace_1 : decode cX3_ofPlace 1 = .ok (.invokevirtual 52, 3) := by decide +kernel
theorem dX3_ofPlace_4 : decode cX3_ofPlace 4 = .ok (.iload_n 2, 1) := by decide +kernel
theorem dX3_ofPlace_5 : decode cX3_ofPlace 5 = .ok (.iconst 1, 1) := by decide +kernel
theorem dX3_ofPlace_6 : decode cX3_ofPlace 6 = .ok (.if_icmp .ne 12, 3) := by decide +kernel
theorem dX3_ofPlace_9 : decode cX3_ofPlace 9 = .ok (.aload_n 0, 1) := by decide +kernel
theorem dX3_ofPlace_10 : decode cX3_ofPlace 10 = .ok (.getfield 9, 3) := by decide +kernel
theorem dX3_ofPlace_13 : decode cX3_ofPlace 13 = .ok (.iload_n 1, 1) := by decide +kernel
theorem dX3_ofPlace_14 : decode cX3_ofPlace 14 = .ok (.iaload, 1) := by decide +kernel
theorem dX3_ofPlace_15 : decode cX3_ofPlace 15 = .ok (.goto 9, 3) := by decide +kernel
theorem dX3_ofPlace_18 : decode cX3_ofPlace 18 = .ok (.aload_n 0, 1) := by decide +kernel
theorem dX3_ofPlace_19 : decode cX3_ofPlace 19 = .ok (.getfield 15, 3) := by decide +kernel
theorem dX3_ofPlace_22 : decode cX3_ofPlace 22 = .ok (.iload_n 1, 1) := by decide +kernel
theorem dX3_ofPlace_23 : decode cX3_ofPlace 23 = .ok (.iaload, 1) := by decide +kernel
theorem dX3_ofPlace_24 : decode cX3_ofPlace 24 = .ok (.ireturn, 1) := by decide +kernel
set_option maxRecDepth 100000 in
set_option maxHeartbeats 4000000 in
theorem c_X3_ofPlace {l : Launch} {G : Gx} (hap : k_ap G shC.length) (v1 : Int32) (v2 : Int32) (M0 : Mem) (r : Int32 × Mem) (hf : f_X3_ofPlace v1 v2 M0 = some r) : k_Met l yX3_ofPlace cX3_ofPlace 3 (some .int) 5 110 G shC [.ref (G.2.1 28), .int v1, .int v2] M0 (k_Qi G shC r.1 r.2) := by
  refine k_Met_of (by decide) hap (Nat.le_of_ble_eq_true rfl) ?_
  intro p e s m args below meth c C hr hlk
  have C : Cx p s m args c cX3_ofPlace RX3 3 G shC := C
  unfold f_X3_ofPlace at hf
  refine k_lv (lv' := [(0, .ref (G.2.1 28)), (1, .int v1), (2, .int v2)]) [0, 1, 2] rfl ?_
  refine k_aload_n C dX3_ofPlace_0 0 rfl ?_
  obtain ⟨M1, hM1, hf⟩ := bnd hf
  refine k_callVv C (As := []) (c_X3_reckonPlaces hap M0 M1 hM1) ML_X3_reckonPlaces wd_670 shC_28 rfl rfl rfl ⟨Nat.le_of_ble_eq_true rfl, Nat.le_of_ble_eq_true rfl⟩ (Nat.le_of_ble_eq_true rfl) dX3_ofPlace_1 ?_
  refine k_iload_n C dX3_ofPlace_4 2 rfl ?_
  refine k_iconst C dX3_ofPlace_5 (v := (1 : Int32)) rfl ?_
  rcases ite_g hf with ⟨c2, hf⟩ | ⟨c2, hf⟩
  · refine k_icmp_ne_f C dX3_ofPlace_6 (tgt := 18) (by decide) c2 ?_
    refine k_aload_n C dX3_ofPlace_9 0 rfl ?_
    refine k_getr C shC_28 (j := 2) rfl FL_X3_9 dX3_ofPlace_10 ?_
    refine k_iload_n C dX3_ofPlace_13 1 rfl ?_
    obtain ⟨t4, ht4, hf⟩ := bnd hf
    refine k_iald C shC_29 ht4 dX3_ofPlace_14 ?_
    refine k_goto C dX3_ofPlace_15 (tgt := 24) (by decide) ?_
    exact k_iret C hr hlk (prf hf) (prs hf) dX3_ofPlace_24
  · refine k_icmp_ne_t C dX3_ofPlace_6 (tgt := 18) (by decide) c2 ?_
    refine k_aload_n C dX3_ofPlace_18 0 rfl ?_
    refine k_getr C shC_28 (j := 3) rfl FL_X3_15 dX3_ofPlace_19 ?_
    refine k_iload_n C dX3_ofPlace_22 1 rfl ?_
    obtain ⟨t3, ht3, hf⟩ := bnd hf
    refine k_iald C shC_30 ht3 dX3_ofPlace_23 ?_
    exact k_iret C hr hlk (prf hf) (prs hf) dX3_ofPlace_24
theorem dX3_firstAbove_0 : decode cX3_firstAbove 0 = .ok (.aload_n 0, 1) := by decide +kernel
theorem dX3_firstAbove_1 : decode cX3_firstAbove 1 = .ok (.invokevirtual 52, 3) := by decide +kernel
theorem dX3_firstAbove_4 : decode cX3_firstAbove 4 = .ok (.iconst 0, 1) := by decide +kernel
theorem dX3_firstAbove_5 : decode cX3_firstAbove 5 = .ok (.istore_n 2, 1) := by decide +kernel
theorem dX3_firstAbove_6 : decode cX3_firstAbove 6 = .ok (.iload_n 2, 1) := by decide +kernel
theorem dX3_firstAbove_7 : decode cX3_firstAbove 7 = .ok (.aload_n 0, 1) := by decide +kernel
theorem dX3_firstAbove_8 : decode cX3_firstAbove 8 = .ok (.getfield 21, 3) := by decide +kernel
theorem dX3_firstAbove_11 : decode cX3_firstAbove 11 = .ok (.getfield 34, 3) := by decide +kernel
theorem dX3_firstAbove_14 : decode cX3_firstAbove 14 = .ok (.if_icmp .ge 21, 3) := by decide +kernel
theorem dX3_firstAbove_17 : decode cX3_firstAbove 17 = .ok (.aload_n 0, 1) := by decide +kernel
theorem dX3_firstAbove_18 : decode cX3_firstAbove 18 = .ok (.getfield 15, 3) := by decide +kernel
theorem dX3_firstAbove_21 : decode cX3_firstAbove 21 = .ok (.iload_n 2, 1) := by decide +kernel
theorem dX3_firstAbove_22 : decode cX3_firstAbove 22 = .ok (.iaload, 1) := by decide +kernel
theorem dX3_firstAbove_23 : decode cX3_firstAbove 23 = .ok (.iload_n 1, 1) := by decide +kernel
theorem dX3_firstAbove_24 : decode cX3_firstAbove 24 = .ok (.if_icmp .le 5, 3) := by decide +kernel
theorem dX3_firstAbove_27 : decode cX3_firstAbove 27 = .ok (.iload_n 2, 1) := by decide +kernel
theorem dX3_firstAbove_28 : decode cX3_firstAbove 28 = .ok (.ireturn, 1) := by decide +kernel
theorem dX3_firstAbove_29 : decode cX3_firstAbove 29 = .ok (.iinc 2 1, 3) := by decide +kernel
theorem dX3_firstAbove_32 : decode cX3_firstAbove 32 = .ok (.goto (-26), 3) := by decide +kernel
theorem dX3_firstAbove_35 : decode cX3_firstAbove 35 = .ok (.bipush (-9), 2) := by decide +kernel
theorem dX3_firstAbove_37 : decode cX3_firstAbove 37 = .ok (.ireturn, 1) := by decide +kernel
set_option maxRecDepth 100000 in
set_option maxHeartbeats 4000000 in
theorem c_X3_firstAbove {l : Launch} {G : Gx} (hap : k_ap G shC.length) (v1 : Int32) (M0 : Mem) (r : Int32 × Mem) (hf : f_X3_firstAbove v1 M0 = some r) : k_Met l yX3_firstAbove cX3_firstAbove 3 (some .int) 5 110 G shC [.ref (G.2.1 28), .int v1] M0 (k_Qi G shC r.1 r.2) := by
  refine k_Met_of (by decide) hap (Nat.le_of_ble_eq_true rfl) ?_
  intro p e s m args below meth c C hr hlk
  have C : Cx p s m args c cX3_firstAbove RX3 3 G shC := C
  have k_b6 : ∀ (n6 : Nat) (v1 : Int32) (v2 : Int32) (M : Mem), f_X3_firstAbove_b6 n6 v1 v2 M = some r → K p l e (k_rm 5 110) s m args below meth c 3 G shC (MQ below (k_Qi G shC r.1 r.2) args s 0 0 (k_A G shC.length)) 6 [(0, .ref (G.2.1 28)), (1, .int v1), (2, .int v2)] [] M := by
    intro n6
    induction n6 with
    | zero => intro v1 v2 M hf; simp [f_X3_firstAbove_b6] at hf
    | succ n6 ih6 =>
      intro v1 v2 M hf
      unfold f_X3_firstAbove_b6 at hf
      refine k_iload_n C dX3_firstAbove_6 2 rfl ?_
      refine k_aload_n C dX3_firstAbove_7 0 rfl ?_
      refine k_getr C shC_28 (j := 0) rfl FL_X3_21 dX3_firstAbove_8 ?_
      refine k_geti C shC_1 (j := 5) rfl FL_X3_34 dX3_firstAbove_11 ?_
      rcases ite_g hf with ⟨c2, hf⟩ | ⟨c2, hf⟩
      · refine k_icmp_ge_t C dX3_firstAbove_14 (tgt := 35) (by decide) c2 ?_
        refine k_bipush C dX3_firstAbove_35 (v := (-9 : Int32)) rfl ?_
        exact k_iret C hr hlk (prf hf) (prs hf) dX3_firstAbove_37
      · refine k_icmp_ge_f C dX3_firstAbove_14 (tgt := 35) (by decide) c2 ?_
        refine k_aload_n C dX3_firstAbove_17 0 rfl ?_
        refine k_getr C shC_28 (j := 3) rfl FL_X3_15 dX3_firstAbove_18 ?_
        refine k_iload_n C dX3_firstAbove_21 2 rfl ?_
        obtain ⟨t3, ht3, hf⟩ := bnd hf
        refine k_iald C shC_30 ht3 dX3_firstAbove_22 ?_
        refine k_iload_n C dX3_firstAbove_23 1 rfl ?_
        rcases ite_g hf with ⟨c4, hf⟩ | ⟨c4, hf⟩
        · refine k_icmp_le_t C dX3_firstAbove_24 (tgt := 29) (by decide) c4 ?_
          refine k_iinc C dX3_firstAbove_29 2 rfl (v := (v2 + (1 : Int32))) rfl (by decide) [1, 2, 0] (lv' := [(0, .ref (G.2.1 28)), (1, .int v1), (2, .int (v2 + (1 : Int32)))]) rfl ?_
          refine k_goto C dX3_firstAbove_32 (tgt := 6) (by decide) ?_
          exact ih6 v1 (v2 + (1 : Int32)) M hf
        · refine k_icmp_le_f C dX3_firstAbove_24 (tgt := 29) (by decide) c4 ?_
          refine k_iload_n C dX3_firstAbove_27 2 rfl ?_
          exact k_iret C hr hlk (prf hf) (prs hf) dX3_firstAbove_28
  unfold f_X3_firstAbove at hf
  refine k_lv (lv' := [(0, .ref (G.2.1 28)), (1, .int v1)]) [0, 1] rfl ?_
  refine k_aload_n C dX3_firstAbove_0 0 rfl ?_
  obtain ⟨M1, hM1, hf⟩ := bnd hf
  refine k_callVv C (As := []) (c_X3_reckonPlaces hap M0 M1 hM1) ML_X3_reckonPlaces wd_670 shC_28 rfl rfl rfl ⟨Nat.le_of_ble_eq_true rfl, Nat.le_of_ble_eq_true rfl⟩ (Nat.le_of_ble_eq_true rfl) dX3_firstAbove_1 ?_
  refine k_iconst C dX3_firstAbove_4 (v := (0 : Int32)) rfl ?_
  refine k_istore_n C dX3_firstAbove_5 (by decide) [1, 2, 0] (lv' := [(0, .ref (G.2.1 28)), (1, .int v1), (2, .int (0 : Int32))]) rfl ?_
  exact k_b6 FU v1 (0 : Int32) M1 hf
theorem dX3_withoutRepeats_0 : decode cX3_withoutRepeats 0 = .ok (.aload_n 0, 1) := by decide +kernel
theorem dX3_withoutRepeats_1 : decode cX3_withoutRepeats 1 = .ok (.invokevirtual 52, 3) := by decide +kernel
theorem dX3_withoutRepeats_4 : decode cX3_withoutRepeats 4 = .ok (.iconst 0, 1) := by decide +kernel
theorem dX3_withoutRepeats_5 : decode cX3_withoutRepeats 5 = .ok (.istore_n 1, 1) := by decide +kernel
theorem dX3_withoutRepeats_6 : decode cX3_withoutRepeats 6 = .ok (.iconst 0, 1) := by decide +kernel
theorem dX3_withoutRepeats_7 : decode cX3_withoutRepeats 7 = .ok (.istore_n 2, 1) := by decide +kernel
theorem dX3_withoutRepeats_8 : decode cX3_withoutRepeats 8 = .ok (.iload_n 2, 1) := by decide +kernel
theorem dX3_withoutRepeats_9 : decode cX3_withoutRepeats 9 = .ok (.aload_n 0, 1) := by decide +kernel
theorem dX3_withoutRepeats_10 : decode cX3_withoutRepeats 10 = .ok (.getfield 21, 3) := by decide +kernel
theorem dX3_withoutRepeats_13 : decode cX3_withoutRepeats 13 = .ok (.getfield 34, 3) := by decide +kernel
theorem dX3_withoutRepeats_16 : decode cX3_withoutRepeats 16 = .ok (.if_icmp .ge 24, 3) := by decide +kernel
theorem dX3_withoutRepeats_19 : decode cX3_withoutRepeats 19 = .ok (.aload_n 0, 1) := by decide +kernel
theorem dX3_withoutRepeats_20 : decode cX3_withoutRepeats 20 = .ok (.getfield 9, 3) := by decide +kernel
theorem dX3_withoutRepeats_23 : decode cX3_withoutRepeats 23 = .ok (.iload_n 2, 1) := by decide +kernel
theorem dX3_withoutRepeats_24 : decode cX3_withoutRepeats 24 = .ok (.iaload, 1) := by decide +kernel
theorem dX3_withoutRepeats_25 : decode cX3_withoutRepeats 25 = .ok (.ifCond .ne 9, 3) := by decide +kernel
theorem dX3_withoutRepeats_28 : decode cX3_withoutRepeats 28 = .ok (.iload_n 1, 1) := by decide +kernel
theorem dX3_withoutRepeats_29 : decode cX3_withoutRepeats 29 = .ok (.iconst 1, 1) := by decide +kernel
theorem dX3_withoutRepeats_30 : decode cX3_withoutRepeats 30 = .ok (.iload_n 2, 1) := by decide +kernel
theorem dX3_withoutRepeats_31 : decode cX3_withoutRepeats 31 = .ok (.ishl, 1) := by decide +kernel
theorem dX3_withoutRepeats_32 : decode cX3_withoutRepeats 32 = .ok (.ior, 1) := by decide +kernel
theorem dX3_withoutRepeats_33 : decode cX3_withoutRepeats 33 = .ok (.istore_n 1, 1) := by decide +kernel
theorem dX3_withoutRepeats_34 : decode cX3_withoutRepeats 34 = .ok (.iinc 2 1, 3) := by decide +kernel
theorem dX3_withoutRepeats_37 : decode cX3_withoutRepeats 37 = .ok (.goto (-29), 3) := by decide +kernel
theorem dX3_withoutRepeats_40 : decode cX3_withoutRepeats 40 = .ok (.iload_n 1, 1) := by decide +kernel
theorem dX3_withoutRepeats_41 : decode cX3_withoutRepeats 41 = .ok (.ireturn, 1) := by decide +kernel
set_option maxRecDepth 100000 in
set_option maxHeartbeats 4000000 in
theorem c_X3_withoutRepeats {l : Launch} {G : Gx} (hap : k_ap G shC.length) (M0 : Mem) (r : Int32 × Mem) (hf : f_X3_withoutRepeats M0 = some r) : k_Met l yX3_withoutRepeats cX3_withoutRepeats 3 (some .int) 5 110 G shC [.ref (G.2.1 28)] M0 (k_Qi G shC r.1 r.2) := by
  refine k_Met_of (by decide) hap (Nat.le_of_ble_eq_true rfl) ?_
  intro p e s m args below meth c C hr hlk
  have C : Cx p s m args c cX3_withoutRepeats RX3 3 G shC := C
  have k_b8 : ∀ (n8 : Nat) (v1 : Int32) (v2 : Int32) (M : Mem), f_X3_withoutRepeats_b8 n8 v1 v2 M = some r → K p l e (k_rm 5 110) s m args below meth c 3 G shC (MQ below (k_Qi G shC r.1 r.2) args s 0 0 (k_A G shC.length)) 8 [(0, .ref (G.2.1 28)), (1, .int v1), (2, .int v2)] [] M := by
    intro n8
    induction n8 with
    | zero => intro v1 v2 M hf; simp [f_X3_withoutRepeats_b8] at hf
    | succ n8 ih8 =>
      intro v1 v2 M hf
      unfold f_X3_withoutRepeats_b8 at hf
      refine k_iload_n C dX3_withoutRepeats_8 2 rfl ?_
      refine k_aload_n C dX3_withoutRepeats_9 0 rfl ?_
      refine k_getr C shC_28 (j := 0) rfl FL_X3_21 dX3_withoutRepeats_10 ?_
      refine k_geti C shC_1 (j := 5) rfl FL_X3_34 dX3_withoutRepeats_13 ?_
      rcases ite_g hf with ⟨c2, hf⟩ | ⟨c2, hf⟩
      · refine k_icmp_ge_t C dX3_withoutRepeats_16 (tgt := 40) (by decide) c2 ?_
        refine k_iload_n C dX3_withoutRepeats_40 1 rfl ?_
        exact k_iret C hr hlk (prf hf) (prs hf) dX3_withoutRepeats_41
      · refine k_icmp_ge_f C dX3_withoutRepeats_16 (tgt := 40) (by decide) c2 ?_
        refine k_aload_n C dX3_withoutRepeats_19 0 rfl ?_
        refine k_getr C shC_28 (j := 2) rfl FL_X3_9 dX3_withoutRepeats_20 ?_
        refine k_iload_n C dX3_withoutRepeats_23 2 rfl ?_
        obtain ⟨t3, ht3, hf⟩ := bnd hf
        refine k_iald C shC_29 ht3 dX3_withoutRepeats_24 ?_
        rcases ite_g hf with ⟨c4, hf⟩ | ⟨c4, hf⟩
        · refine k_if_ne_f C dX3_withoutRepeats_25 (tgt := 34) (by decide) c4 ?_
          refine k_iload_n C dX3_withoutRepeats_28 1 rfl ?_
          refine k_iconst C dX3_withoutRepeats_29 (v := (1 : Int32)) rfl ?_
          refine k_iload_n C dX3_withoutRepeats_30 2 rfl ?_
          refine k_ishlJ C dX3_withoutRepeats_31 ?_
          refine k_ior C dX3_withoutRepeats_32 ?_
          refine k_istore_n C dX3_withoutRepeats_33 (by decide) [1, 0, 2] (lv' := [(0, .ref (G.2.1 28)), (1, .int (v1 ||| (jshl (1 : Int32) v2))), (2, .int v2)]) rfl ?_
          refine k_iinc C dX3_withoutRepeats_34 2 rfl (v := (v2 + (1 : Int32))) rfl (by decide) [1, 2, 0] (lv' := [(0, .ref (G.2.1 28)), (1, .int (v1 ||| (jshl (1 : Int32) v2))), (2, .int (v2 + (1 : Int32)))]) rfl ?_
          refine k_goto C dX3_withoutRepeats_37 (tgt := 8) (by decide) ?_
          exact ih8 (v1 ||| (jshl (1 : Int32) v2)) (v2 + (1 : Int32)) M hf
        · refine k_if_ne_t C dX3_withoutRepeats_25 (tgt := 34) (by decide) c4 ?_
          refine k_iinc C dX3_withoutRepeats_34 2 rfl (v := (v2 + (1 : Int32))) rfl (by decide) [1, 2, 0] (lv' := [(0, .ref (G.2.1 28)), (1, .int v1), (2, .int (v2 + (1 : Int32)))]) rfl ?_
          refine k_goto C dX3_withoutRepeats_37 (tgt := 8) (by decide) ?_
          exact ih8 v1 (v2 + (1 : Int32)) M hf
  unfold f_X3_withoutRepeats at hf
  refine k_lv (lv' := [(0, .ref (G.2.1 28))]) [0] rfl ?_
  refine k_aload_n C dX3_withoutRepeats_0 0 rfl ?_
  obtain ⟨M1, hM1, hf⟩ := bnd hf
  refine k_callVv C (As := []) (c_X3_reckonPlaces hap M0 M1 hM1) ML_X3_reckonPlaces wd_670 shC_28 rfl rfl rfl ⟨Nat.le_of_ble_eq_true rfl, Nat.le_of_ble_eq_true rfl⟩ (Nat.le_of_ble_eq_true rfl) dX3_withoutRepeats_1 ?_
  refine k_iconst C dX3_withoutRepeats_4 (v := (0 : Int32)) rfl ?_
  refine k_istore_n C dX3_withoutRepeats_5 (by decide) [1, 0] (lv' := [(0, .ref (G.2.1 28)), (1, .int (0 : Int32))]) rfl ?_
  refine k_iconst C dX3_withoutRepeats_6 (v := (0 : Int32)) rfl ?_
  refine k_istore_n C dX3_withoutRepeats_7 (by decide) [1, 2, 0] (lv' := [(0, .ref (G.2.1 28)), (1, .int (0 : Int32)), (2, .int (0 : Int32))]) rfl ?_
  exact k_b8 FU (0 : Int32) (0 : Int32) M1 hf
