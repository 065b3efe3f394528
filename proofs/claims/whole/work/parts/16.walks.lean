/-! walks, printed by a program of mine: each method meets its function -/
theorem dX11_chance_0 : decode cX11_chance 0 = .ok (.iload_n 1, 1) := by decide +kernel
theorem dX11_chance_1 : decode cX11_chance 1 = .ok (.ifCond .ge 10, 3) := by decide +kernel
theorem dX11_chance_4 : decode cX11_chance 4 = .ok (.aload_n 0, 1) := by decide +kernel
theorem dX11_chance_5 : decode cX11_chance 5 = .ok (.bipush (-4), 2) := by decide +kernel
theorem dX11_chance_7 : decode cX11_chance 7 = .ok (.invokevirtual 279, 3) := by decide +kernel
theorem dX11_chance_10 : decode cX11_chance 10 = .ok (.lreturn, 1) := by decide +kernel
theorem dX11_chance_11 : decode cX11_chance 11 = .ok (.iload_n 1, 1) := by decide +kernel
theorem dX11_chance_12 : decode cX11_chance 12 = .ok (.iconst 5, 1) := by decide +kernel
theorem dX11_chance_13 : decode cX11_chance 13 = .ok (.if_icmp .le 10, 3) := by decide +kernel
theorem dX11_chance_16 : decode cX11_chance 16 = .ok (.aload_n 0, 1) := by decide +kernel
theorem dX11_chance_17 : decode cX11_chance 17 = .ok (.bipush (-6), 2) := by decide +kernel
theorem dX11_chance_19 : decode cX11_chance 19 = .ok (.invokevirtual 279, 3) := by decide +kernel
theorem dX11_chance_22 : decode cX11_chance 22 = .ok (.lreturn, 1) := by decide +kernel
theorem dX11_chance_23 : decode cX11_chance 23 = .ok (.iload_n 2, 1) := by decide +kernel
theorem dX11_chance_24 : decode cX11_chance 24 = .ok (.invokestatic 207, 3) := by decide +kernel
theorem dX11_chance_27 : decode cX11_chance 27 = .ok (.ifCond .ne 10, 3) := by decide +kernel
theorem dX11_chance_30 : decode cX11_chance 30 = .ok (.aload_n 0, 1) := by decide +kernel
theorem dX11_chance_31 : decode cX11_chance 31 = .ok (.bipush (-2), 2) := by decide +kernel
theorem dX11_chance_33 : decode cX11_chance 33 = .ok (.invokevirtual 279, 3) := by decide +kernel
theorem dX11_chance_36 : decode cX11_chance 36 = .ok (.lreturn, 1) := by decide +kernel
theorem dX11_chance_37 : decode cX11_chance 37 = .ok (.aload_n 0, 1) := by decide +kernel
theorem dX11_chance_38 : decode cX11_chance 38 = .ok (.getfield 95, 3) := by decide +kernel
theorem dX11_chance_41 : decode cX11_chance 41 = .ok (.iload_n 1, 1) := by decide +kernel
theorem dX11_chance_42 : decode cX11_chance 42 = .ok (.iload_n 2, 1) := by decide +kernel
theorem dX11_chance_43 : decode cX11_chance 43 = .ok (.invokevirtual 290, 3) := by decide +kernel
theorem dX11_chance_46 : decode cX11_chance 46 = .ok (.lreturn, 1) := by decide +kernel
set_option maxRecDepth 100000 in
set_option maxHeartbeats 4000000 in
theorem c_X11_chance {l : Launch} {G : Gx} (hap : k_ap G shC.length) (v1 : Int32) (v2 : Int32) (M0 : Mem) (r : Int64 × Mem) (hf : f_X11_chance v1 v2 M0 = some r) : k_Met l yX11_chance cX11_chance 3 (some .long) 8 189 G shC [.ref (G.2.1 0), .int v1, .int v2] M0 (k_Ql G shC r.1 r.2) := by
  refine k_Met_of (by decide) hap (Nat.le_of_ble_eq_true rfl) ?_
  intro p e s m args below meth c C hr hlk
  have C : Cx p s m args c cX11_chance RX11 3 G shC := C
  unfold f_X11_chance at hf
  refine k_lv (lv' := [(0, .ref (G.2.1 0)), (1, .int v1), (2, .int v2)]) [0, 1, 2] rfl ?_
  refine k_iload_n C dX11_chance_0 1 rfl ?_
  rcases ite_g hf with ⟨c1, hf⟩ | ⟨c1, hf⟩
  · refine k_if_ge_t C dX11_chance_1 (tgt := 11) (by decide) c1 ?_
    refine k_iload_n C dX11_chance_11 1 rfl ?_
    refine k_iconst C dX11_chance_12 (v := (5 : Int32)) rfl ?_
    rcases ite_g hf with ⟨c2, hf⟩ | ⟨c2, hf⟩
    · refine k_icmp_le_t C dX11_chance_13 (tgt := 23) (by decide) c2 ?_
      refine k_iload_n C dX11_chance_23 2 rfl ?_
      refine k_callSi C (As := [.int v2]) (c_X11_isEither hap v2 M0 _ rfl) MS_X11_isEither wd_696 rfl rfl ⟨Nat.le_of_ble_eq_true rfl, Nat.le_of_ble_eq_true rfl⟩ (Nat.le_of_ble_eq_true rfl) dX11_chance_24 ?_
      rcases ite_g hf with ⟨c3, hf⟩ | ⟨c3, hf⟩
      · refine k_if_ne_f C dX11_chance_27 (tgt := 37) (by decide) c3 ?_
        refine k_aload_n C dX11_chance_30 0 rfl ?_
        refine k_bipush C dX11_chance_31 (v := (-2 : Int32)) rfl ?_
        obtain ⟨⟨t5, M5⟩, ht5, hf⟩ := bnd hf
        replace hf := bp_s hf
        refine k_callVl C (As := [.int (-2 : Int32)]) (c_X11_refuseLong hap (-2 : Int32) M0 (t5, M5) ht5) ML_X11_refuseLong wd_957 shC_0 rfl rfl rfl ⟨Nat.le_of_ble_eq_true rfl, Nat.le_of_ble_eq_true rfl⟩ (Nat.le_of_ble_eq_true rfl) dX11_chance_33 ?_
        exact k_lret C hr hlk (prf hf) (prs hf) dX11_chance_36
      · refine k_if_ne_t C dX11_chance_27 (tgt := 37) (by decide) c3 ?_
        refine k_aload_n C dX11_chance_37 0 rfl ?_
        refine k_getr C shC_0 (j := 12) rfl FL_X11_95 dX11_chance_38 ?_
        refine k_iload_n C dX11_chance_41 1 rfl ?_
        refine k_iload_n C dX11_chance_42 2 rfl ?_
        obtain ⟨⟨t4, M4⟩, ht4, hf⟩ := bnd hf
        replace hf := bp_s hf
        refine k_callVl C (As := [.int v1, .int v2]) (c_X4_nothingDue hap v1 v2 M0 (t4, M4) ht4) ML_X4_nothingDue wd_990 shC_42 rfl rfl rfl ⟨Nat.le_of_ble_eq_true rfl, Nat.le_of_ble_eq_true rfl⟩ (Nat.le_of_ble_eq_true rfl) dX11_chance_43 ?_
        exact k_lret C hr hlk (prf hf) (prs hf) dX11_chance_46
    · refine k_icmp_le_f C dX11_chance_13 (tgt := 23) (by decide) c2 ?_
      refine k_aload_n C dX11_chance_16 0 rfl ?_
      refine k_bipush C dX11_chance_17 (v := (-6 : Int32)) rfl ?_
      obtain ⟨⟨t6, M6⟩, ht6, hf⟩ := bnd hf
      replace hf := bp_s hf
      refine k_callVl C (As := [.int (-6 : Int32)]) (c_X11_refuseLong hap (-6 : Int32) M0 (t6, M6) ht6) ML_X11_refuseLong wd_957 shC_0 rfl rfl rfl ⟨Nat.le_of_ble_eq_true rfl, Nat.le_of_ble_eq_true rfl⟩ (Nat.le_of_ble_eq_true rfl) dX11_chance_19 ?_
      exact k_lret C hr hlk (prf hf) (prs hf) dX11_chance_22
  · refine k_if_ge_f C dX11_chance_1 (tgt := 11) (by decide) c1 ?_
    refine k_aload_n C dX11_chance_4 0 rfl ?_
    refine k_bipush C dX11_chance_5 (v := (-4 : Int32)) rfl ?_
    obtain ⟨⟨t7, M7⟩, ht7, hf⟩ := bnd hf
    replace hf := bp_s hf
    refine k_callVl C (As := [.int (-4 : Int32)]) (c_X11_refuseLong hap (-4 : Int32) M0 (t7, M7) ht7) ML_X11_refuseLong wd_957 shC_0 rfl rfl rfl ⟨Nat.le_of_ble_eq_true rfl, Nat.le_of_ble_eq_true rfl⟩ (Nat.le_of_ble_eq_true rfl) dX11_chance_7 ?_
    exact k_lret C hr hlk (prf hf) (prs hf) dX11_chance_10
theorem dX11_mean_0 : decode cX11_mean 0 = .ok (.iload_n 1, 1) := by decide +kernel
theorem dX11_mean_1 : decode cX11_mean 1 = .ok (.invokestatic 207, 3) := by decide +kernel
theorem dX11_mean_4 : decode cX11_mean 4 = .ok (.ifCond .ne 10, 3) := by decide +kernel
theorem dX11_mean_7 : decode cX11_mean 7 = .ok (.aload_n 0, 1) := by decide +kernel
theorem dX11_mean_8 : decode cX11_mean 8 = .ok (.bipush (-2), 2) := by decide +kernel
theorem dX11_mean_10 : decode cX11_mean 10 = .ok (.invokevirtual 279, 3) := by decide +kernel
theorem dX11_mean_13 : decode cX11_mean 13 = .ok (.lreturn, 1) := by decide +kernel
theorem dX11_mean_14 : decode cX11_mean 14 = .ok (.aload_n 0, 1) := by decide +kernel
theorem dX11_mean_15 : decode cX11_mean 15 = .ok (.getfield 95, 3) := by decide +kernel
theorem dX11_mean_18 : decode cX11_mean 18 = .ok (.iload_n 1, 1) := by decide +kernel
theorem dX11_mean_19 : decode cX11_mean 19 = .ok (.invokevirtual 293, 3) := by decide +kernel
theorem dX11_mean_22 : decode cX11_mean 22 = .ok (.lreturn, 1) := by decide +kernel
set_option maxRecDepth 100000 in
set_option maxHeartbeats 4000000 in
theorem c_X11_mean {l : Launch} {G : Gx} (hap : k_ap G shC.length) (v1 : Int32) (M0 : Mem) (r : Int64 × Mem) (hf : f_X11_mean v1 M0 = some r) : k_Met l yX11_mean cX11_mean 2 (some .long) 6 132 G shC [.ref (G.2.1 0), .int v1] M0 (k_Ql G shC r.1 r.2) := by
  refine k_Met_of (by decide) hap (Nat.le_of_ble_eq_true rfl) ?_
  intro p e s m args below meth c C hr hlk
  have C : Cx p s m args c cX11_mean RX11 2 G shC := C
  unfold f_X11_mean at hf
  refine k_lv (lv' := [(0, .ref (G.2.1 0)), (1, .int v1)]) [0, 1] rfl ?_
  refine k_iload_n C dX11_mean_0 1 rfl ?_
  refine k_callSi C (As := [.int v1]) (c_X11_isEither hap v1 M0 _ rfl) MS_X11_isEither wd_696 rfl rfl ⟨Nat.le_of_ble_eq_true rfl, Nat.le_of_ble_eq_true rfl⟩ (Nat.le_of_ble_eq_true rfl) dX11_mean_1 ?_
  rcases ite_g hf with ⟨c1, hf⟩ | ⟨c1, hf⟩
  · refine k_if_ne_f C dX11_mean_4 (tgt := 14) (by decide) c1 ?_
    refine k_aload_n C dX11_mean_7 0 rfl ?_
    refine k_bipush C dX11_mean_8 (v := (-2 : Int32)) rfl ?_
    obtain ⟨⟨t3, M3⟩, ht3, hf⟩ := bnd hf
    replace hf := bp_s hf
    refine k_callVl C (As := [.int (-2 : Int32)]) (c_X11_refuseLong hap (-2 : Int32) M0 (t3, M3) ht3) ML_X11_refuseLong wd_957 shC_0 rfl rfl rfl ⟨Nat.le_of_ble_eq_true rfl, Nat.le_of_ble_eq_true rfl⟩ (Nat.le_of_ble_eq_true rfl) dX11_mean_10 ?_
    exact k_lret C hr hlk (prf hf) (prs hf) dX11_mean_13
  · refine k_if_ne_t C dX11_mean_4 (tgt := 14) (by decide) c1 ?_
    refine k_aload_n C dX11_mean_14 0 rfl ?_
    refine k_getr C shC_0 (j := 12) rfl FL_X11_95 dX11_mean_15 ?_
    refine k_iload_n C dX11_mean_18 1 rfl ?_
    obtain ⟨⟨t2, M2⟩, ht2, hf⟩ := bnd hf
    replace hf := bp_s hf
    refine k_callVl C (As := [.int v1]) (c_X4_meanNext hap v1 M0 (t2, M2) ht2) ML_X4_meanNext wd_1010 shC_42 rfl rfl rfl ⟨Nat.le_of_ble_eq_true rfl, Nat.le_of_ble_eq_true rfl⟩ (Nat.le_of_ble_eq_true rfl) dX11_mean_19 ?_
    exact k_lret C hr hlk (prf hf) (prs hf) dX11_mean_22
theorem dX11_twins_0 : decode cX11_twins 0 = .ok (.iload_n 1, 1) := by decide +kernel
theorem dX11_twins_1 : decode cX11_twins 1 = .ok (.invokestatic 207, 3) := by decide +kernel
theorem dX11_twins_4 : decode cX11_twins 4 = .ok (.ifCond .ne 10, 3) := by decide +kernel
theorem dX11_twins_7 : decode cX11_twins 7 = .ok (.aload_n 0, 1) := by decide +kernel
theorem dX11_twins_8 : decode cX11_twins 8 = .ok (.bipush (-2), 2) := by decide +kernel
theorem dX11_twins_10 : decode cX11_twins 10 = .ok (.invokevirtual 103, 3) := by decide +kernel
theorem dX11_twins_13 : decode cX11_twins 13 = .ok (.ireturn, 1) := by decide +kernel
theorem dX11_twins_14 : decode cX11_twins 14 = .ok (.aload_n 0, 1) := by decide +kernel
theorem dX11_twins_15 : decode cX11_twins 15 = .ok (.getfield 88, 3) := by decide +kernel
theorem dX11_twins_18 : decode cX11_twins 18 = .ok (.iload_n 1, 1) := by decide +kernel
theorem dX11_twins_19 : decode cX11_twins 19 = .ok (.invokevirtual 296, 3) := by decide +kernel
theorem dX11_twins_22 : decode cX11_twins 22 = .ok (.ireturn, 1) := by decide +kernel
set_option maxRecDepth 100000 in
set_option maxHeartbeats 4000000 in
theorem c_X11_twins {l : Launch} {G : Gx} (hap : k_ap G shC.length) (v1 : Int32) (M0 : Mem) (r : Int32 × Mem) (hf : f_X11_twins v1 M0 = some r) : k_Met l yX11_twins cX11_twins 2 (some .int) 2 46 G shC [.ref (G.2.1 0), .int v1] M0 (k_Qi G shC r.1 r.2) := by
  refine k_Met_of (by decide) hap (Nat.le_of_ble_eq_true rfl) ?_
  intro p e s m args below meth c C hr hlk
  have C : Cx p s m args c cX11_twins RX11 2 G shC := C
  unfold f_X11_twins at hf
  refine k_lv (lv' := [(0, .ref (G.2.1 0)), (1, .int v1)]) [0, 1] rfl ?_
  refine k_iload_n C dX11_twins_0 1 rfl ?_
  refine k_callSi C (As := [.int v1]) (c_X11_isEither hap v1 M0 _ rfl) MS_X11_isEither wd_696 rfl rfl ⟨Nat.le_of_ble_eq_true rfl, Nat.le_of_ble_eq_true rfl⟩ (Nat.le_of_ble_eq_true rfl) dX11_twins_1 ?_
  rcases ite_g hf with ⟨c1, hf⟩ | ⟨c1, hf⟩
  · refine k_if_ne_f C dX11_twins_4 (tgt := 14) (by decide) c1 ?_
    refine k_aload_n C dX11_twins_7 0 rfl ?_
    refine k_bipush C dX11_twins_8 (v := (-2 : Int32)) rfl ?_
    obtain ⟨⟨t3, M3⟩, ht3, hf⟩ := bnd hf
    replace hf := bp_s hf
    refine k_callVi C (As := [.int (-2 : Int32)]) (c_X11_refuse hap (-2 : Int32) M0 (t3, M3) ht3) ML_X11_refuse wd_421 shC_0 rfl rfl rfl ⟨Nat.le_of_ble_eq_true rfl, Nat.le_of_ble_eq_true rfl⟩ (Nat.le_of_ble_eq_true rfl) dX11_twins_10 ?_
    exact k_iret C hr hlk (prf hf) (prs hf) dX11_twins_13
  · refine k_if_ne_t C dX11_twins_4 (tgt := 14) (by decide) c1 ?_
    refine k_aload_n C dX11_twins_14 0 rfl ?_
    refine k_getr C shC_0 (j := 11) rfl FL_X11_88 dX11_twins_15 ?_
    refine k_iload_n C dX11_twins_18 1 rfl ?_
    obtain ⟨t2, ht2, hf⟩ := bnd hf
    refine k_callVi C (As := [.int v1]) (c_X5_closestTwo hap v1 M0 t2 ht2) ML_X5_closestTwo wd_1019 shC_41 rfl rfl rfl ⟨Nat.le_of_ble_eq_true rfl, Nat.le_of_ble_eq_true rfl⟩ (Nat.le_of_ble_eq_true rfl) dX11_twins_19 ?_
    exact k_iret C hr hlk (prf hf) (prs hf) dX11_twins_22
theorem dX11_chain_0 : decode cX11_chain 0 = .ok (.aload_n 0, 1) := by decide +kernel
theorem dX11_chain_1 : decode cX11_chain 1 = .ok (.getfield 12, 3) := by decide +kernel
theorem dX11_chain_4 : decode cX11_chain 4 = .ok (.iload_n 1, 1) := by decide +kernel
theorem dX11_chain_5 : decode cX11_chain 5 = .ok (.invokevirtual 121, 3) := by decide +kernel
theorem dX11_chain_8 : decode cX11_chain 8 = .ok (.ifCond .eq 14, 3) := by decide +kernel
theorem dX11_chain_11 : decode cX11_chain 11 = .ok (.aload_n 0, 1) := by decide +kernel
theorem dX11_chain_12 : decode cX11_chain 12 = .ok (.getfield 12, 3) := by decide +kernel
theorem dX11_chain_15 : decode cX11_chain 15 = .ok (.iload_n 2, 1) := by decide +kernel
theorem dX11_chain_16 : decode cX11_chain 16 = .ok (.invokevirtual 121, 3) := by decide +kernel
theorem dX11_chain_19 : decode cX11_chain 19 = .ok (.ifCond .ne 9, 3) := by decide +kernel
theorem dX11_chain_22 : decode cX11_chain 22 = .ok (.aload_n 0, 1) := by decide +kernel
theorem dX11_chain_23 : decode cX11_chain 23 = .ok (.iconst (-1), 1) := by decide +kernel
theorem dX11_chain_24 : decode cX11_chain 24 = .ok (.invokevirtual 103, 3) := by decide +kernel
theorem dX11_chain_27 : decode cX11_chain 27 = .ok (.ireturn, 1) := by decide +kernel
theorem dX11_chain_28 : decode cX11_chain 28 = .ok (.aload_n 0, 1) := by decide +kernel
theorem dX11_chain_29 : decode cX11_chain 29 = .ok (.getfield 81, 3) := by decide +kernel
theorem dX11_chain_32 : decode cX11_chain 32 = .ok (.iload_n 1, 1) := by decide +kernel
theorem dX11_chain_33 : decode cX11_chain 33 = .ok (.iload_n 2, 1) := by decide +kernel
theorem dX11_chain_34 : decode cX11_chain 34 = .ok (.invokevirtual 299, 3) := by decide +kernel
theorem dX11_chain_37 : decode cX11_chain 37 = .ok (.ireturn, 1) := by decide +kernel
set_option maxRecDepth 100000 in
set_option maxHeartbeats 4000000 in
theorem c_X11_chain {l : Launch} {G : Gx} (hap : k_ap G shC.length) (v1 : Int32) (v2 : Int32) (M0 : Mem) (r : Int32 × Mem) (hf : f_X11_chain v1 v2 M0 = some r) : k_Met l yX11_chain cX11_chain 3 (some .int) 5 112 G shC [.ref (G.2.1 0), .int v1, .int v2] M0 (k_Qi G shC r.1 r.2) := by
  refine k_Met_of (by decide) hap (Nat.le_of_ble_eq_true rfl) ?_
  intro p e s m args below meth c C hr hlk
  have C : Cx p s m args c cX11_chain RX11 3 G shC := C
  unfold f_X11_chain at hf
  refine k_lv (lv' := [(0, .ref (G.2.1 0)), (1, .int v1), (2, .int v2)]) [0, 1, 2] rfl ?_
  refine k_aload_n C dX11_chain_0 0 rfl ?_
  refine k_getr C shC_0 (j := 0) rfl FL_X11_12 dX11_chain_1 ?_
  refine k_iload_n C dX11_chain_4 1 rfl ?_
  refine k_callVi C (As := [.int v1]) (c_X0_hasDoing hap 1 BD_1 v1 M0 _ rfl) ML_X0_hasDoing wd_542 shC_1 rfl rfl rfl ⟨Nat.le_of_ble_eq_true rfl, Nat.le_of_ble_eq_true rfl⟩ (Nat.le_of_ble_eq_true rfl) dX11_chain_5 ?_
  rcases ite_g hf with ⟨c1, hf⟩ | ⟨c1, hf⟩
  · refine k_if_eq_t C dX11_chain_8 (tgt := 22) (by decide) c1 ?_
    refine k_aload_n C dX11_chain_22 0 rfl ?_
    refine k_iconst C dX11_chain_23 (v := (-1 : Int32)) rfl ?_
    obtain ⟨⟨t2, M2⟩, ht2, hf⟩ := bnd hf
    replace hf := bp_s hf
    refine k_callVi C (As := [.int (-1 : Int32)]) (c_X11_refuse hap (-1 : Int32) M0 (t2, M2) ht2) ML_X11_refuse wd_421 shC_0 rfl rfl rfl ⟨Nat.le_of_ble_eq_true rfl, Nat.le_of_ble_eq_true rfl⟩ (Nat.le_of_ble_eq_true rfl) dX11_chain_24 ?_
    exact k_iret C hr hlk (prf hf) (prs hf) dX11_chain_27
  · refine k_if_eq_f C dX11_chain_8 (tgt := 22) (by decide) c1 ?_
    refine k_aload_n C dX11_chain_11 0 rfl ?_
    refine k_getr C shC_0 (j := 0) rfl FL_X11_12 dX11_chain_12 ?_
    refine k_iload_n C dX11_chain_15 2 rfl ?_
    refine k_callVi C (As := [.int v2]) (c_X0_hasDoing hap 1 BD_1 v2 M0 _ rfl) ML_X0_hasDoing wd_542 shC_1 rfl rfl rfl ⟨Nat.le_of_ble_eq_true rfl, Nat.le_of_ble_eq_true rfl⟩ (Nat.le_of_ble_eq_true rfl) dX11_chain_16 ?_
    rcases ite_g hf with ⟨c3, hf⟩ | ⟨c3, hf⟩
    · refine k_if_ne_f C dX11_chain_19 (tgt := 28) (by decide) c3 ?_
      refine k_aload_n C dX11_chain_22 0 rfl ?_
      refine k_iconst C dX11_chain_23 (v := (-1 : Int32)) rfl ?_
      obtain ⟨⟨t5, M5⟩, ht5, hf⟩ := bnd hf
      replace hf := bp_s hf
      refine k_callVi C (As := [.int (-1 : Int32)]) (c_X11_refuse hap (-1 : Int32) M0 (t5, M5) ht5) ML_X11_refuse wd_421 shC_0 rfl rfl rfl ⟨Nat.le_of_ble_eq_true rfl, Nat.le_of_ble_eq_true rfl⟩ (Nat.le_of_ble_eq_true rfl) dX11_chain_24 ?_
      exact k_iret C hr hlk (prf hf) (prs hf) dX11_chain_27
    · refine k_if_ne_t C dX11_chain_19 (tgt := 28) (by decide) c3 ?_
      refine k_aload_n C dX11_chain_28 0 rfl ?_
      refine k_getr C shC_0 (j := 10) rfl FL_X11_81 dX11_chain_29 ?_
      refine k_iload_n C dX11_chain_32 1 rfl ?_
      refine k_iload_n C dX11_chain_33 2 rfl ?_
      obtain ⟨⟨t4, M4⟩, ht4, hf⟩ := bnd hf
      replace hf := bp_s hf
      refine k_callVi C (As := [.int v1, .int v2]) (c_X2_shortestChain hap v1 v2 M0 (t4, M4) ht4) ML_X2_shortestChain wd_1027 shC_36 rfl rfl rfl ⟨Nat.le_of_ble_eq_true rfl, Nat.le_of_ble_eq_true rfl⟩ (Nat.le_of_ble_eq_true rfl) dX11_chain_34 ?_
      exact k_iret C hr hlk (prf hf) (prs hf) dX11_chain_37
theorem dX11_heaps_0 : decode cX11_heaps 0 = .ok (.iload_n 1, 1) := by decide +kernel
theorem dX11_heaps_1 : decode cX11_heaps 1 = .ok (.invokestatic 207, 3) := by decide +kernel
theorem dX11_heaps_4 : decode cX11_heaps 4 = .ok (.ifCond .ne 10, 3) := by decide +kernel
theorem dX11_heaps_7 : decode cX11_heaps 7 = .ok (.aload_n 0, 1) := by decide +kernel
theorem dX11_heaps_8 : decode cX11_heaps 8 = .ok (.bipush (-2), 2) := by decide +kernel
theorem dX11_heaps_10 : decode cX11_heaps 10 = .ok (.invokevirtual 103, 3) := by decide +kernel
theorem dX11_heaps_13 : decode cX11_heaps 13 = .ok (.ireturn, 1) := by decide +kernel
theorem dX11_heaps_14 : decode cX11_heaps 14 = .ok (.aload_n 0, 1) := by decide +kernel
theorem dX11_heaps_15 : decode cX11_heaps 15 = .ok (.getfield 81, 3) := by decide +kernel
theorem dX11_heaps_18 : decode cX11_heaps 18 = .ok (.iload_n 1, 1) := by decide +kernel
theorem dX11_heaps_19 : decode cX11_heaps 19 = .ok (.invokevirtual 302, 3) := by decide +kernel
theorem dX11_heaps_22 : decode cX11_heaps 22 = .ok (.ireturn, 1) := by decide +kernel
set_option maxRecDepth 100000 in
set_option maxHeartbeats 4000000 in
theorem c_X11_heaps {l : Launch} {G : Gx} (hap : k_ap G shC.length) (v1 : Int32) (M0 : Mem) (r : Int32 × Mem) (hf : f_X11_heaps v1 M0 = some r) : k_Met l yX11_heaps cX11_heaps 2 (some .int) 5 114 G shC [.ref (G.2.1 0), .int v1] M0 (k_Qi G shC r.1 r.2) := by
  refine k_Met_of (by decide) hap (Nat.le_of_ble_eq_true rfl) ?_
  intro p e s m args below meth c C hr hlk
  have C : Cx p s m args c cX11_heaps RX11 2 G shC := C
  unfold f_X11_heaps at hf
  refine k_lv (lv' := [(0, .ref (G.2.1 0)), (1, .int v1)]) [0, 1] rfl ?_
  refine k_iload_n C dX11_heaps_0 1 rfl ?_
  refine k_callSi C (As := [.int v1]) (c_X11_isEither hap v1 M0 _ rfl) MS_X11_isEither wd_696 rfl rfl ⟨Nat.le_of_ble_eq_true rfl, Nat.le_of_ble_eq_true rfl⟩ (Nat.le_of_ble_eq_true rfl) dX11_heaps_1 ?_
  rcases ite_g hf with ⟨c1, hf⟩ | ⟨c1, hf⟩
  · refine k_if_ne_f C dX11_heaps_4 (tgt := 14) (by decide) c1 ?_
    refine k_aload_n C dX11_heaps_7 0 rfl ?_
    refine k_bipush C dX11_heaps_8 (v := (-2 : Int32)) rfl ?_
    obtain ⟨⟨t3, M3⟩, ht3, hf⟩ := bnd hf
    replace hf := bp_s hf
    refine k_callVi C (As := [.int (-2 : Int32)]) (c_X11_refuse hap (-2 : Int32) M0 (t3, M3) ht3) ML_X11_refuse wd_421 shC_0 rfl rfl rfl ⟨Nat.le_of_ble_eq_true rfl, Nat.le_of_ble_eq_true rfl⟩ (Nat.le_of_ble_eq_true rfl) dX11_heaps_10 ?_
    exact k_iret C hr hlk (prf hf) (prs hf) dX11_heaps_13
  · refine k_if_ne_t C dX11_heaps_4 (tgt := 14) (by decide) c1 ?_
    refine k_aload_n C dX11_heaps_14 0 rfl ?_
    refine k_getr C shC_0 (j := 10) rfl FL_X11_81 dX11_heaps_15 ?_
    refine k_iload_n C dX11_heaps_18 1 rfl ?_
    obtain ⟨⟨t2, M2⟩, ht2, hf⟩ := bnd hf
    replace hf := bp_s hf
    refine k_callVi C (As := [.int v1]) (c_X2_allHeaps hap v1 M0 (t2, M2) ht2) ML_X2_allHeaps wd_1039 shC_36 rfl rfl rfl ⟨Nat.le_of_ble_eq_true rfl, Nat.le_of_ble_eq_true rfl⟩ (Nat.le_of_ble_eq_true rfl) dX11_heaps_19 ?_
    exact k_iret C hr hlk (prf hf) (prs hf) dX11_heaps_22
theorem dX11_pure_0 : decode cX11_pure 0 = .ok (.iload_n 1, 1) := by decide +kernel
theorem dX11_pure_1 : decode cX11_pure 1 = .ok (.invokestatic 207, 3) := by decide +kernel
theorem dX11_pure_4 : decode cX11_pure 4 = .ok (.ifCond .ne 10, 3) := by decide +kernel
theorem dX11_pure_7 : decode cX11_pure 7 = .ok (.aload_n 0, 1) := by decide +kernel
theorem dX11_pure_8 : decode cX11_pure 8 = .ok (.bipush (-2), 2) := by decide +kernel
theorem dX11_pure_10 : decode cX11_pure 10 = .ok (.invokevirtual 103, 3) := by decide +kernel
theorem dX11_pure_13 : decode cX11_pure 13 = .ok (.ireturn, 1) := by decide +kernel
theorem dX11_pure_14 : decode cX11_pure 14 = .ok (.aload_n 0, 1) := by decide +kernel
theorem dX11_pure_15 : decode cX11_pure 15 = .ok (.getfield 58, 3) := by decide +kernel
theorem dX11_pure_18 : decode cX11_pure 18 = .ok (.iload_n 1, 1) := by decide +kernel
theorem dX11_pure_19 : decode cX11_pure 19 = .ok (.invokevirtual 305, 3) := by decide +kernel
theorem dX11_pure_22 : decode cX11_pure 22 = .ok (.ireturn, 1) := by decide +kernel
set_option maxRecDepth 100000 in
set_option maxHeartbeats 4000000 in
theorem c_X11_pure {l : Launch} {G : Gx} (hap : k_ap G shC.length) (v1 : Int32) (M0 : Mem) (r : Int32 × Mem) (hf : f_X11_pure v1 M0 = some r) : k_Met l yX11_pure cX11_pure 2 (some .int) 5 113 G shC [.ref (G.2.1 0), .int v1] M0 (k_Qi G shC r.1 r.2) := by
  refine k_Met_of (by decide) hap (Nat.le_of_ble_eq_true rfl) ?_
  intro p e s m args below meth c C hr hlk
  have C : Cx p s m args c cX11_pure RX11 2 G shC := C
  unfold f_X11_pure at hf
  refine k_lv (lv' := [(0, .ref (G.2.1 0)), (1, .int v1)]) [0, 1] rfl ?_
  refine k_iload_n C dX11_pure_0 1 rfl ?_
  refine k_callSi C (As := [.int v1]) (c_X11_isEither hap v1 M0 _ rfl) MS_X11_isEither wd_696 rfl rfl ⟨Nat.le_of_ble_eq_true rfl, Nat.le_of_ble_eq_true rfl⟩ (Nat.le_of_ble_eq_true rfl) dX11_pure_1 ?_
  rcases ite_g hf with ⟨c1, hf⟩ | ⟨c1, hf⟩
  · refine k_if_ne_f C dX11_pure_4 (tgt := 14) (by decide) c1 ?_
    refine k_aload_n C dX11_pure_7 0 rfl ?_
    refine k_bipush C dX11_pure_8 (v := (-2 : Int32)) rfl ?_
    obtain ⟨⟨t3, M3⟩, ht3, hf⟩ := bnd hf
    replace hf := bp_s hf
    refine k_callVi C (As := [.int (-2 : Int32)]) (c_X11_refuse hap (-2 : Int32) M0 (t3, M3) ht3) ML_X11_refuse wd_421 shC_0 rfl rfl rfl ⟨Nat.le_of_ble_eq_true rfl, Nat.le_of_ble_eq_true rfl⟩ (Nat.le_of_ble_eq_true rfl) dX11_pure_10 ?_
    exact k_iret C hr hlk (prf hf) (prs hf) dX11_pure_13
  · refine k_if_ne_t C dX11_pure_4 (tgt := 14) (by decide) c1 ?_
    refine k_aload_n C dX11_pure_14 0 rfl ?_
    refine k_getr C shC_0 (j := 7) rfl FL_X11_58 dX11_pure_15 ?_
    refine k_iload_n C dX11_pure_18 1 rfl ?_
    obtain ⟨⟨t2, M2⟩, ht2, hf⟩ := bnd hf
    replace hf := bp_s hf
    refine k_callVi C (As := [.int v1]) (c_X3_longestPure hap v1 M0 (t2, M2) ht2) ML_X3_longestPure wd_1052 shC_28 rfl rfl rfl ⟨Nat.le_of_ble_eq_true rfl, Nat.le_of_ble_eq_true rfl⟩ (Nat.le_of_ble_eq_true rfl) dX11_pure_19 ?_
    exact k_iret C hr hlk (prf hf) (prs hf) dX11_pure_22
theorem dX11_bestT_0 : decode cX11_bestT 0 = .ok (.aload_n 0, 1) := by decide +kernel
theorem dX11_bestT_1 : decode cX11_bestT 1 = .ok (.getfield 67, 3) := by decide +kernel
theorem dX11_bestT_4 : decode cX11_bestT 4 = .ok (.invokevirtual 308, 3) := by decide +kernel
theorem dX11_bestT_7 : decode cX11_bestT 7 = .ok (.ireturn, 1) := by decide +kernel
set_option maxRecDepth 100000 in
set_option maxHeartbeats 4000000 in
theorem c_X11_bestT {l : Launch} {G : Gx} (hap : k_ap G shC.length) (M0 : Mem) (r : Int32 × Mem) (hf : f_X11_bestT M0 = some r) : k_Met l yX11_bestT cX11_bestT 1 (some .int) 5 114 G shC [.ref (G.2.1 0)] M0 (k_Qi G shC r.1 r.2) := by
  refine k_Met_of (by decide) hap (Nat.le_of_ble_eq_true rfl) ?_
  intro p e s m args below meth c C hr hlk
  have C : Cx p s m args c cX11_bestT RX11 1 G shC := C
  unfold f_X11_bestT at hf
  refine k_lv (lv' := [(0, .ref (G.2.1 0))]) [0] rfl ?_
  refine k_aload_n C dX11_bestT_0 0 rfl ?_
  refine k_getr C shC_0 (j := 8) rfl FL_X11_67 dX11_bestT_1 ?_
  obtain ⟨⟨t1, M1⟩, ht1, hf⟩ := bnd hf
  replace hf := bp_s hf
  refine k_callVi C (As := []) (c_X7_mildestT hap M0 (t1, M1) ht1) ML_X7_mildestT wd_1064 shC_32 rfl rfl rfl ⟨Nat.le_of_ble_eq_true rfl, Nat.le_of_ble_eq_true rfl⟩ (Nat.le_of_ble_eq_true rfl) dX11_bestT_4 ?_
  exact k_iret C hr hlk (prf hf) (prs hf) dX11_bestT_7
theorem dX11_margin_0 : decode cX11_margin 0 = .ok (.aload_n 0, 1) := by decide +kernel
theorem dX11_margin_1 : decode cX11_margin 1 = .ok (.getfield 12, 3) := by decide +kernel
theorem dX11_margin_4 : decode cX11_margin 4 = .ok (.iload_n 1, 1) := by decide +kernel
theorem dX11_margin_5 : decode cX11_margin 5 = .ok (.invokevirtual 121, 3) := by decide +kernel
theorem dX11_margin_8 : decode cX11_margin 8 = .ok (.ifCond .ne 9, 3) := by decide +kernel
theorem dX11_margin_11 : decode cX11_margin 11 = .ok (.aload_n 0, 1) := by decide +kernel
theorem dX11_margin_12 : decode cX11_margin 12 = .ok (.iconst (-1), 1) := by decide +kernel
theorem dX11_margin_13 : decode cX11_margin 13 = .ok (.invokevirtual 103, 3) := by decide +kernel
theorem dX11_margin_16 : decode cX11_margin 16 = .ok (.ireturn, 1) := by decide +kernel
theorem dX11_margin_17 : decode cX11_margin 17 = .ok (.iload_n 2, 1) := by decide +kernel
theorem dX11_margin_18 : decode cX11_margin 18 = .ok (.ifCond .ge 10, 3) := by decide +kernel
theorem dX11_margin_21 : decode cX11_margin 21 = .ok (.aload_n 0, 1) := by decide +kernel
theorem dX11_margin_22 : decode cX11_margin 22 = .ok (.bipush (-4), 2) := by decide +kernel
theorem dX11_margin_24 : decode cX11_margin 24 = .ok (.invokevirtual 103, 3) := by decide +kernel
theorem dX11_margin_27 : decode cX11_margin 27 = .ok (.ireturn, 1) := by decide +kernel
theorem dX11_margin_28 : decode cX11_margin 28 = .ok (.iload_n 2, 1) := by decide +kernel
theorem dX11_margin_29 : decode cX11_margin 29 = .ok (.sipush 999, 3) := by decide +kernel
theorem dX11_margin_32 : decode cX11_margin 32 = .ok (.if_icmp .le 10, 3) := by decide +kernel
theorem dX11_margin_35 : decode cX11_margin 35 = .ok (.aload_n 0, 1) := by decide +kernel
theorem dX11_margin_36 : decode cX11_margin 36 = .ok (.bipush (-6), 2) := by decide +kernel
theorem dX11_margin_38 : decode cX11_margin 38 = .ok (.invokevirtual 103, 3) := by decide +kernel
theorem dX11_margin_41 : decode cX11_margin 41 = .ok (.ireturn, 1) := by decide +kernel
theorem dX11_margin_42 : decode cX11_margin 42 = .ok (.aload_n 0, 1) := by decide +kernel
theorem dX11_margin_43 : decode cX11_margin 43 = .ok (.getfield 74, 3) := by decide +kernel
theorem dX11_margin_46 : decode cX11_margin 46 = .ok (.iload_n 1, 1) := by decide +kernel
theorem dX11_margin_47 : decode cX11_margin 47 = .ok (.iload_n 2, 1) := by decide +kernel
theorem dX11_margin_48 : decode cX11_margin 48 = .ok (.invokevirtual 311, 3) := by decide +kernel
theorem dX11_margin_51 : decode cX11_margin 51 = .ok (.ireturn, 1) := by decide +kernel
set_option maxRecDepth 100000 in
set_option maxHeartbeats 4000000 in
theorem c_X11_margin {l : Launch} {G : Gx} (hap : k_ap G shC.length) (v1 : Int32) (v2 : Int32) (M0 : Mem) (r : Int32 × Mem) (hf : f_X11_margin v1 v2 M0 = some r) : k_Met l yX11_margin cX11_margin 3 (some .int) 6 132 G shC [.ref (G.2.1 0), .int v1, .int v2] M0 (k_Qi G shC r.1 r.2) := by
  refine k_Met_of (by decide) hap (Nat.le_of_ble_eq_true rfl) ?_
  intro p e s m args below meth c C hr hlk
  have C : Cx p s m args c cX11_margin RX11 3 G shC := C
  unfold f_X11_margin at hf
  refine k_lv (lv' := [(0, .ref (G.2.1 0)), (1, .int v1), (2, .int v2)]) [0, 1, 2] rfl ?_
  refine k_aload_n C dX11_margin_0 0 rfl ?_
  refine k_getr C shC_0 (j := 0) rfl FL_X11_12 dX11_margin_1 ?_
  refine k_iload_n C dX11_margin_4 1 rfl ?_
  refine k_callVi C (As := [.int v1]) (c_X0_hasDoing hap 1 BD_1 v1 M0 _ rfl) ML_X0_hasDoing wd_542 shC_1 rfl rfl rfl ⟨Nat.le_of_ble_eq_true rfl, Nat.le_of_ble_eq_true rfl⟩ (Nat.le_of_ble_eq_true rfl) dX11_margin_5 ?_
  rcases ite_g hf with ⟨c1, hf⟩ | ⟨c1, hf⟩
  · refine k_if_ne_f C dX11_margin_8 (tgt := 17) (by decide) c1 ?_
    refine k_aload_n C dX11_margin_11 0 rfl ?_
    refine k_iconst C dX11_margin_12 (v := (-1 : Int32)) rfl ?_
    obtain ⟨⟨t7, M7⟩, ht7, hf⟩ := bnd hf
    replace hf := bp_s hf
    refine k_callVi C (As := [.int (-1 : Int32)]) (c_X11_refuse hap (-1 : Int32) M0 (t7, M7) ht7) ML_X11_refuse wd_421 shC_0 rfl rfl rfl ⟨Nat.le_of_ble_eq_true rfl, Nat.le_of_ble_eq_true rfl⟩ (Nat.le_of_ble_eq_true rfl) dX11_margin_13 ?_
    exact k_iret C hr hlk (prf hf) (prs hf) dX11_margin_16
  · refine k_if_ne_t C dX11_margin_8 (tgt := 17) (by decide) c1 ?_
    refine k_iload_n C dX11_margin_17 2 rfl ?_
    rcases ite_g hf with ⟨c2, hf⟩ | ⟨c2, hf⟩
    · refine k_if_ge_t C dX11_margin_18 (tgt := 28) (by decide) c2 ?_
      refine k_iload_n C dX11_margin_28 2 rfl ?_
      refine k_sipush C dX11_margin_29 (v := (999 : Int32)) rfl ?_
      rcases ite_g hf with ⟨c3, hf⟩ | ⟨c3, hf⟩
      · refine k_icmp_le_t C dX11_margin_32 (tgt := 42) (by decide) c3 ?_
        refine k_aload_n C dX11_margin_42 0 rfl ?_
        refine k_getr C shC_0 (j := 9) rfl FL_X11_74 dX11_margin_43 ?_
        refine k_iload_n C dX11_margin_46 1 rfl ?_
        refine k_iload_n C dX11_margin_47 2 rfl ?_
        obtain ⟨⟨t4, M4⟩, ht4, hf⟩ := bnd hf
        replace hf := bp_s hf
        refine k_callVi C (As := [.int v1, .int v2]) (c_X6_timesMore hap v1 v2 M0 (t4, M4) ht4) ML_X6_timesMore wd_1072 shC_34 rfl rfl rfl ⟨Nat.le_of_ble_eq_true rfl, Nat.le_of_ble_eq_true rfl⟩ (Nat.le_of_ble_eq_true rfl) dX11_margin_48 ?_
        exact k_iret C hr hlk (prf hf) (prs hf) dX11_margin_51
      · refine k_icmp_le_f C dX11_margin_32 (tgt := 42) (by decide) c3 ?_
        refine k_aload_n C dX11_margin_35 0 rfl ?_
        refine k_bipush C dX11_margin_36 (v := (-6 : Int32)) rfl ?_
        obtain ⟨⟨t5, M5⟩, ht5, hf⟩ := bnd hf
        replace hf := bp_s hf
        refine k_callVi C (As := [.int (-6 : Int32)]) (c_X11_refuse hap (-6 : Int32) M0 (t5, M5) ht5) ML_X11_refuse wd_421 shC_0 rfl rfl rfl ⟨Nat.le_of_ble_eq_true rfl, Nat.le_of_ble_eq_true rfl⟩ (Nat.le_of_ble_eq_true rfl) dX11_margin_38 ?_
        exact k_iret C hr hlk (prf hf) (prs hf) dX11_margin_41
    · refine k_if_ge_f C dX11_margin_18 (tgt := 28) (by decide) c2 ?_
      refine k_aload_n C dX11_margin_21 0 rfl ?_
      refine k_bipush C dX11_margin_22 (v := (-4 : Int32)) rfl ?_
      obtain ⟨⟨t6, M6⟩, ht6, hf⟩ := bnd hf
      replace hf := bp_s hf
      refine k_callVi C (As := [.int (-4 : Int32)]) (c_X11_refuse hap (-4 : Int32) M0 (t6, M6) ht6) ML_X11_refuse wd_421 shC_0 rfl rfl rfl ⟨Nat.le_of_ble_eq_true rfl, Nat.le_of_ble_eq_true rfl⟩ (Nat.le_of_ble_eq_true rfl) dX11_margin_24 ?_
      exact k_iret C hr hlk (prf hf) (prs hf) dX11_margin_27
theorem dX11_firsts_0 : decode cX11_firsts 0 = .ok (.aload_n 0, 1) := by decide +kernel
theorem dX11_firsts_1 : decode cX11_firsts 1 = .ok (.getfield 58, 3) := by decide +kernel
theorem dX11_firsts_4 : decode cX11_firsts 4 = .ok (.invokevirtual 314, 3) := by decide +kernel
theorem dX11_firsts_7 : decode cX11_firsts 7 = .ok (.ireturn, 1) := by decide +kernel
set_option maxRecDepth 100000 in
set_option maxHeartbeats 4000000 in
theorem c_X11_firsts {l : Launch} {G : Gx} (hap : k_ap G shC.length) (M0 : Mem) (r : Int32 × Mem) (hf : f_X11_firsts M0 = some r) : k_Met l yX11_firsts cX11_firsts 1 (some .int) 6 132 G shC [.ref (G.2.1 0)] M0 (k_Qi G shC r.1 r.2) := by
  refine k_Met_of (by decide) hap (Nat.le_of_ble_eq_true rfl) ?_
  intro p e s m args below meth c C hr hlk
  have C : Cx p s m args c cX11_firsts RX11 1 G shC := C
  unfold f_X11_firsts at hf
  refine k_lv (lv' := [(0, .ref (G.2.1 0))]) [0] rfl ?_
  refine k_aload_n C dX11_firsts_0 0 rfl ?_
  refine k_getr C shC_0 (j := 7) rfl FL_X11_58 dX11_firsts_1 ?_
  obtain ⟨⟨t1, M1⟩, ht1, hf⟩ := bnd hf
  replace hf := bp_s hf
  refine k_callVi C (As := []) (c_X3_withoutRepeats hap M0 (t1, M1) ht1) ML_X3_withoutRepeats wd_1081 shC_28 rfl rfl rfl ⟨Nat.le_of_ble_eq_true rfl, Nat.le_of_ble_eq_true rfl⟩ (Nat.le_of_ble_eq_true rfl) dX11_firsts_4 ?_
  exact k_iret C hr hlk (prf hf) (prs hf) dX11_firsts_7
theorem dX11_greedily_0 : decode cX11_greedily 0 = .ok (.iload_n 1, 1) := by decide +kernel
theorem dX11_greedily_1 : decode cX11_greedily 1 = .ok (.ifCond .ge 10, 3) := by decide +kernel
theorem dX11_greedily_4 : decode cX11_greedily 4 = .ok (.aload_n 0, 1) := by decide +kernel
theorem dX11_greedily_5 : decode cX11_greedily 5 = .ok (.bipush (-4), 2) := by decide +kernel
theorem dX11_greedily_7 : decode cX11_greedily 7 = .ok (.invokevirtual 103, 3) := by decide +kernel
theorem dX11_greedily_10 : decode cX11_greedily 10 = .ok (.ireturn, 1) := by decide +kernel
theorem dX11_greedily_11 : decode cX11_greedily 11 = .ok (.iload_n 1, 1) := by decide +kernel
theorem dX11_greedily_12 : decode cX11_greedily 12 = .ok (.bipush 12, 2) := by decide +kernel
theorem dX11_greedily_14 : decode cX11_greedily 14 = .ok (.if_icmp .le 10, 3) := by decide +kernel
theorem dX11_greedily_17 : decode cX11_greedily 17 = .ok (.aload_n 0, 1) := by decide +kernel
theorem dX11_greedily_18 : decode cX11_greedily 18 = .ok (.bipush (-6), 2) := by decide +kernel
theorem dX11_greedily_20 : decode cX11_greedily 20 = .ok (.invokevirtual 103, 3) := by decide +kernel
theorem dX11_greedily_23 : decode cX11_greedily 23 = .ok (.ireturn, 1) := by decide +kernel
theorem dX11_greedily_24 : decode cX11_greedily 24 = .ok (.iload_n 2, 1) := by decide +kernel
theorem dX11_greedily_25 : decode cX11_greedily 25 = .ok (.invokestatic 207, 3) := by decide +kernel
theorem dX11_greedily_28 : decode cX11_greedily 28 = .ok (.ifCond .ne 10, 3) := by decide +kernel
theorem dX11_greedily_31 : decode cX11_greedily 31 = .ok (.aload_n 0, 1) := by decide +kernel
theorem dX11_greedily_32 : decode cX11_greedily 32 = .ok (.bipush (-2), 2) := by decide +kernel
theorem dX11_greedily_34 : decode cX11_greedily 34 = .ok (.invokevirtual 103, 3) := by decide +kernel
theorem dX11_greedily_37 : decode cX11_greedily 37 = .ok (.ireturn, 1) := by decide +kernel
theorem dX11_greedily_38 : decode cX11_greedily 38 = .ok (.aload_n 0, 1) := by decide +kernel
theorem dX11_greedily_39 : decode cX11_greedily 39 = .ok (.getfield 74, 3) := by decide +kernel
theorem dX11_greedily_42 : decode cX11_greedily 42 = .ok (.iload_n 1, 1) := by decide +kernel
theorem dX11_greedily_43 : decode cX11_greedily 43 = .ok (.iload_n 2, 1) := by decide +kernel
theorem dX11_greedily_44 : decode cX11_greedily 44 = .ok (.invokevirtual 317, 3) := by decide +kernel
theorem dX11_greedily_47 : decode cX11_greedily 47 = .ok (.ireturn, 1) := by decide +kernel
set_option maxRecDepth 100000 in
set_option maxHeartbeats 4000000 in
theorem c_X11_greedily {l : Launch} {G : Gx} (hap : k_ap G shC.length) (v1 : Int32) (v2 : Int32) (M0 : Mem) (r : Int32 × Mem) (hf : f_X11_greedily v1 v2 M0 = some r) : k_Met l yX11_greedily cX11_greedily 3 (some .int) 6 133 G shC [.ref (G.2.1 0), .int v1, .int v2] M0 (k_Qi G shC r.1 r.2) := by
  refine k_Met_of (by decide) hap (Nat.le_of_ble_eq_true rfl) ?_
  intro p e s m args below meth c C hr hlk
  have C : Cx p s m args c cX11_greedily RX11 3 G shC := C
  unfold f_X11_greedily at hf
  refine k_lv (lv' := [(0, .ref (G.2.1 0)), (1, .int v1), (2, .int v2)]) [0, 1, 2] rfl ?_
  refine k_iload_n C dX11_greedily_0 1 rfl ?_
  rcases ite_g hf with ⟨c1, hf⟩ | ⟨c1, hf⟩
  · refine k_if_ge_t C dX11_greedily_1 (tgt := 11) (by decide) c1 ?_
    refine k_iload_n C dX11_greedily_11 1 rfl ?_
    refine k_bipush C dX11_greedily_12 (v := (12 : Int32)) rfl ?_
    rcases ite_g hf with ⟨c2, hf⟩ | ⟨c2, hf⟩
    · refine k_icmp_le_t C dX11_greedily_14 (tgt := 24) (by decide) c2 ?_
      refine k_iload_n C dX11_greedily_24 2 rfl ?_
      refine k_callSi C (As := [.int v2]) (c_X11_isEither hap v2 M0 _ rfl) MS_X11_isEither wd_696 rfl rfl ⟨Nat.le_of_ble_eq_true rfl, Nat.le_of_ble_eq_true rfl⟩ (Nat.le_of_ble_eq_true rfl) dX11_greedily_25 ?_
      rcases ite_g hf with ⟨c3, hf⟩ | ⟨c3, hf⟩
      · refine k_if_ne_f C dX11_greedily_28 (tgt := 38) (by decide) c3 ?_
        refine k_aload_n C dX11_greedily_31 0 rfl ?_
        refine k_bipush C dX11_greedily_32 (v := (-2 : Int32)) rfl ?_
        obtain ⟨⟨t5, M5⟩, ht5, hf⟩ := bnd hf
        replace hf := bp_s hf
        refine k_callVi C (As := [.int (-2 : Int32)]) (c_X11_refuse hap (-2 : Int32) M0 (t5, M5) ht5) ML_X11_refuse wd_421 shC_0 rfl rfl rfl ⟨Nat.le_of_ble_eq_true rfl, Nat.le_of_ble_eq_true rfl⟩ (Nat.le_of_ble_eq_true rfl) dX11_greedily_34 ?_
        exact k_iret C hr hlk (prf hf) (prs hf) dX11_greedily_37
      · refine k_if_ne_t C dX11_greedily_28 (tgt := 38) (by decide) c3 ?_
        refine k_aload_n C dX11_greedily_38 0 rfl ?_
        refine k_getr C shC_0 (j := 9) rfl FL_X11_74 dX11_greedily_39 ?_
        refine k_iload_n C dX11_greedily_42 1 rfl ?_
        refine k_iload_n C dX11_greedily_43 2 rfl ?_
        obtain ⟨⟨t4, M4⟩, ht4, hf⟩ := bnd hf
        replace hf := bp_s hf
        refine k_callVi C (As := [.int v1, .int v2]) (c_X6_cheapestSteps hap v1 v2 M0 (t4, M4) ht4) ML_X6_cheapestSteps wd_1089 shC_34 rfl rfl rfl ⟨Nat.le_of_ble_eq_true rfl, Nat.le_of_ble_eq_true rfl⟩ (Nat.le_of_ble_eq_true rfl) dX11_greedily_44 ?_
        exact k_iret C hr hlk (prf hf) (prs hf) dX11_greedily_47
    · refine k_icmp_le_f C dX11_greedily_14 (tgt := 24) (by decide) c2 ?_
      refine k_aload_n C dX11_greedily_17 0 rfl ?_
      refine k_bipush C dX11_greedily_18 (v := (-6 : Int32)) rfl ?_
      obtain ⟨⟨t6, M6⟩, ht6, hf⟩ := bnd hf
      replace hf := bp_s hf
      refine k_callVi C (As := [.int (-6 : Int32)]) (c_X11_refuse hap (-6 : Int32) M0 (t6, M6) ht6) ML_X11_refuse wd_421 shC_0 rfl rfl rfl ⟨Nat.le_of_ble_eq_true rfl, Nat.le_of_ble_eq_true rfl⟩ (Nat.le_of_ble_eq_true rfl) dX11_greedily_20 ?_
      exact k_iret C hr hlk (prf hf) (prs hf) dX11_greedily_23
  · refine k_if_ge_f C dX11_greedily_1 (tgt := 11) (by decide) c1 ?_
    refine k_aload_n C dX11_greedily_4 0 rfl ?_
    refine k_bipush C dX11_greedily_5 (v := (-4 : Int32)) rfl ?_
    obtain ⟨⟨t7, M7⟩, ht7, hf⟩ := bnd hf
    replace hf := bp_s hf
    refine k_callVi C (As := [.int (-4 : Int32)]) (c_X11_refuse hap (-4 : Int32) M0 (t7, M7) ht7) ML_X11_refuse wd_421 shC_0 rfl rfl rfl ⟨Nat.le_of_ble_eq_true rfl, Nat.le_of_ble_eq_true rfl⟩ (Nat.le_of_ble_eq_true rfl) dX11_greedily_7 ?_
    exact k_iret C hr hlk (prf hf) (prs hf) dX11_greedily_10
theorem dX11_pair_0 : decode cX11_pair 0 = .ok (.iload_n 1, 1) := by decide +kernel
theorem dX11_pair_1 : decode cX11_pair 1 = .ok (.ifCond .ge 10, 3) := by decide +kernel
theorem dX11_pair_4 : decode cX11_pair 4 = .ok (.aload_n 0, 1) := by decide +kernel
theorem dX11_pair_5 : decode cX11_pair 5 = .ok (.bipush (-4), 2) := by decide +kernel
theorem dX11_pair_7 : decode cX11_pair 7 = .ok (.invokevirtual 103, 3) := by decide +kernel
theorem dX11_pair_10 : decode cX11_pair 10 = .ok (.ireturn, 1) := by decide +kernel
theorem dX11_pair_11 : decode cX11_pair 11 = .ok (.iload_n 1, 1) := by decide +kernel
theorem dX11_pair_12 : decode cX11_pair 12 = .ok (.bipush 6, 2) := by decide +kernel
theorem dX11_pair_14 : decode cX11_pair 14 = .ok (.if_icmp .le 10, 3) := by decide +kernel
theorem dX11_pair_17 : decode cX11_pair 17 = .ok (.aload_n 0, 1) := by decide +kernel
theorem dX11_pair_18 : decode cX11_pair 18 = .ok (.bipush (-6), 2) := by decide +kernel
theorem dX11_pair_20 : decode cX11_pair 20 = .ok (.invokevirtual 103, 3) := by decide +kernel
theorem dX11_pair_23 : decode cX11_pair 23 = .ok (.ireturn, 1) := by decide +kernel
theorem dX11_pair_24 : decode cX11_pair 24 = .ok (.iload_n 2, 1) := by decide +kernel
theorem dX11_pair_25 : decode cX11_pair 25 = .ok (.invokestatic 207, 3) := by decide +kernel
theorem dX11_pair_28 : decode cX11_pair 28 = .ok (.ifCond .ne 10, 3) := by decide +kernel
theorem dX11_pair_31 : decode cX11_pair 31 = .ok (.aload_n 0, 1) := by decide +kernel
theorem dX11_pair_32 : decode cX11_pair 32 = .ok (.bipush (-2), 2) := by decide +kernel
theorem dX11_pair_34 : decode cX11_pair 34 = .ok (.invokevirtual 103, 3) := by decide +kernel
theorem dX11_pair_37 : decode cX11_pair 37 = .ok (.ireturn, 1) := by decide +kernel
theorem dX11_pair_38 : decode cX11_pair 38 = .ok (.aload_n 0, 1) := by decide +kernel
theorem dX11_pair_39 : decode cX11_pair 39 = .ok (.getfield 74, 3) := by decide +kernel
theorem dX11_pair_42 : decode cX11_pair 42 = .ok (.iload_n 1, 1) := by decide +kernel
theorem dX11_pair_43 : decode cX11_pair 43 = .ok (.iload_n 2, 1) := by decide +kernel
theorem dX11_pair_44 : decode cX11_pair 44 = .ok (.invokevirtual 320, 3) := by decide +kernel
theorem dX11_pair_47 : decode cX11_pair 47 = .ok (.ireturn, 1) := by decide +kernel
set_option maxRecDepth 100000 in
set_option maxHeartbeats 4000000 in
theorem c_X11_pair {l : Launch} {G : Gx} (hap : k_ap G shC.length) (v1 : Int32) (v2 : Int32) (M0 : Mem) (r : Int32 × Mem) (hf : f_X11_pair v1 v2 M0 = some r) : k_Met l yX11_pair cX11_pair 3 (some .int) 5 115 G shC [.ref (G.2.1 0), .int v1, .int v2] M0 (k_Qi G shC r.1 r.2) := by
  refine k_Met_of (by decide) hap (Nat.le_of_ble_eq_true rfl) ?_
  intro p e s m args below meth c C hr hlk
  have C : Cx p s m args c cX11_pair RX11 3 G shC := C
  unfold f_X11_pair at hf
  refine k_lv (lv' := [(0, .ref (G.2.1 0)), (1, .int v1), (2, .int v2)]) [0, 1, 2] rfl ?_
  refine k_iload_n C dX11_pair_0 1 rfl ?_
  rcases ite_g hf with ⟨c1, hf⟩ | ⟨c1, hf⟩
  · refine k_if_ge_t C dX11_pair_1 (tgt := 11) (by decide) c1 ?_
    refine k_iload_n C dX11_pair_11 1 rfl ?_
    refine k_bipush C dX11_pair_12 (v := (6 : Int32)) rfl ?_
    rcases ite_g hf with ⟨c2, hf⟩ | ⟨c2, hf⟩
    · refine k_icmp_le_t C dX11_pair_14 (tgt := 24) (by decide) c2 ?_
      refine k_iload_n C dX11_pair_24 2 rfl ?_
      refine k_callSi C (As := [.int v2]) (c_X11_isEither hap v2 M0 _ rfl) MS_X11_isEither wd_696 rfl rfl ⟨Nat.le_of_ble_eq_true rfl, Nat.le_of_ble_eq_true rfl⟩ (Nat.le_of_ble_eq_true rfl) dX11_pair_25 ?_
      rcases ite_g hf with ⟨c3, hf⟩ | ⟨c3, hf⟩
      · refine k_if_ne_f C dX11_pair_28 (tgt := 38) (by decide) c3 ?_
        refine k_aload_n C dX11_pair_31 0 rfl ?_
        refine k_bipush C dX11_pair_32 (v := (-2 : Int32)) rfl ?_
        obtain ⟨⟨t5, M5⟩, ht5, hf⟩ := bnd hf
        replace hf := bp_s hf
        refine k_callVi C (As := [.int (-2 : Int32)]) (c_X11_refuse hap (-2 : Int32) M0 (t5, M5) ht5) ML_X11_refuse wd_421 shC_0 rfl rfl rfl ⟨Nat.le_of_ble_eq_true rfl, Nat.le_of_ble_eq_true rfl⟩ (Nat.le_of_ble_eq_true rfl) dX11_pair_34 ?_
        exact k_iret C hr hlk (prf hf) (prs hf) dX11_pair_37
      · refine k_if_ne_t C dX11_pair_28 (tgt := 38) (by decide) c3 ?_
        refine k_aload_n C dX11_pair_38 0 rfl ?_
        refine k_getr C shC_0 (j := 9) rfl FL_X11_74 dX11_pair_39 ?_
        refine k_iload_n C dX11_pair_42 1 rfl ?_
        refine k_iload_n C dX11_pair_43 2 rfl ?_
        obtain ⟨⟨t4, M4⟩, ht4, hf⟩ := bnd hf
        replace hf := bp_s hf
        refine k_callVi C (As := [.int v1, .int v2]) (c_X6_cheapestTwo hap v1 v2 M0 (t4, M4) ht4) ML_X6_cheapestTwo wd_1098 shC_34 rfl rfl rfl ⟨Nat.le_of_ble_eq_true rfl, Nat.le_of_ble_eq_true rfl⟩ (Nat.le_of_ble_eq_true rfl) dX11_pair_44 ?_
        exact k_iret C hr hlk (prf hf) (prs hf) dX11_pair_47
    · refine k_icmp_le_f C dX11_pair_14 (tgt := 24) (by decide) c2 ?_
      refine k_aload_n C dX11_pair_17 0 rfl ?_
      refine k_bipush C dX11_pair_18 (v := (-6 : Int32)) rfl ?_
      obtain ⟨⟨t6, M6⟩, ht6, hf⟩ := bnd hf
      replace hf := bp_s hf
      refine k_callVi C (As := [.int (-6 : Int32)]) (c_X11_refuse hap (-6 : Int32) M0 (t6, M6) ht6) ML_X11_refuse wd_421 shC_0 rfl rfl rfl ⟨Nat.le_of_ble_eq_true rfl, Nat.le_of_ble_eq_true rfl⟩ (Nat.le_of_ble_eq_true rfl) dX11_pair_20 ?_
      exact k_iret C hr hlk (prf hf) (prs hf) dX11_pair_23
  · refine k_if_ge_f C dX11_pair_1 (tgt := 11) (by decide) c1 ?_
    refine k_aload_n C dX11_pair_4 0 rfl ?_
    refine k_bipush C dX11_pair_5 (v := (-4 : Int32)) rfl ?_
    obtain ⟨⟨t7, M7⟩, ht7, hf⟩ := bnd hf
    replace hf := bp_s hf
    refine k_callVi C (As := [.int (-4 : Int32)]) (c_X11_refuse hap (-4 : Int32) M0 (t7, M7) ht7) ML_X11_refuse wd_421 shC_0 rfl rfl rfl ⟨Nat.le_of_ble_eq_true rfl, Nat.le_of_ble_eq_true rfl⟩ (Nat.le_of_ble_eq_true rfl) dX11_pair_7 ?_
    exact k_iret C hr hlk (prf hf) (prs hf) dX11_pair_10
theorem dX11_quota_0 : decode cX11_quota 0 = .ok (.iload_n 1, 1) := by decide +kernel
theorem dX11_quota_1 : decode cX11_quota 1 = .ok (.ifCond .ge 10, 3) := by decide +kernel
theorem dX11_quota_4 : decode cX11_quota 4 = .ok (.aload_n 0, 1) := by decide +kernel
theorem dX11_quota_5 : decode cX11_quota 5 = .ok (.bipush (-4), 2) := by decide +kernel
theorem dX11_quota_7 : decode cX11_quota 7 = .ok (.invokevirtual 103, 3) := by decide +kernel
theorem dX11_quota_10 : decode cX11_quota 10 = .ok (.ireturn, 1) := by decide +kernel
theorem dX11_quota_11 : decode cX11_quota 11 = .ok (.iload_n 1, 1) := by decide +kernel
theorem dX11_quota_12 : decode cX11_quota 12 = .ok (.sipush 999, 3) := by decide +kernel
theorem dX11_quota_15 : decode cX11_quota 15 = .ok (.if_icmp .le 10, 3) := by decide +kernel
theorem dX11_quota_18 : decode cX11_quota 18 = .ok (.aload_n 0, 1) := by decide +kernel
theorem dX11_quota_19 : decode cX11_quota 19 = .ok (.bipush (-6), 2) := by decide +kernel
theorem dX11_quota_21 : decode cX11_quota 21 = .ok (.invokevirtual 103, 3) := by decide +kernel
theorem dX11_quota_24 : decode cX11_quota 24 = .ok (.ireturn, 1) := by decide +kernel
theorem dX11_quota_25 : decode cX11_quota 25 = .ok (.aload_n 0, 1) := by decide +kernel
theorem dX11_quota_26 : decode cX11_quota 26 = .ok (.getfield 74, 3) := by decide +kernel
theorem dX11_quota_29 : decode cX11_quota 29 = .ok (.iload_n 1, 1) := by decide +kernel
theorem dX11_quota_30 : decode cX11_quota 30 = .ok (.invokevirtual 323, 3) := by decide +kernel
theorem dX11_quota_33 : decode cX11_quota 33 = .ok (.ireturn, 1) := by decide +kernel
set_option maxRecDepth 100000 in
set_option maxHeartbeats 4000000 in
theorem c_X11_quota {l : Launch} {G : Gx} (hap : k_ap G shC.length) (v1 : Int32) (M0 : Mem) (r : Int32 × Mem) (hf : f_X11_quota v1 M0 = some r) : k_Met l yX11_quota cX11_quota 2 (some .int) 6 131 G shC [.ref (G.2.1 0), .int v1] M0 (k_Qi G shC r.1 r.2) := by
  refine k_Met_of (by decide) hap (Nat.le_of_ble_eq_true rfl) ?_
  intro p e s m args below meth c C hr hlk
  have C : Cx p s m args c cX11_quota RX11 2 G shC := C
  unfold f_X11_quota at hf
  refine k_lv (lv' := [(0, .ref (G.2.1 0)), (1, .int v1)]) [0, 1] rfl ?_
  refine k_iload_n C dX11_quota_0 1 rfl ?_
  rcases ite_g hf with ⟨c1, hf⟩ | ⟨c1, hf⟩
  · refine k_if_ge_t C dX11_quota_1 (tgt := 11) (by decide) c1 ?_
    refine k_iload_n C dX11_quota_11 1 rfl ?_
    refine k_sipush C dX11_quota_12 (v := (999 : Int32)) rfl ?_
    rcases ite_g hf with ⟨c2, hf⟩ | ⟨c2, hf⟩
    · refine k_icmp_le_t C dX11_quota_15 (tgt := 25) (by decide) c2 ?_
      refine k_aload_n C dX11_quota_25 0 rfl ?_
      refine k_getr C shC_0 (j := 9) rfl FL_X11_74 dX11_quota_26 ?_
      refine k_iload_n C dX11_quota_29 1 rfl ?_
      obtain ⟨⟨t3, M3⟩, ht3, hf⟩ := bnd hf
      replace hf := bp_s hf
      refine k_callVi C (As := [.int v1]) (c_X6_stepsWithin hap v1 M0 (t3, M3) ht3) ML_X6_stepsWithin wd_1112 shC_34 rfl rfl rfl ⟨Nat.le_of_ble_eq_true rfl, Nat.le_of_ble_eq_true rfl⟩ (Nat.le_of_ble_eq_true rfl) dX11_quota_30 ?_
      exact k_iret C hr hlk (prf hf) (prs hf) dX11_quota_33
    · refine k_icmp_le_f C dX11_quota_15 (tgt := 25) (by decide) c2 ?_
      refine k_aload_n C dX11_quota_18 0 rfl ?_
      refine k_bipush C dX11_quota_19 (v := (-6 : Int32)) rfl ?_
      obtain ⟨⟨t4, M4⟩, ht4, hf⟩ := bnd hf
      replace hf := bp_s hf
      refine k_callVi C (As := [.int (-6 : Int32)]) (c_X11_refuse hap (-6 : Int32) M0 (t4, M4) ht4) ML_X11_refuse wd_421 shC_0 rfl rfl rfl ⟨Nat.le_of_ble_eq_true rfl, Nat.le_of_ble_eq_true rfl⟩ (Nat.le_of_ble_eq_true rfl) dX11_quota_21 ?_
      exact k_iret C hr hlk (prf hf) (prs hf) dX11_quota_24
  · refine k_if_ge_f C dX11_quota_1 (tgt := 11) (by decide) c1 ?_
    refine k_aload_n C dX11_quota_4 0 rfl ?_
    refine k_bipush C dX11_quota_5 (v := (-4 : Int32)) rfl ?_
    obtain ⟨⟨t5, M5⟩, ht5, hf⟩ := bnd hf
    replace hf := bp_s hf
    refine k_callVi C (As := [.int (-4 : Int32)]) (c_X11_refuse hap (-4 : Int32) M0 (t5, M5) ht5) ML_X11_refuse wd_421 shC_0 rfl rfl rfl ⟨Nat.le_of_ble_eq_true rfl, Nat.le_of_ble_eq_true rfl⟩ (Nat.le_of_ble_eq_true rfl) dX11_quota_7 ?_
    exact k_iret C hr hlk (prf hf) (prs hf) dX11_quota_10
theorem dX11_radius_0 : decode cX11_radius 0 = .ok (.iload_n 1, 1) := by decide +kernel
theorem dX11_radius_1 : decode cX11_radius 1 = .ok (.invokestatic 207, 3) := by decide +kernel
theorem dX11_radius_4 : decode cX11_radius 4 = .ok (.ifCond .ne 10, 3) := by decide +kernel
theorem dX11_radius_7 : decode cX11_radius 7 = .ok (.aload_n 0, 1) := by decide +kernel
theorem dX11_radius_8 : decode cX11_radius 8 = .ok (.bipush (-2), 2) := by decide +kernel
theorem dX11_radius_10 : decode cX11_radius 10 = .ok (.invokevirtual 103, 3) := by decide +kernel
theorem dX11_radius_13 : decode cX11_radius 13 = .ok (.ireturn, 1) := by decide +kernel
theorem dX11_radius_14 : decode cX11_radius 14 = .ok (.iload_n 1, 1) := by decide +kernel
theorem dX11_radius_15 : decode cX11_radius 15 = .ok (.ifCond .ne 13, 3) := by decide +kernel
theorem dX11_radius_18 : decode cX11_radius 18 = .ok (.aload_n 0, 1) := by decide +kernel
theorem dX11_radius_19 : decode cX11_radius 19 = .ok (.getfield 88, 3) := by decide +kernel
theorem dX11_radius_22 : decode cX11_radius 22 = .ok (.invokevirtual 326, 3) := by decide +kernel
theorem dX11_radius_25 : decode cX11_radius 25 = .ok (.goto 10, 3) := by decide +kernel
theorem dX11_radius_28 : decode cX11_radius 28 = .ok (.aload_n 0, 1) := by decide +kernel
theorem dX11_radius_29 : decode cX11_radius 29 = .ok (.getfield 88, 3) := by decide +kernel
theorem dX11_radius_32 : decode cX11_radius 32 = .ok (.invokevirtual 329, 3) := by decide +kernel
theorem dX11_radius_35 : decode cX11_radius 35 = .ok (.ireturn, 1) := by decide +kernel
set_option maxRecDepth 100000 in
set_option maxHeartbeats 4000000 in
theorem c_X11_radius {l : Launch} {G : Gx} (hap : k_ap G shC.length) (v1 : Int32) (M0 : Mem) (r : Int32 × Mem) (hf : f_X11_radius v1 M0 = some r) : k_Met l yX11_radius cX11_radius 2 (some .int) 4 89 G shC [.ref (G.2.1 0), .int v1] M0 (k_Qi G shC r.1 r.2) := by
  refine k_Met_of (by decide) hap (Nat.le_of_ble_eq_true rfl) ?_
  intro p e s m args below meth c C hr hlk
  have C : Cx p s m args c cX11_radius RX11 2 G shC := C
  unfold f_X11_radius at hf
  refine k_lv (lv' := [(0, .ref (G.2.1 0)), (1, .int v1)]) [0, 1] rfl ?_
  refine k_iload_n C dX11_radius_0 1 rfl ?_
  refine k_callSi C (As := [.int v1]) (c_X11_isEither hap v1 M0 _ rfl) MS_X11_isEither wd_696 rfl rfl ⟨Nat.le_of_ble_eq_true rfl, Nat.le_of_ble_eq_true rfl⟩ (Nat.le_of_ble_eq_true rfl) dX11_radius_1 ?_
  rcases ite_g hf with ⟨c1, hf⟩ | ⟨c1, hf⟩
  · refine k_if_ne_f C dX11_radius_4 (tgt := 14) (by decide) c1 ?_
    refine k_aload_n C dX11_radius_7 0 rfl ?_
    refine k_bipush C dX11_radius_8 (v := (-2 : Int32)) rfl ?_
    obtain ⟨⟨t5, M5⟩, ht5, hf⟩ := bnd hf
    replace hf := bp_s hf
    refine k_callVi C (As := [.int (-2 : Int32)]) (c_X11_refuse hap (-2 : Int32) M0 (t5, M5) ht5) ML_X11_refuse wd_421 shC_0 rfl rfl rfl ⟨Nat.le_of_ble_eq_true rfl, Nat.le_of_ble_eq_true rfl⟩ (Nat.le_of_ble_eq_true rfl) dX11_radius_10 ?_
    exact k_iret C hr hlk (prf hf) (prs hf) dX11_radius_13
  · refine k_if_ne_t C dX11_radius_4 (tgt := 14) (by decide) c1 ?_
    refine k_iload_n C dX11_radius_14 1 rfl ?_
    rcases ite_g hf with ⟨c2, hf⟩ | ⟨c2, hf⟩
    · refine k_if_ne_f C dX11_radius_15 (tgt := 28) (by decide) c2 ?_
      refine k_aload_n C dX11_radius_18 0 rfl ?_
      refine k_getr C shC_0 (j := 11) rfl FL_X11_88 dX11_radius_19 ?_
      obtain ⟨t4, ht4, hf⟩ := bnd hf
      refine k_callVi C (As := []) (c_X5_farthestTwo hap M0 t4 ht4) ML_X5_farthestTwo wd_1120 shC_41 rfl rfl rfl ⟨Nat.le_of_ble_eq_true rfl, Nat.le_of_ble_eq_true rfl⟩ (Nat.le_of_ble_eq_true rfl) dX11_radius_22 ?_
      refine k_goto C dX11_radius_25 (tgt := 35) (by decide) ?_
      exact k_iret C hr hlk (prf hf) (prs hf) dX11_radius_35
    · refine k_if_ne_t C dX11_radius_15 (tgt := 28) (by decide) c2 ?_
      refine k_aload_n C dX11_radius_28 0 rfl ?_
      refine k_getr C shC_0 (j := 11) rfl FL_X11_88 dX11_radius_29 ?_
      obtain ⟨t3, ht3, hf⟩ := bnd hf
      refine k_callVi C (As := []) (c_X5_centre hap M0 t3 ht3) ML_X5_centre wd_1129 shC_41 rfl rfl rfl ⟨Nat.le_of_ble_eq_true rfl, Nat.le_of_ble_eq_true rfl⟩ (Nat.le_of_ble_eq_true rfl) dX11_radius_32 ?_
      exact k_iret C hr hlk (prf hf) (prs hf) dX11_radius_35
theorem dX11_majority_0 : decode cX11_majority 0 = .ok (.aload_n 0, 1) := by decide +kernel
theorem dX11_majority_1 : decode cX11_majority 1 = .ok (.getfield 88, 3) := by decide +kernel
theorem dX11_majority_4 : decode cX11_majority 4 = .ok (.invokevirtual 332, 3) := by decide +kernel
theorem dX11_majority_7 : decode cX11_majority 7 = .ok (.ireturn, 1) := by decide +kernel
set_option maxRecDepth 100000 in
set_option maxHeartbeats 4000000 in
theorem c_X11_majority {l : Launch} {G : Gx} (hap : k_ap G shC.length) (M0 : Mem) (r : Int32) (hf : f_X11_majority M0 = some r) : k_Met l yX11_majority cX11_majority 1 (some .int) 1 24 G shC [.ref (G.2.1 0)] M0 (k_Qi G shC r M0) := by
  refine k_Met_of (by decide) hap (Nat.le_of_ble_eq_true rfl) ?_
  intro p e s m args below meth c C hr hlk
  have C : Cx p s m args c cX11_majority RX11 1 G shC := C
  unfold f_X11_majority at hf
  refine k_lv (lv' := [(0, .ref (G.2.1 0))]) [0] rfl ?_
  refine k_aload_n C dX11_majority_0 0 rfl ?_
  refine k_getr C shC_0 (j := 11) rfl FL_X11_88 dX11_majority_1 ?_
  obtain ⟨t1, ht1, hf⟩ := bnd hf
  refine k_callVi C (As := []) (c_X5_mostlyHad hap M0 t1 ht1) ML_X5_mostlyHad wd_1141 shC_41 rfl rfl rfl ⟨Nat.le_of_ble_eq_true rfl, Nat.le_of_ble_eq_true rfl⟩ (Nat.le_of_ble_eq_true rfl) dX11_majority_4 ?_
  exact k_iret C hr hlk (Option.some.inj hf) rfl dX11_majority_7
theorem dX11_byKind_0 : decode cX11_byKind 0 = .ok (.iload_n 1, 1) := by decide +kernel
theorem dX11_byKind_1 : decode cX11_byKind 1 = .ok (.iconst (-1), 1) := by decide +kernel
theorem dX11_byKind_2 : decode cX11_byKind 2 = .ok (.if_icmp .lt 9, 3) := by decide +kernel
theorem dX11_byKind_5 : decode cX11_byKind 5 = .ok (.iload_n 1, 1) := by decide +kernel
theorem dX11_byKind_6 : decode cX11_byKind 6 = .ok (.bipush 6, 2) := by decide +kernel
theorem dX11_byKind_8 : decode cX11_byKind 8 = .ok (.if_icmp .lt 10, 3) := by decide +kernel
theorem dX11_byKind_11 : decode cX11_byKind 11 = .ok (.aload_n 0, 1) := by decide +kernel
theorem dX11_byKind_12 : decode cX11_byKind 12 = .ok (.bipush (-2), 2) := by decide +kernel
theorem dX11_byKind_14 : decode cX11_byKind 14 = .ok (.invokevirtual 103, 3) := by decide +kernel
theorem dX11_byKind_17 : decode cX11_byKind 17 = .ok (.ireturn, 1) := by decide +kernel
theorem dX11_byKind_18 : decode cX11_byKind 18 = .ok (.iload_n 1, 1) := by decide +kernel
theorem dX11_byKind_19 : decode cX11_byKind 19 = .ok (.ifCond .ge 13, 3) := by decide +kernel
theorem dX11_byKind_22 : decode cX11_byKind 22 = .ok (.aload_n 0, 1) := by decide +kernel
theorem dX11_byKind_23 : decode cX11_byKind 23 = .ok (.getfield 58, 3) := by decide +kernel
theorem dX11_byKind_26 : decode cX11_byKind 26 = .ok (.invokevirtual 335, 3) := by decide +kernel
theorem dX11_byKind_29 : decode cX11_byKind 29 = .ok (.goto 11, 3) := by decide +kernel
theorem dX11_byKind_32 : decode cX11_byKind 32 = .ok (.aload_n 0, 1) := by decide +kernel
theorem dX11_byKind_33 : decode cX11_byKind 33 = .ok (.getfield 58, 3) := by decide +kernel
theorem dX11_byKind_36 : decode cX11_byKind 36 = .ok (.iload_n 1, 1) := by decide +kernel
theorem dX11_byKind_37 : decode cX11_byKind 37 = .ok (.invokevirtual 338, 3) := by decide +kernel
theorem dX11_byKind_40 : decode cX11_byKind 40 = .ok (.ireturn, 1) := by decide +kernel
set_option maxRecDepth 100000 in
set_option maxHeartbeats 4000000 in
theorem c_X11_byKind {l : Launch} {G : Gx} (hap : k_ap G shC.length) (v1 : Int32) (M0 : Mem) (r : Int32 × Mem) (hf : f_X11_byKind v1 M0 = some r) : k_Met l yX11_byKind cX11_byKind 2 (some .int) 6 134 G shC [.ref (G.2.1 0), .int v1] M0 (k_Qi G shC r.1 r.2) := by
  refine k_Met_of (by decide) hap (Nat.le_of_ble_eq_true rfl) ?_
  intro p e s m args below meth c C hr hlk
  have C : Cx p s m args c cX11_byKind RX11 2 G shC := C
  unfold f_X11_byKind at hf
  refine k_lv (lv' := [(0, .ref (G.2.1 0)), (1, .int v1)]) [0, 1] rfl ?_
  refine k_iload_n C dX11_byKind_0 1 rfl ?_
  refine k_iconst C dX11_byKind_1 (v := (-1 : Int32)) rfl ?_
  rcases ite_g hf with ⟨c1, hf⟩ | ⟨c1, hf⟩
  · refine k_icmp_lt_t C dX11_byKind_2 (tgt := 11) (by decide) c1 ?_
    refine k_aload_n C dX11_byKind_11 0 rfl ?_
    refine k_bipush C dX11_byKind_12 (v := (-2 : Int32)) rfl ?_
    obtain ⟨⟨t2, M2⟩, ht2, hf⟩ := bnd hf
    replace hf := bp_s hf
    refine k_callVi C (As := [.int (-2 : Int32)]) (c_X11_refuse hap (-2 : Int32) M0 (t2, M2) ht2) ML_X11_refuse wd_421 shC_0 rfl rfl rfl ⟨Nat.le_of_ble_eq_true rfl, Nat.le_of_ble_eq_true rfl⟩ (Nat.le_of_ble_eq_true rfl) dX11_byKind_14 ?_
    exact k_iret C hr hlk (prf hf) (prs hf) dX11_byKind_17
  · refine k_icmp_lt_f C dX11_byKind_2 (tgt := 11) (by decide) c1 ?_
    refine k_iload_n C dX11_byKind_5 1 rfl ?_
    refine k_bipush C dX11_byKind_6 (v := (6 : Int32)) rfl ?_
    rcases ite_g hf with ⟨c3, hf⟩ | ⟨c3, hf⟩
    · refine k_icmp_lt_t C dX11_byKind_8 (tgt := 18) (by decide) c3 ?_
      refine k_iload_n C dX11_byKind_18 1 rfl ?_
      rcases ite_g hf with ⟨c4, hf⟩ | ⟨c4, hf⟩
      · refine k_if_ge_t C dX11_byKind_19 (tgt := 32) (by decide) c4 ?_
        refine k_aload_n C dX11_byKind_32 0 rfl ?_
        refine k_getr C shC_0 (j := 7) rfl FL_X11_58 dX11_byKind_33 ?_
        refine k_iload_n C dX11_byKind_36 1 rfl ?_
        obtain ⟨⟨t5, M5⟩, ht5, hf⟩ := bnd hf
        replace hf := bp_s hf
        refine k_callVi C (As := [.int v1]) (c_X3_totalOfKind hap v1 M0 (t5, M5) ht5) ML_X3_totalOfKind wd_1157 shC_28 rfl rfl rfl ⟨Nat.le_of_ble_eq_true rfl, Nat.le_of_ble_eq_true rfl⟩ (Nat.le_of_ble_eq_true rfl) dX11_byKind_37 ?_
        exact k_iret C hr hlk (prf hf) (prs hf) dX11_byKind_40
      · refine k_if_ge_f C dX11_byKind_19 (tgt := 32) (by decide) c4 ?_
        refine k_aload_n C dX11_byKind_22 0 rfl ?_
        refine k_getr C shC_0 (j := 7) rfl FL_X11_58 dX11_byKind_23 ?_
        obtain ⟨⟨t6, M6⟩, ht6, hf⟩ := bnd hf
        replace hf := bp_s hf
        refine k_callVi C (As := []) (c_X3_dearestKind hap M0 (t6, M6) ht6) ML_X3_dearestKind wd_1149 shC_28 rfl rfl rfl ⟨Nat.le_of_ble_eq_true rfl, Nat.le_of_ble_eq_true rfl⟩ (Nat.le_of_ble_eq_true rfl) dX11_byKind_26 ?_
        refine k_goto C dX11_byKind_29 (tgt := 40) (by decide) ?_
        exact k_iret C hr hlk (prf hf) (prs hf) dX11_byKind_40
    · refine k_icmp_lt_f C dX11_byKind_8 (tgt := 18) (by decide) c3 ?_
      refine k_aload_n C dX11_byKind_11 0 rfl ?_
      refine k_bipush C dX11_byKind_12 (v := (-2 : Int32)) rfl ?_
      obtain ⟨⟨t7, M7⟩, ht7, hf⟩ := bnd hf
      replace hf := bp_s hf
      refine k_callVi C (As := [.int (-2 : Int32)]) (c_X11_refuse hap (-2 : Int32) M0 (t7, M7) ht7) ML_X11_refuse wd_421 shC_0 rfl rfl rfl ⟨Nat.le_of_ble_eq_true rfl, Nat.le_of_ble_eq_true rfl⟩ (Nat.le_of_ble_eq_true rfl) dX11_byKind_14 ?_
      exact k_iret C hr hlk (prf hf) (prs hf) dX11_byKind_17
theorem dX11_banned_0 : decode cX11_banned 0 = .ok (.iload_n 1, 1) := by decide +kernel
theorem dX11_banned_1 : decode cX11_banned 1 = .ok (.invokestatic 207, 3) := by decide +kernel
theorem dX11_banned_4 : decode cX11_banned 4 = .ok (.ifCond .ne 10, 3) := by decide +kernel
theorem dX11_banned_7 : decode cX11_banned 7 = .ok (.aload_n 0, 1) := by decide +kernel
theorem dX11_banned_8 : decode cX11_banned 8 = .ok (.bipush (-2), 2) := by decide +kernel
theorem dX11_banned_10 : decode cX11_banned 10 = .ok (.invokevirtual 103, 3) := by decide +kernel
theorem dX11_banned_13 : decode cX11_banned 13 = .ok (.ireturn, 1) := by decide +kernel
theorem dX11_banned_14 : decode cX11_banned 14 = .ok (.aload_n 0, 1) := by decide +kernel
theorem dX11_banned_15 : decode cX11_banned 15 = .ok (.getfield 58, 3) := by decide +kernel
theorem dX11_banned_18 : decode cX11_banned 18 = .ok (.iload_n 1, 1) := by decide +kernel
theorem dX11_banned_19 : decode cX11_banned 19 = .ok (.invokevirtual 341, 3) := by decide +kernel
theorem dX11_banned_22 : decode cX11_banned 22 = .ok (.ireturn, 1) := by decide +kernel
set_option maxRecDepth 100000 in
set_option maxHeartbeats 4000000 in
theorem c_X11_banned {l : Launch} {G : Gx} (hap : k_ap G shC.length) (v1 : Int32) (M0 : Mem) (r : Int32 × Mem) (hf : f_X11_banned v1 M0 = some r) : k_Met l yX11_banned cX11_banned 2 (some .int) 5 113 G shC [.ref (G.2.1 0), .int v1] M0 (k_Qi G shC r.1 r.2) := by
  refine k_Met_of (by decide) hap (Nat.le_of_ble_eq_true rfl) ?_
  intro p e s m args below meth c C hr hlk
  have C : Cx p s m args c cX11_banned RX11 2 G shC := C
  unfold f_X11_banned at hf
  refine k_lv (lv' := [(0, .ref (G.2.1 0)), (1, .int v1)]) [0, 1] rfl ?_
  refine k_iload_n C dX11_banned_0 1 rfl ?_
  refine k_callSi C (As := [.int v1]) (c_X11_isEither hap v1 M0 _ rfl) MS_X11_isEither wd_696 rfl rfl ⟨Nat.le_of_ble_eq_true rfl, Nat.le_of_ble_eq_true rfl⟩ (Nat.le_of_ble_eq_true rfl) dX11_banned_1 ?_
  rcases ite_g hf with ⟨c1, hf⟩ | ⟨c1, hf⟩
  · refine k_if_ne_f C dX11_banned_4 (tgt := 14) (by decide) c1 ?_
    refine k_aload_n C dX11_banned_7 0 rfl ?_
    refine k_bipush C dX11_banned_8 (v := (-2 : Int32)) rfl ?_
    obtain ⟨⟨t3, M3⟩, ht3, hf⟩ := bnd hf
    replace hf := bp_s hf
    refine k_callVi C (As := [.int (-2 : Int32)]) (c_X11_refuse hap (-2 : Int32) M0 (t3, M3) ht3) ML_X11_refuse wd_421 shC_0 rfl rfl rfl ⟨Nat.le_of_ble_eq_true rfl, Nat.le_of_ble_eq_true rfl⟩ (Nat.le_of_ble_eq_true rfl) dX11_banned_10 ?_
    exact k_iret C hr hlk (prf hf) (prs hf) dX11_banned_13
  · refine k_if_ne_t C dX11_banned_4 (tgt := 14) (by decide) c1 ?_
    refine k_aload_n C dX11_banned_14 0 rfl ?_
    refine k_getr C shC_0 (j := 7) rfl FL_X11_58 dX11_banned_15 ?_
    refine k_iload_n C dX11_banned_18 1 rfl ?_
    obtain ⟨⟨t2, M2⟩, ht2, hf⟩ := bnd hf
    replace hf := bp_s hf
    refine k_callVi C (As := [.int v1]) (c_X3_bestBan hap v1 M0 (t2, M2) ht2) ML_X3_bestBan wd_1165 shC_28 rfl rfl rfl ⟨Nat.le_of_ble_eq_true rfl, Nat.le_of_ble_eq_true rfl⟩ (Nat.le_of_ble_eq_true rfl) dX11_banned_19 ?_
    exact k_iret C hr hlk (prf hf) (prs hf) dX11_banned_22
theorem dX11_moved_0 : decode cX11_moved 0 = .ok (.iload_n 1, 1) := by decide +kernel
theorem dX11_moved_1 : decode cX11_moved 1 = .ok (.iconst (-1), 1) := by decide +kernel
theorem dX11_moved_2 : decode cX11_moved 2 = .ok (.if_icmp .lt 14, 3) := by decide +kernel
theorem dX11_moved_5 : decode cX11_moved 5 = .ok (.iload_n 1, 1) := by decide +kernel
theorem dX11_moved_6 : decode cX11_moved 6 = .ok (.aload_n 0, 1) := by decide +kernel
theorem dX11_moved_7 : decode cX11_moved 7 = .ok (.getfield 12, 3) := by decide +kernel
theorem dX11_moved_10 : decode cX11_moved 10 = .ok (.getfield 159, 3) := by decide +kernel
theorem dX11_moved_13 : decode cX11_moved 13 = .ok (.if_icmp .lt 9, 3) := by decide +kernel
theorem dX11_moved_16 : decode cX11_moved 16 = .ok (.aload_n 0, 1) := by decide +kernel
theorem dX11_moved_17 : decode cX11_moved 17 = .ok (.iconst (-1), 1) := by decide +kernel
theorem dX11_moved_18 : decode cX11_moved 18 = .ok (.invokevirtual 103, 3) := by decide +kernel
theorem dX11_moved_21 : decode cX11_moved 21 = .ok (.ireturn, 1) := by decide +kernel
theorem dX11_moved_22 : decode cX11_moved 22 = .ok (.iload_n 1, 1) := by decide +kernel
theorem dX11_moved_23 : decode cX11_moved 23 = .ok (.ifCond .ge 13, 3) := by decide +kernel
theorem dX11_moved_26 : decode cX11_moved 26 = .ok (.aload_n 0, 1) := by decide +kernel
theorem dX11_moved_27 : decode cX11_moved 27 = .ok (.getfield 58, 3) := by decide +kernel
theorem dX11_moved_30 : decode cX11_moved 30 = .ok (.invokevirtual 344, 3) := by decide +kernel
theorem dX11_moved_33 : decode cX11_moved 33 = .ok (.goto 11, 3) := by decide +kernel
theorem dX11_moved_36 : decode cX11_moved 36 = .ok (.aload_n 0, 1) := by decide +kernel
theorem dX11_moved_37 : decode cX11_moved 37 = .ok (.getfield 58, 3) := by decide +kernel
theorem dX11_moved_40 : decode cX11_moved 40 = .ok (.iload_n 1, 1) := by decide +kernel
theorem dX11_moved_41 : decode cX11_moved 41 = .ok (.invokevirtual 347, 3) := by decide +kernel
theorem dX11_moved_44 : decode cX11_moved 44 = .ok (.ireturn, 1) := by decide +kernel
set_option maxRecDepth 100000 in
set_option maxHeartbeats 4000000 in
theorem c_X11_moved {l : Launch} {G : Gx} (hap : k_ap G shC.length) (v1 : Int32) (M0 : Mem) (r : Int32 × Mem) (hf : f_X11_moved v1 M0 = some r) : k_Met l yX11_moved cX11_moved 2 (some .int) 5 115 G shC [.ref (G.2.1 0), .int v1] M0 (k_Qi G shC r.1 r.2) := by
  refine k_Met_of (by decide) hap (Nat.le_of_ble_eq_true rfl) ?_
  intro p e s m args below meth c C hr hlk
  have C : Cx p s m args c cX11_moved RX11 2 G shC := C
  unfold f_X11_moved at hf
  refine k_lv (lv' := [(0, .ref (G.2.1 0)), (1, .int v1)]) [0, 1] rfl ?_
  refine k_iload_n C dX11_moved_0 1 rfl ?_
  refine k_iconst C dX11_moved_1 (v := (-1 : Int32)) rfl ?_
  rcases ite_g hf with ⟨c1, hf⟩ | ⟨c1, hf⟩
  · refine k_icmp_lt_t C dX11_moved_2 (tgt := 16) (by decide) c1 ?_
    refine k_aload_n C dX11_moved_16 0 rfl ?_
    refine k_iconst C dX11_moved_17 (v := (-1 : Int32)) rfl ?_
    obtain ⟨⟨t2, M2⟩, ht2, hf⟩ := bnd hf
    replace hf := bp_s hf
    refine k_callVi C (As := [.int (-1 : Int32)]) (c_X11_refuse hap (-1 : Int32) M0 (t2, M2) ht2) ML_X11_refuse wd_421 shC_0 rfl rfl rfl ⟨Nat.le_of_ble_eq_true rfl, Nat.le_of_ble_eq_true rfl⟩ (Nat.le_of_ble_eq_true rfl) dX11_moved_18 ?_
    exact k_iret C hr hlk (prf hf) (prs hf) dX11_moved_21
  · refine k_icmp_lt_f C dX11_moved_2 (tgt := 16) (by decide) c1 ?_
    refine k_iload_n C dX11_moved_5 1 rfl ?_
    refine k_aload_n C dX11_moved_6 0 rfl ?_
    refine k_getr C shC_0 (j := 0) rfl FL_X11_12 dX11_moved_7 ?_
    refine k_geti C shC_1 (j := 5) rfl FL_X11_159 dX11_moved_10 ?_
    rcases ite_g hf with ⟨c3, hf⟩ | ⟨c3, hf⟩
    · refine k_icmp_lt_t C dX11_moved_13 (tgt := 22) (by decide) c3 ?_
      refine k_iload_n C dX11_moved_22 1 rfl ?_
      rcases ite_g hf with ⟨c4, hf⟩ | ⟨c4, hf⟩
      · refine k_if_ge_t C dX11_moved_23 (tgt := 36) (by decide) c4 ?_
        refine k_aload_n C dX11_moved_36 0 rfl ?_
        refine k_getr C shC_0 (j := 7) rfl FL_X11_58 dX11_moved_37 ?_
        refine k_iload_n C dX11_moved_40 1 rfl ?_
        obtain ⟨⟨t5, M5⟩, ht5, hf⟩ := bnd hf
        replace hf := bp_s hf
        refine k_callVi C (As := [.int v1]) (c_X3_totalMoved hap v1 M0 (t5, M5) ht5) ML_X3_totalMoved wd_1189 shC_28 rfl rfl rfl ⟨Nat.le_of_ble_eq_true rfl, Nat.le_of_ble_eq_true rfl⟩ (Nat.le_of_ble_eq_true rfl) dX11_moved_41 ?_
        exact k_iret C hr hlk (prf hf) (prs hf) dX11_moved_44
      · refine k_if_ge_f C dX11_moved_23 (tgt := 36) (by decide) c4 ?_
        refine k_aload_n C dX11_moved_26 0 rfl ?_
        refine k_getr C shC_0 (j := 7) rfl FL_X11_58 dX11_moved_27 ?_
        obtain ⟨⟨t6, M6⟩, ht6, hf⟩ := bnd hf
        replace hf := bp_s hf
        refine k_callVi C (As := []) (c_X3_bestMove hap M0 (t6, M6) ht6) ML_X3_bestMove wd_1181 shC_28 rfl rfl rfl ⟨Nat.le_of_ble_eq_true rfl, Nat.le_of_ble_eq_true rfl⟩ (Nat.le_of_ble_eq_true rfl) dX11_moved_30 ?_
        refine k_goto C dX11_moved_33 (tgt := 44) (by decide) ?_
        exact k_iret C hr hlk (prf hf) (prs hf) dX11_moved_44
    · refine k_icmp_lt_f C dX11_moved_13 (tgt := 22) (by decide) c3 ?_
      refine k_aload_n C dX11_moved_16 0 rfl ?_
      refine k_iconst C dX11_moved_17 (v := (-1 : Int32)) rfl ?_
      obtain ⟨⟨t7, M7⟩, ht7, hf⟩ := bnd hf
      replace hf := bp_s hf
      refine k_callVi C (As := [.int (-1 : Int32)]) (c_X11_refuse hap (-1 : Int32) M0 (t7, M7) ht7) ML_X11_refuse wd_421 shC_0 rfl rfl rfl ⟨Nat.le_of_ble_eq_true rfl, Nat.le_of_ble_eq_true rfl⟩ (Nat.le_of_ble_eq_true rfl) dX11_moved_18 ?_
      exact k_iret C hr hlk (prf hf) (prs hf) dX11_moved_21
theorem dX11_unlikeMarks_0 : decode cX11_unlikeMarks 0 = .ok (.aload_n 0, 1) := by decide +kernel
theorem dX11_unlikeMarks_1 : decode cX11_unlikeMarks 1 = .ok (.getfield 88, 3) := by decide +kernel
theorem dX11_unlikeMarks_4 : decode cX11_unlikeMarks 4 = .ok (.invokevirtual 350, 3) := by decide +kernel
theorem dX11_unlikeMarks_7 : decode cX11_unlikeMarks 7 = .ok (.ireturn, 1) := by decide +kernel
set_option maxRecDepth 100000 in
set_option maxHeartbeats 4000000 in
theorem c_X11_unlikeMarks {l : Launch} {G : Gx} (hap : k_ap G shC.length) (M0 : Mem) (r : Int32) (hf : f_X11_unlikeMarks M0 = some r) : k_Met l yX11_unlikeMarks cX11_unlikeMarks 1 (some .int) 2 44 G shC [.ref (G.2.1 0)] M0 (k_Qi G shC r M0) := by
  refine k_Met_of (by decide) hap (Nat.le_of_ble_eq_true rfl) ?_
  intro p e s m args below meth c C hr hlk
  have C : Cx p s m args c cX11_unlikeMarks RX11 1 G shC := C
  unfold f_X11_unlikeMarks at hf
  refine k_lv (lv' := [(0, .ref (G.2.1 0))]) [0] rfl ?_
  refine k_aload_n C dX11_unlikeMarks_0 0 rfl ?_
  refine k_getr C shC_0 (j := 11) rfl FL_X11_88 dX11_unlikeMarks_1 ?_
  obtain ⟨t1, ht1, hf⟩ := bnd hf
  refine k_callVi C (As := []) (c_X5_unlikeSets hap M0 t1 ht1) ML_X5_unlikeSets wd_1197 shC_41 rfl rfl rfl ⟨Nat.le_of_ble_eq_true rfl, Nat.le_of_ble_eq_true rfl⟩ (Nat.le_of_ble_eq_true rfl) dX11_unlikeMarks_4 ?_
  exact k_iret C hr hlk (Option.some.inj hf) rfl dX11_unlikeMarks_7
theorem dX11_streak_0 : decode cX11_streak 0 = .ok (.aload_n 0, 1) := by decide +kernel
theorem dX11_streak_1 : decode cX11_streak 1 = .ok (.getfield 58, 3) := by decide +kernel
theorem dX11_streak_4 : decode cX11_streak 4 = .ok (.invokevirtual 353, 3) := by decide +kernel
theorem dX11_streak_7 : decode cX11_streak 7 = .ok (.ireturn, 1) := by decide +kernel
set_option maxRecDepth 100000 in
set_option maxHeartbeats 4000000 in
theorem c_X11_streak {l : Launch} {G : Gx} (hap : k_ap G shC.length) (M0 : Mem) (r : Int32 × Mem) (hf : f_X11_streak M0 = some r) : k_Met l yX11_streak cX11_streak 1 (some .int) 5 112 G shC [.ref (G.2.1 0)] M0 (k_Qi G shC r.1 r.2) := by
  refine k_Met_of (by decide) hap (Nat.le_of_ble_eq_true rfl) ?_
  intro p e s m args below meth c C hr hlk
  have C : Cx p s m args c cX11_streak RX11 1 G shC := C
  unfold f_X11_streak at hf
  refine k_lv (lv' := [(0, .ref (G.2.1 0))]) [0] rfl ?_
  refine k_aload_n C dX11_streak_0 0 rfl ?_
  refine k_getr C shC_0 (j := 7) rfl FL_X11_58 dX11_streak_1 ?_
  obtain ⟨⟨t1, M1⟩, ht1, hf⟩ := bnd hf
  replace hf := bp_s hf
  refine k_callVi C (As := []) (c_X3_longestStreak hap M0 (t1, M1) ht1) ML_X3_longestStreak wd_1209 shC_28 rfl rfl rfl ⟨Nat.le_of_ble_eq_true rfl, Nat.le_of_ble_eq_true rfl⟩ (Nat.le_of_ble_eq_true rfl) dX11_streak_4 ?_
  exact k_iret C hr hlk (prf hf) (prs hf) dX11_streak_7
theorem dX11_row_0 : decode cX11_row 0 = .ok (.iload_n 1, 1) := by decide +kernel
theorem dX11_row_1 : decode cX11_row 1 = .ok (.ifCond .ge 10, 3) := by decide +kernel
theorem dX11_row_4 : decode cX11_row 4 = .ok (.aload_n 0, 1) := by decide +kernel
theorem dX11_row_5 : decode cX11_row 5 = .ok (.bipush (-4), 2) := by decide +kernel
theorem dX11_row_7 : decode cX11_row 7 = .ok (.invokevirtual 103, 3) := by decide +kernel
theorem dX11_row_10 : decode cX11_row 10 = .ok (.ireturn, 1) := by decide +kernel
theorem dX11_row_11 : decode cX11_row 11 = .ok (.iload_n 1, 1) := by decide +kernel
theorem dX11_row_12 : decode cX11_row 12 = .ok (.bipush 99, 2) := by decide +kernel
theorem dX11_row_14 : decode cX11_row 14 = .ok (.if_icmp .gt 15, 3) := by decide +kernel
theorem dX11_row_17 : decode cX11_row 17 = .ok (.aload_n 0, 1) := by decide +kernel
theorem dX11_row_18 : decode cX11_row 18 = .ok (.getfield 40, 3) := by decide +kernel
theorem dX11_row_21 : decode cX11_row 21 = .ok (.getfield 248, 3) := by decide +kernel
theorem dX11_row_24 : decode cX11_row 24 = .ok (.bipush 12, 2) := by decide +kernel
theorem dX11_row_26 : decode cX11_row 26 = .ok (.if_icmp .lt 10, 3) := by decide +kernel
theorem dX11_row_29 : decode cX11_row 29 = .ok (.aload_n 0, 1) := by decide +kernel
theorem dX11_row_30 : decode cX11_row 30 = .ok (.bipush (-6), 2) := by decide +kernel
theorem dX11_row_32 : decode cX11_row 32 = .ok (.invokevirtual 103, 3) := by decide +kernel
theorem dX11_row_35 : decode cX11_row 35 = .ok (.ireturn, 1) := by decide +kernel
theorem dX11_row_36 : decode cX11_row 36 = .ok (.aload_n 0, 1) := by decide +kernel
theorem dX11_row_37 : decode cX11_row 37 = .ok (.getfield 40, 3) := by decide +kernel
theorem dX11_row_40 : decode cX11_row 40 = .ok (.iload_n 1, 1) := by decide +kernel
theorem dX11_row_41 : decode cX11_row 41 = .ok (.invokevirtual 356, 3) := by decide +kernel
theorem dX11_row_44 : decode cX11_row 44 = .ok (.ireturn, 1) := by decide +kernel
set_option maxRecDepth 100000 in
set_option maxHeartbeats 4000000 in
theorem c_X11_row {l : Launch} {G : Gx} (hap : k_ap G shC.length) (v1 : Int32) (M0 : Mem) (r : Int32 × Mem) (hf : f_X11_row v1 M0 = some r) : k_Met l yX11_row cX11_row 2 (some .int) 1 22 G shC [.ref (G.2.1 0), .int v1] M0 (k_Qi G shC r.1 r.2) := by
  refine k_Met_of (by decide) hap (Nat.le_of_ble_eq_true rfl) ?_
  intro p e s m args below meth c C hr hlk
  have C : Cx p s m args c cX11_row RX11 2 G shC := C
  unfold f_X11_row at hf
  refine k_lv (lv' := [(0, .ref (G.2.1 0)), (1, .int v1)]) [0, 1] rfl ?_
  refine k_iload_n C dX11_row_0 1 rfl ?_
  rcases ite_g hf with ⟨c1, hf⟩ | ⟨c1, hf⟩
  · refine k_if_ge_t C dX11_row_1 (tgt := 11) (by decide) c1 ?_
    refine k_iload_n C dX11_row_11 1 rfl ?_
    refine k_bipush C dX11_row_12 (v := (99 : Int32)) rfl ?_
    rcases ite_g hf with ⟨c2, hf⟩ | ⟨c2, hf⟩
    · refine k_icmp_gt_t C dX11_row_14 (tgt := 29) (by decide) c2 ?_
      refine k_aload_n C dX11_row_29 0 rfl ?_
      refine k_bipush C dX11_row_30 (v := (-6 : Int32)) rfl ?_
      obtain ⟨⟨t3, M3⟩, ht3, hf⟩ := bnd hf
      replace hf := bp_s hf
      refine k_callVi C (As := [.int (-6 : Int32)]) (c_X11_refuse hap (-6 : Int32) M0 (t3, M3) ht3) ML_X11_refuse wd_421 shC_0 rfl rfl rfl ⟨Nat.le_of_ble_eq_true rfl, Nat.le_of_ble_eq_true rfl⟩ (Nat.le_of_ble_eq_true rfl) dX11_row_32 ?_
      exact k_iret C hr hlk (prf hf) (prs hf) dX11_row_35
    · refine k_icmp_gt_f C dX11_row_14 (tgt := 29) (by decide) c2 ?_
      refine k_aload_n C dX11_row_17 0 rfl ?_
      refine k_getr C shC_0 (j := 5) rfl FL_X11_40 dX11_row_18 ?_
      refine k_geti C shC_23 (j := 1) rfl FL_X11_248 dX11_row_21 ?_
      refine k_bipush C dX11_row_24 (v := (12 : Int32)) rfl ?_
      rcases ite_g hf with ⟨c4, hf⟩ | ⟨c4, hf⟩
      · refine k_icmp_lt_t C dX11_row_26 (tgt := 36) (by decide) c4 ?_
        refine k_aload_n C dX11_row_36 0 rfl ?_
        refine k_getr C shC_0 (j := 5) rfl FL_X11_40 dX11_row_37 ?_
        refine k_iload_n C dX11_row_40 1 rfl ?_
        obtain ⟨⟨t5, M5⟩, ht5, hf⟩ := bnd hf
        replace hf := bp_s hf
        refine k_callVi C (As := [.int v1]) (c_X9_add hap v1 M0 (t5, M5) ht5) ML_X9_add wd_1217 shC_23 rfl rfl rfl ⟨Nat.le_of_ble_eq_true rfl, Nat.le_of_ble_eq_true rfl⟩ (Nat.le_of_ble_eq_true rfl) dX11_row_41 ?_
        exact k_iret C hr hlk (prf hf) (prs hf) dX11_row_44
      · refine k_icmp_lt_f C dX11_row_26 (tgt := 36) (by decide) c4 ?_
        refine k_aload_n C dX11_row_29 0 rfl ?_
        refine k_bipush C dX11_row_30 (v := (-6 : Int32)) rfl ?_
        obtain ⟨⟨t6, M6⟩, ht6, hf⟩ := bnd hf
        replace hf := bp_s hf
        refine k_callVi C (As := [.int (-6 : Int32)]) (c_X11_refuse hap (-6 : Int32) M0 (t6, M6) ht6) ML_X11_refuse wd_421 shC_0 rfl rfl rfl ⟨Nat.le_of_ble_eq_true rfl, Nat.le_of_ble_eq_true rfl⟩ (Nat.le_of_ble_eq_true rfl) dX11_row_32 ?_
        exact k_iret C hr hlk (prf hf) (prs hf) dX11_row_35
  · refine k_if_ge_f C dX11_row_1 (tgt := 11) (by decide) c1 ?_
    refine k_aload_n C dX11_row_4 0 rfl ?_
    refine k_bipush C dX11_row_5 (v := (-4 : Int32)) rfl ?_
    obtain ⟨⟨t7, M7⟩, ht7, hf⟩ := bnd hf
    replace hf := bp_s hf
    refine k_callVi C (As := [.int (-4 : Int32)]) (c_X11_refuse hap (-4 : Int32) M0 (t7, M7) ht7) ML_X11_refuse wd_421 shC_0 rfl rfl rfl ⟨Nat.le_of_ble_eq_true rfl, Nat.le_of_ble_eq_true rfl⟩ (Nat.le_of_ble_eq_true rfl) dX11_row_7 ?_
    exact k_iret C hr hlk (prf hf) (prs hf) dX11_row_10
theorem dX11_judge_0 : decode cX11_judge 0 = .ok (.aload_n 0, 1) := by decide +kernel
theorem dX11_judge_1 : decode cX11_judge 1 = .ok (.getfield 40, 3) := by decide +kernel
theorem dX11_judge_4 : decode cX11_judge 4 = .ok (.aload_n 0, 1) := by decide +kernel
theorem dX11_judge_5 : decode cX11_judge 5 = .ok (.getfield 12, 3) := by decide +kernel
theorem dX11_judge_8 : decode cX11_judge 8 = .ok (.invokevirtual 357, 3) := by decide +kernel
theorem dX11_judge_11 : decode cX11_judge 11 = .ok (.istore_n 1, 1) := by decide +kernel
theorem dX11_judge_12 : decode cX11_judge 12 = .ok (.aload_n 0, 1) := by decide +kernel
theorem dX11_judge_13 : decode cX11_judge 13 = .ok (.getfield 40, 3) := by decide +kernel
theorem dX11_judge_16 : decode cX11_judge 16 = .ok (.iconst 0, 1) := by decide +kernel
theorem dX11_judge_17 : decode cX11_judge 17 = .ok (.putfield 248, 3) := by decide +kernel
theorem dX11_judge_20 : decode cX11_judge 20 = .ok (.iload_n 1, 1) := by decide +kernel
theorem dX11_judge_21 : decode cX11_judge 21 = .ok (.ireturn, 1) := by decide +kernel
set_option maxRecDepth 100000 in
set_option maxHeartbeats 4000000 in
theorem c_X11_judge {l : Launch} {G : Gx} (hap : k_ap G shC.length) (M0 : Mem) (r : Int32 × Mem) (hf : f_X11_judge M0 = some r) : k_Met l yX11_judge cX11_judge 2 (some .int) 2 43 G shC [.ref (G.2.1 0)] M0 (k_Qi G shC r.1 r.2) := by
  refine k_Met_of (by decide) hap (Nat.le_of_ble_eq_true rfl) ?_
  intro p e s m args below meth c C hr hlk
  have C : Cx p s m args c cX11_judge RX11 2 G shC := C
  unfold f_X11_judge at hf
  refine k_lv (lv' := [(0, .ref (G.2.1 0))]) [0] rfl ?_
  refine k_aload_n C dX11_judge_0 0 rfl ?_
  refine k_getr C shC_0 (j := 5) rfl FL_X11_40 dX11_judge_1 ?_
  refine k_aload_n C dX11_judge_4 0 rfl ?_
  refine k_getr C shC_0 (j := 0) rfl FL_X11_12 dX11_judge_5 ?_
  obtain ⟨t1, ht1, hf⟩ := bnd hf
  refine k_callVi C (As := [.ref (G.2.1 1)]) (c_X9_firstNotIn hap M0 t1 ht1) ML_X9_firstNotIn wd_1225 shC_23 rfl rfl rfl ⟨Nat.le_of_ble_eq_true rfl, Nat.le_of_ble_eq_true rfl⟩ (Nat.le_of_ble_eq_true rfl) dX11_judge_8 ?_
  refine k_istore_n C dX11_judge_11 (by decide) [1, 0] (lv' := [(0, .ref (G.2.1 0)), (1, .int t1)]) rfl ?_
  refine k_aload_n C dX11_judge_12 0 rfl ?_
  refine k_getr C shC_0 (j := 5) rfl FL_X11_40 dX11_judge_13 ?_
  refine k_iconst C dX11_judge_16 (v := (0 : Int32)) rfl ?_
  refine k_put C shC_23 (j := 1) rfl FL_X11_248 FW_X9_1 dX11_judge_17 ?_
  refine k_iload_n C dX11_judge_20 1 rfl ?_
  exact k_iret C hr hlk (prf hf) (prs hf) dX11_judge_21
theorem dX11_clear_0 : decode cX11_clear 0 = .ok (.aload_n 0, 1) := by decide +kernel
theorem dX11_clear_1 : decode cX11_clear 1 = .ok (.getfield 40, 3) := by decide +kernel
theorem dX11_clear_4 : decode cX11_clear 4 = .ok (.getfield 248, 3) := by decide +kernel
theorem dX11_clear_7 : decode cX11_clear 7 = .ok (.istore_n 1, 1) := by decide +kernel
theorem dX11_clear_8 : decode cX11_clear 8 = .ok (.aload_n 0, 1) := by decide +kernel
theorem dX11_clear_9 : decode cX11_clear 9 = .ok (.getfield 40, 3) := by decide +kernel
theorem dX11_clear_12 : decode cX11_clear 12 = .ok (.iconst 0, 1) := by decide +kernel
theorem dX11_clear_13 : decode cX11_clear 13 = .ok (.putfield 248, 3) := by decide +kernel
theorem dX11_clear_16 : decode cX11_clear 16 = .ok (.iload_n 1, 1) := by decide +kernel
theorem dX11_clear_17 : decode cX11_clear 17 = .ok (.ireturn, 1) := by decide +kernel
set_option maxRecDepth 100000 in
set_option maxHeartbeats 4000000 in
theorem c_X11_clear {l : Launch} {G : Gx} (hap : k_ap G shC.length) (M0 : Mem) (r : Int32 × Mem) (hf : f_X11_clear M0 = some r) : k_Met l yX11_clear cX11_clear 2 (some .int) 0 0 G shC [.ref (G.2.1 0)] M0 (k_Qi G shC r.1 r.2) := by
  refine k_Met_of (by decide) hap (Nat.le_of_ble_eq_true rfl) ?_
  intro p e s m args below meth c C hr hlk
  have C : Cx p s m args c cX11_clear RX11 2 G shC := C
  unfold f_X11_clear at hf
  refine k_lv (lv' := [(0, .ref (G.2.1 0))]) [0] rfl ?_
  refine k_aload_n C dX11_clear_0 0 rfl ?_
  refine k_getr C shC_0 (j := 5) rfl FL_X11_40 dX11_clear_1 ?_
  refine k_geti C shC_23 (j := 1) rfl FL_X11_248 dX11_clear_4 ?_
  refine k_istore_n C dX11_clear_7 (by decide) [1, 0] (lv' := [(0, .ref (G.2.1 0)), (1, .int (M0.1 23 1))]) rfl ?_
  refine k_aload_n C dX11_clear_8 0 rfl ?_
  refine k_getr C shC_0 (j := 5) rfl FL_X11_40 dX11_clear_9 ?_
  refine k_iconst C dX11_clear_12 (v := (0 : Int32)) rfl ?_
  refine k_put C shC_23 (j := 1) rfl FL_X11_248 FW_X9_1 dX11_clear_13 ?_
  refine k_iload_n C dX11_clear_16 1 rfl ?_
  exact k_iret C hr hlk (prf hf) (prs hf) dX11_clear_17
theorem dX11_lots_0 : decode cX11_lots 0 = .ok (.iload_n 1, 1) := by decide +kernel
theorem dX11_lots_1 : decode cX11_lots 1 = .ok (.iconst 1, 1) := by decide +kernel
theorem dX11_lots_2 : decode cX11_lots 2 = .ok (.if_icmp .ge 10, 3) := by decide +kernel
theorem dX11_lots_5 : decode cX11_lots 5 = .ok (.aload_n 0, 1) := by decide +kernel
theorem dX11_lots_6 : decode cX11_lots 6 = .ok (.bipush (-4), 2) := by decide +kernel
theorem dX11_lots_8 : decode cX11_lots 8 = .ok (.invokevirtual 103, 3) := by decide +kernel
theorem dX11_lots_11 : decode cX11_lots 11 = .ok (.ireturn, 1) := by decide +kernel
theorem dX11_lots_12 : decode cX11_lots 12 = .ok (.iload_n 1, 1) := by decide +kernel
theorem dX11_lots_13 : decode cX11_lots 13 = .ok (.bipush 20, 2) := by decide +kernel
theorem dX11_lots_15 : decode cX11_lots 15 = .ok (.if_icmp .le 10, 3) := by decide +kernel
theorem dX11_lots_18 : decode cX11_lots 18 = .ok (.aload_n 0, 1) := by decide +kernel
theorem dX11_lots_19 : decode cX11_lots 19 = .ok (.bipush (-6), 2) := by decide +kernel
theorem dX11_lots_21 : decode cX11_lots 21 = .ok (.invokevirtual 103, 3) := by decide +kernel
theorem dX11_lots_24 : decode cX11_lots 24 = .ok (.ireturn, 1) := by decide +kernel
theorem dX11_lots_25 : decode cX11_lots 25 = .ok (.iload_n 3, 1) := by decide +kernel
theorem dX11_lots_26 : decode cX11_lots 26 = .ok (.invokestatic 207, 3) := by decide +kernel
theorem dX11_lots_29 : decode cX11_lots 29 = .ok (.ifCond .ne 10, 3) := by decide +kernel
theorem dX11_lots_32 : decode cX11_lots 32 = .ok (.aload_n 0, 1) := by decide +kernel
theorem dX11_lots_33 : decode cX11_lots 33 = .ok (.bipush (-2), 2) := by decide +kernel
theorem dX11_lots_35 : decode cX11_lots 35 = .ok (.invokevirtual 103, 3) := by decide +kernel
theorem dX11_lots_38 : decode cX11_lots 38 = .ok (.ireturn, 1) := by decide +kernel
theorem dX11_lots_39 : decode cX11_lots 39 = .ok (.aload_n 0, 1) := by decide +kernel
theorem dX11_lots_40 : decode cX11_lots 40 = .ok (.getfield 95, 3) := by decide +kernel
theorem dX11_lots_43 : decode cX11_lots 43 = .ok (.iload_n 1, 1) := by decide +kernel
theorem dX11_lots_44 : decode cX11_lots 44 = .ok (.iload_n 2, 1) := by decide +kernel
theorem dX11_lots_45 : decode cX11_lots 45 = .ok (.iload_n 3, 1) := by decide +kernel
theorem dX11_lots_46 : decode cX11_lots 46 = .ok (.invokevirtual 360, 3) := by decide +kernel
theorem dX11_lots_49 : decode cX11_lots 49 = .ok (.ireturn, 1) := by decide +kernel
set_option maxRecDepth 100000 in
set_option maxHeartbeats 4000000 in
theorem c_X11_lots {l : Launch} {G : Gx} (hap : k_ap G shC.length) (v1 : Int32) (v2 : Int32) (v3 : Int32) (M0 : Mem) (r : Int32 × Mem) (hf : f_X11_lots v1 v2 v3 M0 = some r) : k_Met l yX11_lots cX11_lots 4 (some .int) 5 117 G shC [.ref (G.2.1 0), .int v1, .int v2, .int v3] M0 (k_Qi G shC r.1 r.2) := by
  refine k_Met_of (by decide) hap (Nat.le_of_ble_eq_true rfl) ?_
  intro p e s m args below meth c C hr hlk
  have C : Cx p s m args c cX11_lots RX11 4 G shC := C
  unfold f_X11_lots at hf
  refine k_lv (lv' := [(0, .ref (G.2.1 0)), (1, .int v1), (2, .int v2), (3, .int v3)]) [0, 1, 2, 3] rfl ?_
  refine k_iload_n C dX11_lots_0 1 rfl ?_
  refine k_iconst C dX11_lots_1 (v := (1 : Int32)) rfl ?_
  rcases ite_g hf with ⟨c1, hf⟩ | ⟨c1, hf⟩
  · refine k_icmp_ge_t C dX11_lots_2 (tgt := 12) (by decide) c1 ?_
    refine k_iload_n C dX11_lots_12 1 rfl ?_
    refine k_bipush C dX11_lots_13 (v := (20 : Int32)) rfl ?_
    rcases ite_g hf with ⟨c2, hf⟩ | ⟨c2, hf⟩
    · refine k_icmp_le_t C dX11_lots_15 (tgt := 25) (by decide) c2 ?_
      refine k_iload_n C dX11_lots_25 3 rfl ?_
      refine k_callSi C (As := [.int v3]) (c_X11_isEither hap v3 M0 _ rfl) MS_X11_isEither wd_696 rfl rfl ⟨Nat.le_of_ble_eq_true rfl, Nat.le_of_ble_eq_true rfl⟩ (Nat.le_of_ble_eq_true rfl) dX11_lots_26 ?_
      rcases ite_g hf with ⟨c3, hf⟩ | ⟨c3, hf⟩
      · refine k_if_ne_f C dX11_lots_29 (tgt := 39) (by decide) c3 ?_
        refine k_aload_n C dX11_lots_32 0 rfl ?_
        refine k_bipush C dX11_lots_33 (v := (-2 : Int32)) rfl ?_
        obtain ⟨⟨t5, M5⟩, ht5, hf⟩ := bnd hf
        replace hf := bp_s hf
        refine k_callVi C (As := [.int (-2 : Int32)]) (c_X11_refuse hap (-2 : Int32) M0 (t5, M5) ht5) ML_X11_refuse wd_421 shC_0 rfl rfl rfl ⟨Nat.le_of_ble_eq_true rfl, Nat.le_of_ble_eq_true rfl⟩ (Nat.le_of_ble_eq_true rfl) dX11_lots_35 ?_
        exact k_iret C hr hlk (prf hf) (prs hf) dX11_lots_38
      · refine k_if_ne_t C dX11_lots_29 (tgt := 39) (by decide) c3 ?_
        refine k_aload_n C dX11_lots_39 0 rfl ?_
        refine k_getr C shC_0 (j := 12) rfl FL_X11_95 dX11_lots_40 ?_
        refine k_iload_n C dX11_lots_43 1 rfl ?_
        refine k_iload_n C dX11_lots_44 2 rfl ?_
        refine k_iload_n C dX11_lots_45 3 rfl ?_
        obtain ⟨⟨t4, M4⟩, ht4, hf⟩ := bnd hf
        replace hf := bp_s hf
        refine k_callVi C (As := [.int v1, .int v2, .int v3]) (c_X4_weeks hap v1 v2 v3 M0 (t4, M4) ht4) ML_X4_weeks wd_1238 shC_42 rfl rfl rfl ⟨Nat.le_of_ble_eq_true rfl, Nat.le_of_ble_eq_true rfl⟩ (Nat.le_of_ble_eq_true rfl) dX11_lots_46 ?_
        exact k_iret C hr hlk (prf hf) (prs hf) dX11_lots_49
    · refine k_icmp_le_f C dX11_lots_15 (tgt := 25) (by decide) c2 ?_
      refine k_aload_n C dX11_lots_18 0 rfl ?_
      refine k_bipush C dX11_lots_19 (v := (-6 : Int32)) rfl ?_
      obtain ⟨⟨t6, M6⟩, ht6, hf⟩ := bnd hf
      replace hf := bp_s hf
      refine k_callVi C (As := [.int (-6 : Int32)]) (c_X11_refuse hap (-6 : Int32) M0 (t6, M6) ht6) ML_X11_refuse wd_421 shC_0 rfl rfl rfl ⟨Nat.le_of_ble_eq_true rfl, Nat.le_of_ble_eq_true rfl⟩ (Nat.le_of_ble_eq_true rfl) dX11_lots_21 ?_
      exact k_iret C hr hlk (prf hf) (prs hf) dX11_lots_24
  · refine k_icmp_ge_f C dX11_lots_2 (tgt := 12) (by decide) c1 ?_
    refine k_aload_n C dX11_lots_5 0 rfl ?_
    refine k_bipush C dX11_lots_6 (v := (-4 : Int32)) rfl ?_
    obtain ⟨⟨t7, M7⟩, ht7, hf⟩ := bnd hf
    replace hf := bp_s hf
    refine k_callVi C (As := [.int (-4 : Int32)]) (c_X11_refuse hap (-4 : Int32) M0 (t7, M7) ht7) ML_X11_refuse wd_421 shC_0 rfl rfl rfl ⟨Nat.le_of_ble_eq_true rfl, Nat.le_of_ble_eq_true rfl⟩ (Nat.le_of_ble_eq_true rfl) dX11_lots_8 ?_
    exact k_iret C hr hlk (prf hf) (prs hf) dX11_lots_11
theorem dX11_image_0 : decode cX11_image 0 = .ok (.aload_n 0, 1) := by decide +kernel
theorem dX11_image_1 : decode cX11_image 1 = .ok (.getfield 16, 3) := by decide +kernel
theorem dX11_image_4 : decode cX11_image 4 = .ok (.aload_n 0, 1) := by decide +kernel
theorem dX11_image_5 : decode cX11_image 5 = .ok (.getfield 12, 3) := by decide +kernel
theorem dX11_image_8 : decode cX11_image 8 = .ok (.invokevirtual 363, 3) := by decide +kernel
theorem dX11_image_11 : decode cX11_image 11 = .ok (.aload_n 0, 1) := by decide +kernel
theorem dX11_image_12 : decode cX11_image 12 = .ok (.iconst 1, 1) := by decide +kernel
theorem dX11_image_13 : decode cX11_image 13 = .ok (.putfield 19, 3) := by decide +kernel
theorem dX11_image_16 : decode cX11_image 16 = .ok (.aload_n 0, 1) := by decide +kernel
theorem dX11_image_17 : decode cX11_image 17 = .ok (.getfield 12, 3) := by decide +kernel
theorem dX11_image_20 : decode cX11_image 20 = .ok (.getfield 159, 3) := by decide +kernel
theorem dX11_image_23 : decode cX11_image 23 = .ok (.ireturn, 1) := by decide +kernel
set_option maxRecDepth 100000 in
set_option maxHeartbeats 4000000 in
theorem c_X11_image {l : Launch} {G : Gx} (hap : k_ap G shC.length) (M0 : Mem) (r : Int32 × Mem) (hf : f_X11_image M0 = some r) : k_Met l yX11_image cX11_image 1 (some .int) 2 61 G shC [.ref (G.2.1 0)] M0 (k_Qi G shC r.1 r.2) := by
  refine k_Met_of (by decide) hap (Nat.le_of_ble_eq_true rfl) ?_
  intro p e s m args below meth c C hr hlk
  have C : Cx p s m args c cX11_image RX11 1 G shC := C
  unfold f_X11_image at hf
  refine k_lv (lv' := [(0, .ref (G.2.1 0))]) [0] rfl ?_
  refine k_aload_n C dX11_image_0 0 rfl ?_
  refine k_getr C shC_0 (j := 1) rfl FL_X11_16 dX11_image_1 ?_
  refine k_aload_n C dX11_image_4 0 rfl ?_
  refine k_getr C shC_0 (j := 0) rfl FL_X11_12 dX11_image_5 ?_
  obtain ⟨M1, hM1, hf⟩ := bnd hf
  refine k_callVv C (As := [.ref (G.2.1 1)]) (c_X0_become hap 6 1 BD_6 BD_1 M0 M1 hM1) ML_X0_become wd_1251 shC_6 rfl rfl rfl ⟨Nat.le_of_ble_eq_true rfl, Nat.le_of_ble_eq_true rfl⟩ (Nat.le_of_ble_eq_true rfl) dX11_image_8 ?_
  refine k_aload_n C dX11_image_11 0 rfl ?_
  refine k_iconst C dX11_image_12 (v := (1 : Int32)) rfl ?_
  refine k_putZ C shC_0 (j := 2) rfl FL_X11_19 FW_X11_2 gZ1 dX11_image_13 ?_
  refine k_aload_n C dX11_image_16 0 rfl ?_
  refine k_getr C shC_0 (j := 0) rfl FL_X11_12 dX11_image_17 ?_
  refine k_geti C shC_1 (j := 5) rfl FL_X11_159 dX11_image_20 ?_
  exact k_iret C hr hlk (prf hf) (prs hf) dX11_image_23
theorem dX11_restore_0 : decode cX11_restore 0 = .ok (.aload_n 0, 1) := by decide +kernel
theorem dX11_restore_1 : decode cX11_restore 1 = .ok (.getfield 19, 3) := by decide +kernel
theorem dX11_restore_4 : decode cX11_restore 4 = .ok (.ifCond .ne 10, 3) := by decide +kernel
theorem dX11_restore_7 : decode cX11_restore 7 = .ok (.aload_n 0, 1) := by decide +kernel
theorem dX11_restore_8 : decode cX11_restore 8 = .ok (.bipush (-3), 2) := by decide +kernel
theorem dX11_restore_10 : decode cX11_restore 10 = .ok (.invokevirtual 103, 3) := by decide +kernel
theorem dX11_restore_13 : decode cX11_restore 13 = .ok (.ireturn, 1) := by decide +kernel
theorem dX11_restore_14 : decode cX11_restore 14 = .ok (.aload_n 0, 1) := by decide +kernel
theorem dX11_restore_15 : decode cX11_restore 15 = .ok (.getfield 12, 3) := by decide +kernel
theorem dX11_restore_18 : decode cX11_restore 18 = .ok (.aload_n 0, 1) := by decide +kernel
theorem dX11_restore_19 : decode cX11_restore 19 = .ok (.getfield 16, 3) := by decide +kernel
theorem dX11_restore_22 : decode cX11_restore 22 = .ok (.invokevirtual 363, 3) := by decide +kernel
theorem dX11_restore_25 : decode cX11_restore 25 = .ok (.aload_n 0, 1) := by decide +kernel
theorem dX11_restore_26 : decode cX11_restore 26 = .ok (.getfield 26, 3) := by decide +kernel
theorem dX11_restore_29 : decode cX11_restore 29 = .ok (.invokevirtual 118, 3) := by decide +kernel
theorem dX11_restore_32 : decode cX11_restore 32 = .ok (.aload_n 0, 1) := by decide +kernel
theorem dX11_restore_33 : decode cX11_restore 33 = .ok (.getfield 12, 3) := by decide +kernel
theorem dX11_restore_36 : decode cX11_restore 36 = .ok (.getfield 159, 3) := by decide +kernel
theorem dX11_restore_39 : decode cX11_restore 39 = .ok (.ireturn, 1) := by decide +kernel
set_option maxRecDepth 100000 in
set_option maxHeartbeats 4000000 in
theorem c_X11_restore {l : Launch} {G : Gx} (hap : k_ap G shC.length) (M0 : Mem) (r : Int32 × Mem) (hf : f_X11_restore M0 = some r) : k_Met l yX11_restore cX11_restore 1 (some .int) 2 61 G shC [.ref (G.2.1 0)] M0 (k_Qi G shC r.1 r.2) := by
  refine k_Met_of (by decide) hap (Nat.le_of_ble_eq_true rfl) ?_
  intro p e s m args below meth c C hr hlk
  have C : Cx p s m args c cX11_restore RX11 1 G shC := C
  unfold f_X11_restore at hf
  refine k_lv (lv' := [(0, .ref (G.2.1 0))]) [0] rfl ?_
  refine k_aload_n C dX11_restore_0 0 rfl ?_
  refine k_geti C shC_0 (j := 2) rfl FL_X11_19 dX11_restore_1 ?_
  rcases ite_g hf with ⟨c1, hf⟩ | ⟨c1, hf⟩
  · refine k_if_ne_f C dX11_restore_4 (tgt := 14) (by decide) c1 ?_
    refine k_aload_n C dX11_restore_7 0 rfl ?_
    refine k_bipush C dX11_restore_8 (v := (-3 : Int32)) rfl ?_
    obtain ⟨⟨t4, M4⟩, ht4, hf⟩ := bnd hf
    replace hf := bp_s hf
    refine k_callVi C (As := [.int (-3 : Int32)]) (c_X11_refuse hap (-3 : Int32) M0 (t4, M4) ht4) ML_X11_refuse wd_421 shC_0 rfl rfl rfl ⟨Nat.le_of_ble_eq_true rfl, Nat.le_of_ble_eq_true rfl⟩ (Nat.le_of_ble_eq_true rfl) dX11_restore_10 ?_
    exact k_iret C hr hlk (prf hf) (prs hf) dX11_restore_13
  · refine k_if_ne_t C dX11_restore_4 (tgt := 14) (by decide) c1 ?_
    refine k_aload_n C dX11_restore_14 0 rfl ?_
    refine k_getr C shC_0 (j := 0) rfl FL_X11_12 dX11_restore_15 ?_
    refine k_aload_n C dX11_restore_18 0 rfl ?_
    refine k_getr C shC_0 (j := 1) rfl FL_X11_16 dX11_restore_19 ?_
    obtain ⟨M2, hM2, hf⟩ := bnd hf
    refine k_callVv C (As := [.ref (G.2.1 6)]) (c_X0_become hap 1 6 BD_1 BD_6 M0 M2 hM2) ML_X0_become wd_1251 shC_1 rfl rfl rfl ⟨Nat.le_of_ble_eq_true rfl, Nat.le_of_ble_eq_true rfl⟩ (Nat.le_of_ble_eq_true rfl) dX11_restore_22 ?_
    refine k_aload_n C dX11_restore_25 0 rfl ?_
    refine k_getr C shC_0 (j := 3) rfl FL_X11_26 dX11_restore_26 ?_
    obtain ⟨M3, hM3, hf⟩ := bnd hf
    refine k_callVv C (As := []) (c_X10_forget hap M2 M3 hM3) ML_X10_forget wd_534 shC_11 rfl rfl rfl ⟨Nat.le_of_ble_eq_true rfl, Nat.le_of_ble_eq_true rfl⟩ (Nat.le_of_ble_eq_true rfl) dX11_restore_29 ?_
    refine k_aload_n C dX11_restore_32 0 rfl ?_
    refine k_getr C shC_0 (j := 0) rfl FL_X11_12 dX11_restore_33 ?_
    refine k_geti C shC_1 (j := 5) rfl FL_X11_159 dX11_restore_36 ?_
    exact k_iret C hr hlk (prf hf) (prs hf) dX11_restore_39
theorem dX11_countRefused_0 : decode cX11_countRefused 0 = .ok (.iload_n 1, 1) := by decide +kernel
theorem dX11_countRefused_1 : decode cX11_countRefused 1 = .ok (.iconst 1, 1) := by decide +kernel
theorem dX11_countRefused_2 : decode cX11_countRefused 2 = .ok (.if_icmp .lt 21, 3) := by decide +kernel
theorem dX11_countRefused_5 : decode cX11_countRefused 5 = .ok (.iload_n 1, 1) := by decide +kernel
theorem dX11_countRefused_6 : decode cX11_countRefused 6 = .ok (.aload_n 0, 1) := by decide +kernel
theorem dX11_countRefused_7 : decode cX11_countRefused 7 = .ok (.getfield 99, 3) := by decide +kernel
theorem dX11_countRefused_10 : decode cX11_countRefused 10 = .ok (.arraylength, 1) := by decide +kernel
theorem dX11_countRefused_11 : decode cX11_countRefused 11 = .ok (.if_icmp .ge 12, 3) := by decide +kernel
theorem dX11_countRefused_14 : decode cX11_countRefused 14 = .ok (.aload_n 0, 1) := by decide +kernel
theorem dX11_countRefused_15 : decode cX11_countRefused 15 = .ok (.getfield 99, 3) := by decide +kernel
theorem dX11_countRefused_18 : decode cX11_countRefused 18 = .ok (.iload_n 1, 1) := by decide +kernel
theorem dX11_countRefused_19 : decode cX11_countRefused 19 = .ok (.iaload, 1) := by decide +kernel
theorem dX11_countRefused_20 : decode cX11_countRefused 20 = .ok (.goto 5, 3) := by decide +kernel
theorem dX11_countRefused_23 : decode cX11_countRefused 23 = .ok (.bipush (-9), 2) := by decide +kernel
theorem dX11_countRefused_25 : decode cX11_countRefused 25 = .ok (.ireturn, 1) := by decide +kernel
set_option maxRecDepth 100000 in
set_option maxHeartbeats 4000000 in
theorem c_X11_countRefused {l : Launch} {G : Gx} (hap : k_ap G shC.length) (v1 : Int32) (M0 : Mem) (r : Int32) (hf : f_X11_countRefused v1 M0 = some r) : k_Met l yX11_countRefused cX11_countRefused 2 (some .int) 0 0 G shC [.ref (G.2.1 0), .int v1] M0 (k_Qi G shC r M0) := by
  refine k_Met_of (by decide) hap (Nat.le_of_ble_eq_true rfl) ?_
  intro p e s m args below meth c C hr hlk
  have C : Cx p s m args c cX11_countRefused RX11 2 G shC := C
  unfold f_X11_countRefused at hf
  refine k_lv (lv' := [(0, .ref (G.2.1 0)), (1, .int v1)]) [0, 1] rfl ?_
  refine k_iload_n C dX11_countRefused_0 1 rfl ?_
  refine k_iconst C dX11_countRefused_1 (v := (1 : Int32)) rfl ?_
  rcases ite_g hf with ⟨c1, hf⟩ | ⟨c1, hf⟩
  · refine k_icmp_lt_t C dX11_countRefused_2 (tgt := 23) (by decide) c1 ?_
    refine k_bipush C dX11_countRefused_23 (v := (-9 : Int32)) rfl ?_
    exact k_iret C hr hlk (Option.some.inj hf) rfl dX11_countRefused_25
  · refine k_icmp_lt_f C dX11_countRefused_2 (tgt := 23) (by decide) c1 ?_
    refine k_iload_n C dX11_countRefused_5 1 rfl ?_
    refine k_aload_n C dX11_countRefused_6 0 rfl ?_
    refine k_getr C shC_0 (j := 13) rfl FL_X11_99 dX11_countRefused_7 ?_
    refine k_alen C shC_43 dX11_countRefused_10 ?_
    rcases ite_g hf with ⟨c2, hf⟩ | ⟨c2, hf⟩
    · refine k_icmp_ge_t C dX11_countRefused_11 (tgt := 23) (by decide) c2 ?_
      refine k_bipush C dX11_countRefused_23 (v := (-9 : Int32)) rfl ?_
      exact k_iret C hr hlk (Option.some.inj hf) rfl dX11_countRefused_25
    · refine k_icmp_ge_f C dX11_countRefused_11 (tgt := 23) (by decide) c2 ?_
      refine k_aload_n C dX11_countRefused_14 0 rfl ?_
      refine k_getr C shC_0 (j := 13) rfl FL_X11_99 dX11_countRefused_15 ?_
      refine k_iload_n C dX11_countRefused_18 1 rfl ?_
      obtain ⟨t3, ht3, hf⟩ := bnd hf
      refine k_iald C shC_43 ht3 dX11_countRefused_19 ?_
      refine k_goto C dX11_countRefused_20 (tgt := 25) (by decide) ?_
      exact k_iret C hr hlk (Option.some.inj hf) rfl dX11_countRefused_25
theorem dX11_count_0 : decode cX11_count 0 = .ok (.iload_n 1, 1) := by decide +kernel
theorem dX11_count_1 : decode cX11_count 1 = .ok (.tableswitch 123 0 8 #[51, 59, 67, 75, 83, 91, 99, 107, 115], 51) := by decide +kernel
theorem dX11_count_52 : decode cX11_count 52 = .ok (.aload_n 0, 1) := by decide +kernel
theorem dX11_count_53 : decode cX11_count 53 = .ok (.getfield 12, 3) := by decide +kernel
theorem dX11_count_56 : decode cX11_count 56 = .ok (.getfield 222, 3) := by decide +kernel
theorem dX11_count_59 : decode cX11_count 59 = .ok (.ireturn, 1) := by decide +kernel
theorem dX11_count_60 : decode cX11_count 60 = .ok (.aload_n 0, 1) := by decide +kernel
theorem dX11_count_61 : decode cX11_count 61 = .ok (.getfield 12, 3) := by decide +kernel
theorem dX11_count_64 : decode cX11_count 64 = .ok (.getfield 159, 3) := by decide +kernel
theorem dX11_count_67 : decode cX11_count 67 = .ok (.ireturn, 1) := by decide +kernel
theorem dX11_count_68 : decode cX11_count 68 = .ok (.aload_n 0, 1) := by decide +kernel
theorem dX11_count_69 : decode cX11_count 69 = .ok (.getfield 12, 3) := by decide +kernel
theorem dX11_count_72 : decode cX11_count 72 = .ok (.getfield 176, 3) := by decide +kernel
theorem dX11_count_75 : decode cX11_count 75 = .ok (.ireturn, 1) := by decide +kernel
theorem dX11_count_76 : decode cX11_count 76 = .ok (.aload_n 0, 1) := by decide +kernel
theorem dX11_count_77 : decode cX11_count 77 = .ok (.getfield 12, 3) := by decide +kernel
theorem dX11_count_80 : decode cX11_count 80 = .ok (.getfield 179, 3) := by decide +kernel
theorem dX11_count_83 : decode cX11_count 83 = .ok (.ireturn, 1) := by decide +kernel
theorem dX11_count_84 : decode cX11_count 84 = .ok (.aload_n 0, 1) := by decide +kernel
theorem dX11_count_85 : decode cX11_count 85 = .ok (.getfield 58, 3) := by decide +kernel
theorem dX11_count_88 : decode cX11_count 88 = .ok (.invokevirtual 203, 3) := by decide +kernel
theorem dX11_count_91 : decode cX11_count 91 = .ok (.ireturn, 1) := by decide +kernel
theorem dX11_count_92 : decode cX11_count 92 = .ok (.aload_n 0, 1) := by decide +kernel
theorem dX11_count_93 : decode cX11_count 93 = .ok (.getfield 88, 3) := by decide +kernel
theorem dX11_count_96 : decode cX11_count 96 = .ok (.invokevirtual 366, 3) := by decide +kernel
theorem dX11_count_99 : decode cX11_count 99 = .ok (.ireturn, 1) := by decide +kernel
theorem dX11_count_100 : decode cX11_count 100 = .ok (.aload_n 0, 1) := by decide +kernel
theorem dX11_count_101 : decode cX11_count 101 = .ok (.getfield 33, 3) := by decide +kernel
theorem dX11_count_104 : decode cX11_count 104 = .ok (.getfield 107, 3) := by decide +kernel
theorem dX11_count_107 : decode cX11_count 107 = .ok (.ireturn, 1) := by decide +kernel
theorem dX11_count_108 : decode cX11_count 108 = .ok (.aload_n 0, 1) := by decide +kernel
theorem dX11_count_109 : decode cX11_count 109 = .ok (.getfield 40, 3) := by decide +kernel
theorem dX11_count_112 : decode cX11_count 112 = .ok (.getfield 248, 3) := by decide +kernel
theorem dX11_count_115 : decode cX11_count 115 = .ok (.ireturn, 1) := by decide +kernel
theorem dX11_count_116 : decode cX11_count 116 = .ok (.aload_n 0, 1) := by decide +kernel
theorem dX11_count_117 : decode cX11_count 117 = .ok (.getfield 26, 3) := by decide +kernel
theorem dX11_count_120 : decode cX11_count 120 = .ok (.getfield 185, 3) := by decide +kernel
theorem dX11_count_123 : decode cX11_count 123 = .ok (.ireturn, 1) := by decide +kernel
theorem dX11_count_124 : decode cX11_count 124 = .ok (.aload_n 0, 1) := by decide +kernel
theorem dX11_count_125 : decode cX11_count 125 = .ok (.iload_n 1, 1) := by decide +kernel
theorem dX11_count_126 : decode cX11_count 126 = .ok (.bipush 10, 2) := by decide +kernel
theorem dX11_count_128 : decode cX11_count 128 = .ok (.isub, 1) := by decide +kernel
theorem dX11_count_129 : decode cX11_count 129 = .ok (.invokevirtual 369, 3) := by decide +kernel
theorem dX11_count_132 : decode cX11_count 132 = .ok (.ireturn, 1) := by decide +kernel
set_option maxRecDepth 100000 in
set_option maxHeartbeats 4000000 in
theorem c_X11_count {l : Launch} {G : Gx} (hap : k_ap G shC.length) (v1 : Int32) (M0 : Mem) (r : Int32 × Mem) (hf : f_X11_count v1 M0 = some r) : k_Met l yX11_count cX11_count 2 (some .int) 5 108 G shC [.ref (G.2.1 0), .int v1] M0 (k_Qi G shC r.1 r.2) := by
  refine k_Met_of (by decide) hap (Nat.le_of_ble_eq_true rfl) ?_
  intro p e s m args below meth c C hr hlk
  have C : Cx p s m args c cX11_count RX11 2 G shC := C
  unfold f_X11_count at hf
  refine k_lv (lv' := [(0, .ref (G.2.1 0)), (1, .int v1)]) [0, 1] rfl ?_
  refine k_iload_n C dX11_count_0 1 rfl ?_
  rcases ite_g hf with ⟨c1, hf⟩ | ⟨c1, hf⟩
  · refine k_tableIn C (0 : Int32) c1 dX11_count_1 (off := 51) (tgt := 52) (by decide) (by decide) (by decide) (by decide) ?_
    refine k_aload_n C dX11_count_52 0 rfl ?_
    refine k_getr C shC_0 (j := 0) rfl FL_X11_12 dX11_count_53 ?_
    refine k_geti C shC_1 (j := 4) rfl FL_X11_222 dX11_count_56 ?_
    exact k_iret C hr hlk (prf hf) (prs hf) dX11_count_59
  · rcases ite_g hf with ⟨c2, hf⟩ | ⟨c2, hf⟩
    · refine k_tableIn C (1 : Int32) c2 dX11_count_1 (off := 59) (tgt := 60) (by decide) (by decide) (by decide) (by decide) ?_
      refine k_aload_n C dX11_count_60 0 rfl ?_
      refine k_getr C shC_0 (j := 0) rfl FL_X11_12 dX11_count_61 ?_
      refine k_geti C shC_1 (j := 5) rfl FL_X11_159 dX11_count_64 ?_
      exact k_iret C hr hlk (prf hf) (prs hf) dX11_count_67
    · rcases ite_g hf with ⟨c3, hf⟩ | ⟨c3, hf⟩
      · refine k_tableIn C (2 : Int32) c3 dX11_count_1 (off := 67) (tgt := 68) (by decide) (by decide) (by decide) (by decide) ?_
        refine k_aload_n C dX11_count_68 0 rfl ?_
        refine k_getr C shC_0 (j := 0) rfl FL_X11_12 dX11_count_69 ?_
        refine k_geti C shC_1 (j := 6) rfl FL_X11_176 dX11_count_72 ?_
        exact k_iret C hr hlk (prf hf) (prs hf) dX11_count_75
      · rcases ite_g hf with ⟨c4, hf⟩ | ⟨c4, hf⟩
        · refine k_tableIn C (3 : Int32) c4 dX11_count_1 (off := 75) (tgt := 76) (by decide) (by decide) (by decide) (by decide) ?_
          refine k_aload_n C dX11_count_76 0 rfl ?_
          refine k_getr C shC_0 (j := 0) rfl FL_X11_12 dX11_count_77 ?_
          refine k_geti C shC_1 (j := 7) rfl FL_X11_179 dX11_count_80 ?_
          exact k_iret C hr hlk (prf hf) (prs hf) dX11_count_83
        · rcases ite_g hf with ⟨c5, hf⟩ | ⟨c5, hf⟩
          · refine k_tableIn C (4 : Int32) c5 dX11_count_1 (off := 83) (tgt := 84) (by decide) (by decide) (by decide) (by decide) ?_
            refine k_aload_n C dX11_count_84 0 rfl ?_
            refine k_getr C shC_0 (j := 7) rfl FL_X11_58 dX11_count_85 ?_
            obtain ⟨⟨t6, M6⟩, ht6, hf⟩ := bnd hf
            replace hf := bp_s hf
            refine k_callVi C (As := []) (c_X3_total hap M0 (t6, M6) ht6) ML_X3_total wd_680 shC_28 rfl rfl rfl ⟨Nat.le_of_ble_eq_true rfl, Nat.le_of_ble_eq_true rfl⟩ (Nat.le_of_ble_eq_true rfl) dX11_count_88 ?_
            exact k_iret C hr hlk (prf hf) (prs hf) dX11_count_91
          · rcases ite_g hf with ⟨c7, hf⟩ | ⟨c7, hf⟩
            · refine k_tableIn C (5 : Int32) c7 dX11_count_1 (off := 91) (tgt := 92) (by decide) (by decide) (by decide) (by decide) ?_
              refine k_aload_n C dX11_count_92 0 rfl ?_
              refine k_getr C shC_0 (j := 11) rfl FL_X11_88 dX11_count_93 ?_
              obtain ⟨t8, ht8, hf⟩ := bnd hf
              refine k_callVi C (As := []) (c_X5_allCounted hap M0 t8 ht8) ML_X5_allCounted wd_1260 shC_41 rfl rfl rfl ⟨Nat.le_of_ble_eq_true rfl, Nat.le_of_ble_eq_true rfl⟩ (Nat.le_of_ble_eq_true rfl) dX11_count_96 ?_
              exact k_iret C hr hlk (prf hf) (prs hf) dX11_count_99
            · rcases ite_g hf with ⟨c9, hf⟩ | ⟨c9, hf⟩
              · refine k_tableIn C (6 : Int32) c9 dX11_count_1 (off := 99) (tgt := 100) (by decide) (by decide) (by decide) (by decide) ?_
                refine k_aload_n C dX11_count_100 0 rfl ?_
                refine k_getr C shC_0 (j := 4) rfl FL_X11_33 dX11_count_101 ?_
                refine k_geti C shC_16 (j := 2) rfl FL_X11_107 dX11_count_104 ?_
                exact k_iret C hr hlk (prf hf) (prs hf) dX11_count_107
              · rcases ite_g hf with ⟨c10, hf⟩ | ⟨c10, hf⟩
                · refine k_tableIn C (7 : Int32) c10 dX11_count_1 (off := 107) (tgt := 108) (by decide) (by decide) (by decide) (by decide) ?_
                  refine k_aload_n C dX11_count_108 0 rfl ?_
                  refine k_getr C shC_0 (j := 5) rfl FL_X11_40 dX11_count_109 ?_
                  refine k_geti C shC_23 (j := 1) rfl FL_X11_248 dX11_count_112 ?_
                  exact k_iret C hr hlk (prf hf) (prs hf) dX11_count_115
                · rcases ite_g hf with ⟨c11, hf⟩ | ⟨c11, hf⟩
                  · refine k_tableIn C (8 : Int32) c11 dX11_count_1 (off := 115) (tgt := 116) (by decide) (by decide) (by decide) (by decide) ?_
                    refine k_aload_n C dX11_count_116 0 rfl ?_
                    refine k_getr C shC_0 (j := 3) rfl FL_X11_26 dX11_count_117 ?_
                    refine k_geti C shC_11 (j := 4) rfl FL_X11_185 dX11_count_120 ?_
                    exact k_iret C hr hlk (prf hf) (prs hf) dX11_count_123
                  · have hqc1 : (v1 : Int32).toInt ≠ 0 := i_ne2 c1 (by decide)
                    have hqc2 : (v1 : Int32).toInt ≠ 1 := i_ne2 c2 (by decide)
                    have hqc3 : (v1 : Int32).toInt ≠ 2 := i_ne2 c3 (by decide)
                    have hqc4 : (v1 : Int32).toInt ≠ 3 := i_ne2 c4 (by decide)
                    have hqc5 : (v1 : Int32).toInt ≠ 4 := i_ne2 c5 (by decide)
                    have hqc7 : (v1 : Int32).toInt ≠ 5 := i_ne2 c7 (by decide)
                    have hqc9 : (v1 : Int32).toInt ≠ 6 := i_ne2 c9 (by decide)
                    have hqc10 : (v1 : Int32).toInt ≠ 7 := i_ne2 c10 (by decide)
                    have hqc11 : (v1 : Int32).toInt ≠ 8 := i_ne2 c11 (by decide)
                    refine k_tableOut C dX11_count_1 (tgt := 124) (by omega) (by decide) ?_
                    refine k_aload_n C dX11_count_124 0 rfl ?_
                    refine k_iload_n C dX11_count_125 1 rfl ?_
                    refine k_bipush C dX11_count_126 (v := (10 : Int32)) rfl ?_
                    refine k_isub C dX11_count_128 ?_
                    obtain ⟨t12, ht12, hf⟩ := bnd hf
                    refine k_callVi C (As := [.int (v1 - (10 : Int32))]) (c_X11_countRefused hap (v1 - (10 : Int32)) M0 t12 ht12) ML_X11_countRefused wd_1264 shC_0 rfl rfl rfl ⟨Nat.le_of_ble_eq_true rfl, Nat.le_of_ble_eq_true rfl⟩ (Nat.le_of_ble_eq_true rfl) dX11_count_129 ?_
                    exact k_iret C hr hlk (prf hf) (prs hf) dX11_count_132
theorem dX12_no_0 : decode cX12_no 0 = .ok (.aload_n 0, 1) := by decide +kernel
theorem dX12_no_1 : decode cX12_no 1 = .ok (.getfield 7, 3) := by decide +kernel
theorem dX12_no_4 : decode cX12_no 4 = .ok (.iload_n 1, 1) := by decide +kernel
theorem dX12_no_5 : decode cX12_no 5 = .ok (.ineg, 1) := by decide +kernel
theorem dX12_no_6 : decode cX12_no 6 = .ok (.dup2, 1) := by decide +kernel
theorem dX12_no_7 : decode cX12_no 7 = .ok (.iaload, 1) := by decide +kernel
theorem dX12_no_8 : decode cX12_no 8 = .ok (.iconst 1, 1) := by decide +kernel
theorem dX12_no_9 : decode cX12_no 9 = .ok (.iadd, 1) := by decide +kernel
theorem dX12_no_10 : decode cX12_no 10 = .ok (.iastore, 1) := by decide +kernel
theorem dX12_no_11 : decode cX12_no 11 = .ok (.iload_n 1, 1) := by decide +kernel
theorem dX12_no_12 : decode cX12_no 12 = .ok (.ireturn, 1) := by decide +kernel
set_option maxRecDepth 100000 in
set_option maxHeartbeats 4000000 in
theorem c_X12_no {l : Launch} {G : Gx} (hap : k_ap G shR.length) (v1 : Int32) (M0 : Mem) (r : Int32 × Mem) (hf : f_X12_no v1 M0 = some r) : k_Met l yX12_no cX12_no 2 (some .int) 0 0 G shR [.ref (G.2.1 0), .int v1] M0 (k_Qi G shR r.1 r.2) := by
  refine k_Met_of (by decide) hap (Nat.le_of_ble_eq_true rfl) ?_
  intro p e s m args below meth c C hr hlk
  have C : Cx p s m args c cX12_no RX12 2 G shR := C
  unfold f_X12_no at hf
  refine k_lv (lv' := [(0, .ref (G.2.1 0)), (1, .int v1)]) [0, 1] rfl ?_
  refine k_aload_n C dX12_no_0 0 rfl ?_
  refine k_getr C shR_0 (j := 0) rfl FL_X12_7 dX12_no_1 ?_
  refine k_iload_n C dX12_no_4 1 rfl ?_
  refine k_ineg C dX12_no_5 ?_
  refine k_dup2 C dX12_no_6 rfl rfl ?_
  obtain ⟨t1, ht1, hf⟩ := bnd hf
  refine k_iald C shR_1 ht1 dX12_no_7 ?_
  refine k_iconst C dX12_no_8 (v := (1 : Int32)) rfl ?_
  refine k_iadd C dX12_no_9 ?_
  obtain ⟨M2, hM2, hf⟩ := bnd hf
  refine k_iast C shR_1 hM2 dX12_no_10 ?_
  refine k_iload_n C dX12_no_11 1 rfl ?_
  exact k_iret C hr hlk (prf hf) (prs hf) dX12_no_12
theorem dX12_lowest_0 : decode cX12_lowest 0 = .ok (.aload_n 0, 1) := by decide +kernel
theorem dX12_lowest_1 : decode cX12_lowest 1 = .ok (.getfield 7, 3) := by decide +kernel
theorem dX12_lowest_4 : decode cX12_lowest 4 = .ok (.iload_n 1, 1) := by decide +kernel
theorem dX12_lowest_5 : decode cX12_lowest 5 = .ok (.ineg, 1) := by decide +kernel
theorem dX12_lowest_6 : decode cX12_lowest 6 = .ok (.dup2, 1) := by decide +kernel
theorem dX12_lowest_7 : decode cX12_lowest 7 = .ok (.iaload, 1) := by decide +kernel
theorem dX12_lowest_8 : decode cX12_lowest 8 = .ok (.iconst 1, 1) := by decide +kernel
theorem dX12_lowest_9 : decode cX12_lowest 9 = .ok (.iadd, 1) := by decide +kernel
theorem dX12_lowest_10 : decode cX12_lowest 10 = .ok (.iastore, 1) := by decide +kernel
theorem dX12_lowest_11 : decode cX12_lowest 11 = .ok (.ldc2_w 66, 3) := by decide +kernel
theorem dX12_lowest_14 : decode cX12_lowest 14 = .ok (.iload_n 1, 1) := by decide +kernel
theorem dX12_lowest_15 : decode cX12_lowest 15 = .ok (.i2l, 1) := by decide +kernel
theorem dX12_lowest_16 : decode cX12_lowest 16 = .ok (.lsub, 1) := by decide +kernel
theorem dX12_lowest_17 : decode cX12_lowest 17 = .ok (.lreturn, 1) := by decide +kernel
set_option maxRecDepth 100000 in
set_option maxHeartbeats 4000000 in
theorem c_X12_lowest {l : Launch} {G : Gx} (hap : k_ap G shR.length) (v1 : Int32) (M0 : Mem) (r : Int64 × Mem) (hf : f_X12_lowest v1 M0 = some r) : k_Met l yX12_lowest cX12_lowest 2 (some .long) 0 0 G shR [.ref (G.2.1 0), .int v1] M0 (k_Ql G shR r.1 r.2) := by
  refine k_Met_of (by decide) hap (Nat.le_of_ble_eq_true rfl) ?_
  intro p e s m args below meth c C hr hlk
  have C : Cx p s m args c cX12_lowest RX12 2 G shR := C
  unfold f_X12_lowest at hf
  refine k_lv (lv' := [(0, .ref (G.2.1 0)), (1, .int v1)]) [0, 1] rfl ?_
  refine k_aload_n C dX12_lowest_0 0 rfl ?_
  refine k_getr C shR_0 (j := 0) rfl FL_X12_7 dX12_lowest_1 ?_
  refine k_iload_n C dX12_lowest_4 1 rfl ?_
  refine k_ineg C dX12_lowest_5 ?_
  refine k_dup2 C dX12_lowest_6 rfl rfl ?_
  obtain ⟨t1, ht1, hf⟩ := bnd hf
  refine k_iald C shR_1 ht1 dX12_lowest_7 ?_
  refine k_iconst C dX12_lowest_8 (v := (1 : Int32)) rfl ?_
  refine k_iadd C dX12_lowest_9 ?_
  obtain ⟨M2, hM2, hf⟩ := bnd hf
  refine k_iast C shR_1 hM2 dX12_lowest_10 ?_
  refine k_ldc2 C dX12_lowest_11 wd_1649 ?_
  refine k_iload_n C dX12_lowest_14 1 rfl ?_
  refine k_i2l C dX12_lowest_15 ?_
  refine k_lsub C dX12_lowest_16 ?_
  exact k_lret C hr hlk (prf hf) (prs hf) dX12_lowest_17
theorem dX12_isIn_0 : decode cX12_isIn 0 = .ok (.iload_n 0, 1) := by decide +kernel
theorem dX12_isIn_1 : decode cX12_isIn 1 = .ok (.iload_n 1, 1) := by decide +kernel
theorem dX12_isIn_2 : decode cX12_isIn 2 = .ok (.if_icmp .lt 12, 3) := by decide +kernel
theorem dX12_isIn_5 : decode cX12_isIn 5 = .ok (.iload_n 0, 1) := by decide +kernel
theorem dX12_isIn_6 : decode cX12_isIn 6 = .ok (.iload_n 2, 1) := by decide +kernel
theorem dX12_isIn_7 : decode cX12_isIn 7 = .ok (.if_icmp .gt 7, 3) := by decide +kernel
theorem dX12_isIn_10 : decode cX12_isIn 10 = .ok (.iconst 1, 1) := by decide +kernel
theorem dX12_isIn_11 : decode cX12_isIn 11 = .ok (.goto 4, 3) := by decide +kernel
theorem dX12_isIn_14 : decode cX12_isIn 14 = .ok (.iconst 0, 1) := by decide +kernel
theorem dX12_isIn_15 : decode cX12_isIn 15 = .ok (.ireturn, 1) := by decide +kernel
set_option maxRecDepth 100000 in
set_option maxHeartbeats 4000000 in
theorem c_X12_isIn {l : Launch} {G : Gx} (hap : k_ap G shR.length) (v0 : Int32) (v1 : Int32) (v2 : Int32) (M0 : Mem) (r : Int32) (hf : f_X12_isIn v0 v1 v2 = r) : k_Met l yX12_isIn cX12_isIn 3 (some .boolean) 0 0 G shR [.int v0, .int v1, .int v2] M0 (k_Qi G shR r M0) := by
  refine k_Met_of (by decide) hap (Nat.le_of_ble_eq_true rfl) ?_
  intro p e s m args below meth c C hr hlk
  have C : Cx p s m args c cX12_isIn RX12 3 G shR := C
  unfold f_X12_isIn at hf
  refine k_lv (lv' := [(0, .int v0), (1, .int v1), (2, .int v2)]) [0, 1, 2] rfl ?_
  refine k_iload_n C dX12_isIn_0 0 rfl ?_
  refine k_iload_n C dX12_isIn_1 1 rfl ?_
  rcases ite_g hf with ⟨c1, hf⟩ | ⟨c1, hf⟩
  · refine k_icmp_lt_t C dX12_isIn_2 (tgt := 14) (by decide) c1 ?_
    refine k_iconst C dX12_isIn_14 (v := (0 : Int32)) rfl ?_
    exact k_zret C hr hlk (gZ0.trans (congrArg some hf)) rfl dX12_isIn_15
  · refine k_icmp_lt_f C dX12_isIn_2 (tgt := 14) (by decide) c1 ?_
    refine k_iload_n C dX12_isIn_5 0 rfl ?_
    refine k_iload_n C dX12_isIn_6 2 rfl ?_
    rcases ite_g hf with ⟨c2, hf⟩ | ⟨c2, hf⟩
    · refine k_icmp_gt_t C dX12_isIn_7 (tgt := 14) (by decide) c2 ?_
      refine k_iconst C dX12_isIn_14 (v := (0 : Int32)) rfl ?_
      exact k_zret C hr hlk (gZ0.trans (congrArg some hf)) rfl dX12_isIn_15
    · refine k_icmp_gt_f C dX12_isIn_7 (tgt := 14) (by decide) c2 ?_
      refine k_iconst C dX12_isIn_10 (v := (1 : Int32)) rfl ?_
      refine k_goto C dX12_isIn_11 (tgt := 15) (by decide) ?_
      exact k_zret C hr hlk (gZ1.trans (congrArg some hf)) rfl dX12_isIn_15
theorem dX12_bound_0 : decode cX12_bound 0 = .ok (.iload_n 0, 1) := by decide +kernel
theorem dX12_bound_1 : decode cX12_bound 1 = .ok (.iload_n 1, 1) := by decide +kernel
theorem dX12_bound_2 : decode cX12_bound 2 = .ok (.if_icmp .ge 8, 3) := by decide +kernel
theorem dX12_bound_5 : decode cX12_bound 5 = .ok (.bipush (-4), 2) := by decide +kernel
theorem dX12_bound_7 : decode cX12_bound 7 = .ok (.goto 14, 3) := by decide +kernel
theorem dX12_bound_10 : decode cX12_bound 10 = .ok (.iload_n 0, 1) := by decide +kernel
theorem dX12_bound_11 : decode cX12_bound 11 = .ok (.iload_n 2, 1) := by decide +kernel
theorem dX12_bound_12 : decode cX12_bound 12 = .ok (.if_icmp .le 8, 3) := by decide +kernel
theorem dX12_bound_15 : decode cX12_bound 15 = .ok (.bipush (-6), 2) := by decide +kernel
theorem dX12_bound_17 : decode cX12_bound 17 = .ok (.goto 4, 3) := by decide +kernel
theorem dX12_bound_20 : decode cX12_bound 20 = .ok (.iconst 0, 1) := by decide +kernel
theorem dX12_bound_21 : decode cX12_bound 21 = .ok (.ireturn, 1) := by decide +kernel
set_option maxRecDepth 100000 in
set_option maxHeartbeats 4000000 in
theorem c_X12_bound {l : Launch} {G : Gx} (hap : k_ap G shR.length) (v0 : Int32) (v1 : Int32) (v2 : Int32) (M0 : Mem) (r : Int32) (hf : f_X12_bound v0 v1 v2 = r) : k_Met l yX12_bound cX12_bound 3 (some .int) 0 0 G shR [.int v0, .int v1, .int v2] M0 (k_Qi G shR r M0) := by
  refine k_Met_of (by decide) hap (Nat.le_of_ble_eq_true rfl) ?_
  intro p e s m args below meth c C hr hlk
  have C : Cx p s m args c cX12_bound RX12 3 G shR := C
  unfold f_X12_bound at hf
  refine k_lv (lv' := [(0, .int v0), (1, .int v1), (2, .int v2)]) [0, 1, 2] rfl ?_
  refine k_iload_n C dX12_bound_0 0 rfl ?_
  refine k_iload_n C dX12_bound_1 1 rfl ?_
  rcases ite_g hf with ⟨c1, hf⟩ | ⟨c1, hf⟩
  · refine k_icmp_ge_t C dX12_bound_2 (tgt := 10) (by decide) c1 ?_
    refine k_iload_n C dX12_bound_10 0 rfl ?_
    refine k_iload_n C dX12_bound_11 2 rfl ?_
    rcases ite_g hf with ⟨c2, hf⟩ | ⟨c2, hf⟩
    · refine k_icmp_le_t C dX12_bound_12 (tgt := 20) (by decide) c2 ?_
      refine k_iconst C dX12_bound_20 (v := (0 : Int32)) rfl ?_
      exact k_iret C hr hlk hf rfl dX12_bound_21
    · refine k_icmp_le_f C dX12_bound_12 (tgt := 20) (by decide) c2 ?_
      refine k_bipush C dX12_bound_15 (v := (-6 : Int32)) rfl ?_
      refine k_goto C dX12_bound_17 (tgt := 21) (by decide) ?_
      exact k_iret C hr hlk hf rfl dX12_bound_21
  · refine k_icmp_ge_f C dX12_bound_2 (tgt := 10) (by decide) c1 ?_
    refine k_bipush C dX12_bound_5 (v := (-4 : Int32)) rfl ?_
    refine k_goto C dX12_bound_7 (tgt := 21) (by decide) ?_
    exact k_iret C hr hlk hf rfl dX12_bound_21
theorem dX12_has_0 : decode cX12_has 0 = .ok (.iload_n 0, 1) := by decide +kernel
theorem dX12_has_1 : decode cX12_has 1 = .ok (.iload_n 1, 1) := by decide +kernel
theorem dX12_has_2 : decode cX12_has 2 = .ok (.ishr, 1) := by decide +kernel
theorem dX12_has_3 : decode cX12_has 3 = .ok (.iconst 1, 1) := by decide +kernel
theorem dX12_has_4 : decode cX12_has 4 = .ok (.iand, 1) := by decide +kernel
theorem dX12_has_5 : decode cX12_has 5 = .ok (.iconst 1, 1) := by decide +kernel
theorem dX12_has_6 : decode cX12_has 6 = .ok (.if_icmp .ne 7, 3) := by decide +kernel
theorem dX12_has_9 : decode cX12_has 9 = .ok (.iconst 1, 1) := by decide +kernel
theorem dX12_has_10 : decode cX12_has 10 = .ok (.goto 4, 3) := by decide +kernel
theorem dX12_has_13 : decode cX12_has 13 = .ok (.iconst 0, 1) := by decide +kernel
theorem dX12_has_14 : decode cX12_has 14 = .ok (.ireturn, 1) := by decide +kernel
set_option maxRecDepth 100000 in
set_option maxHeartbeats 4000000 in
theorem c_X12_has {l : Launch} {G : Gx} (hap : k_ap G shR.length) (v0 : Int32) (v1 : Int32) (M0 : Mem) (r : Int32) (hf : f_X12_has v0 v1 = r) : k_Met l yX12_has cX12_has 2 (some .boolean) 0 0 G shR [.int v0, .int v1] M0 (k_Qi G shR r M0) := by
  refine k_Met_of (by decide) hap (Nat.le_of_ble_eq_true rfl) ?_
  intro p e s m args below meth c C hr hlk
  have C : Cx p s m args c cX12_has RX12 2 G shR := C
  unfold f_X12_has at hf
  refine k_lv (lv' := [(0, .int v0), (1, .int v1)]) [0, 1] rfl ?_
  refine k_iload_n C dX12_has_0 0 rfl ?_
  refine k_iload_n C dX12_has_1 1 rfl ?_
  refine k_ishrJ C dX12_has_2 ?_
  refine k_iconst C dX12_has_3 (v := (1 : Int32)) rfl ?_
  refine k_iand C dX12_has_4 ?_
  refine k_iconst C dX12_has_5 (v := (1 : Int32)) rfl ?_
  rcases ite_g hf with ⟨c1, hf⟩ | ⟨c1, hf⟩
  · refine k_icmp_ne_f C dX12_has_6 (tgt := 13) (by decide) c1 ?_
    refine k_iconst C dX12_has_9 (v := (1 : Int32)) rfl ?_
    refine k_goto C dX12_has_10 (tgt := 14) (by decide) ?_
    exact k_zret C hr hlk (gZ1.trans (congrArg some hf)) rfl dX12_has_14
  · refine k_icmp_ne_t C dX12_has_6 (tgt := 13) (by decide) c1 ?_
    refine k_iconst C dX12_has_13 (v := (0 : Int32)) rfl ?_
    exact k_zret C hr hlk (gZ0.trans (congrArg some hf)) rfl dX12_has_14
theorem dX12_bits_0 : decode cX12_bits 0 = .ok (.iconst 0, 1) := by decide +kernel
theorem dX12_bits_1 : decode cX12_bits 1 = .ok (.istore_n 1, 1) := by decide +kernel
theorem dX12_bits_2 : decode cX12_bits 2 = .ok (.iconst 0, 1) := by decide +kernel
theorem dX12_bits_3 : decode cX12_bits 3 = .ok (.istore_n 2, 1) := by decide +kernel
theorem dX12_bits_4 : decode cX12_bits 4 = .ok (.iload_n 2, 1) := by decide +kernel
theorem dX12_bits_5 : decode cX12_bits 5 = .ok (.bipush 31, 2) := by decide +kernel
theorem dX12_bits_7 : decode cX12_bits 7 = .ok (.if_icmp .ge 17, 3) := by decide +kernel
theorem dX12_bits_10 : decode cX12_bits 10 = .ok (.iload_n 1, 1) := by decide +kernel
theorem dX12_bits_11 : decode cX12_bits 11 = .ok (.iload_n 0, 1) := by decide +kernel
theorem dX12_bits_12 : decode cX12_bits 12 = .ok (.iload_n 2, 1) := by decide +kernel
theorem dX12_bits_13 : decode cX12_bits 13 = .ok (.ishr, 1) := by decide +kernel
theorem dX12_bits_14 : decode cX12_bits 14 = .ok (.iconst 1, 1) := by decide +kernel
theorem dX12_bits_15 : decode cX12_bits 15 = .ok (.iand, 1) := by decide +kernel
theorem dX12_bits_16 : decode cX12_bits 16 = .ok (.iadd, 1) := by decide +kernel
theorem dX12_bits_17 : decode cX12_bits 17 = .ok (.istore_n 1, 1) := by decide +kernel
theorem dX12_bits_18 : decode cX12_bits 18 = .ok (.iinc 2 1, 3) := by decide +kernel
theorem dX12_bits_21 : decode cX12_bits 21 = .ok (.goto (-17), 3) := by decide +kernel
theorem dX12_bits_24 : decode cX12_bits 24 = .ok (.iload_n 1, 1) := by decide +kernel
theorem dX12_bits_25 : decode cX12_bits 25 = .ok (.ireturn, 1) := by decide +kernel
set_option maxRecDepth 100000 in
set_option maxHeartbeats 4000000 in
theorem c_X12_bits {l : Launch} {G : Gx} (hap : k_ap G shR.length) (v0 : Int32) (M0 : Mem) (r : Int32) (hf : f_X12_bits v0 = some r) : k_Met l yX12_bits cX12_bits 3 (some .int) 0 0 G shR [.int v0] M0 (k_Qi G shR r M0) := by
  refine k_Met_of (by decide) hap (Nat.le_of_ble_eq_true rfl) ?_
  intro p e s m args below meth c C hr hlk
  have C : Cx p s m args c cX12_bits RX12 3 G shR := C
  have k_b4 : ∀ (n4 : Nat) (v0 : Int32) (v1 : Int32) (v2 : Int32), f_X12_bits_b4 n4 v0 v1 v2 = some r → K p l e (k_rm 0 0) s m args below meth c 3 G shR (MQ below (k_Qi G shR r M0) args s 0 0 (k_A G shR.length)) 4 [(0, .int v0), (1, .int v1), (2, .int v2)] [] M0 := by
    intro n4
    induction n4 with
    | zero => intro v0 v1 v2 hf; simp [f_X12_bits_b4] at hf
    | succ n4 ih4 =>
      intro v0 v1 v2 hf
      unfold f_X12_bits_b4 at hf
      refine k_iload_n C dX12_bits_4 2 rfl ?_
      refine k_bipush C dX12_bits_5 (v := (31 : Int32)) rfl ?_
      rcases ite_g hf with ⟨c1, hf⟩ | ⟨c1, hf⟩
      · refine k_icmp_ge_t C dX12_bits_7 (tgt := 24) (by decide) c1 ?_
        refine k_iload_n C dX12_bits_24 1 rfl ?_
        exact k_iret C hr hlk (Option.some.inj hf) rfl dX12_bits_25
      · refine k_icmp_ge_f C dX12_bits_7 (tgt := 24) (by decide) c1 ?_
        refine k_iload_n C dX12_bits_10 1 rfl ?_
        refine k_iload_n C dX12_bits_11 0 rfl ?_
        refine k_iload_n C dX12_bits_12 2 rfl ?_
        refine k_ishrJ C dX12_bits_13 ?_
        refine k_iconst C dX12_bits_14 (v := (1 : Int32)) rfl ?_
        refine k_iand C dX12_bits_15 ?_
        refine k_iadd C dX12_bits_16 ?_
        refine k_istore_n C dX12_bits_17 (by decide) [1, 0, 2] (lv' := [(0, .int v0), (1, .int (v1 + ((jshr v0 v2) &&& (1 : Int32)))), (2, .int v2)]) rfl ?_
        refine k_iinc C dX12_bits_18 2 rfl (v := (v2 + (1 : Int32))) rfl (by decide) [1, 2, 0] (lv' := [(0, .int v0), (1, .int (v1 + ((jshr v0 v2) &&& (1 : Int32)))), (2, .int (v2 + (1 : Int32)))]) rfl ?_
        refine k_goto C dX12_bits_21 (tgt := 4) (by decide) ?_
        exact ih4 v0 (v1 + ((jshr v0 v2) &&& (1 : Int32))) (v2 + (1 : Int32)) hf
  unfold f_X12_bits at hf
  refine k_lv (lv' := [(0, .int v0)]) [0] rfl ?_
  refine k_iconst C dX12_bits_0 (v := (0 : Int32)) rfl ?_
  refine k_istore_n C dX12_bits_1 (by decide) [1, 0] (lv' := [(0, .int v0), (1, .int (0 : Int32))]) rfl ?_
  refine k_iconst C dX12_bits_2 (v := (0 : Int32)) rfl ?_
  refine k_istore_n C dX12_bits_3 (by decide) [1, 2, 0] (lv' := [(0, .int v0), (1, .int (0 : Int32)), (2, .int (0 : Int32))]) rfl ?_
  exact k_b4 FU v0 (0 : Int32) (0 : Int32) hf
theorem dX12_isDoing_0 : decode cX12_isDoing 0 = .ok (.iload_n 1, 1) := by decide +kernel
theorem dX12_isDoing_1 : decode cX12_isDoing 1 = .ok (.ifCond .lt 15, 3) := by decide +kernel
theorem dX12_isDoing_4 : decode cX12_isDoing 4 = .ok (.iload_n 1, 1) := by decide +kernel
theorem dX12_isDoing_5 : decode cX12_isDoing 5 = .ok (.aload_n 0, 1) := by decide +kernel
theorem dX12_isDoing_6 : decode cX12_isDoing 6 = .ok (.getfield 62, 3) := by decide +kernel
theorem dX12_isDoing_9 : decode cX12_isDoing 9 = .ok (.if_icmp .ge 7, 3) := by decide +kernel
theorem dX12_isDoing_12 : decode cX12_isDoing 12 = .ok (.iconst 1, 1) := by decide +kernel
theorem dX12_isDoing_13 : decode cX12_isDoing 13 = .ok (.goto 4, 3) := by decide +kernel
theorem dX12_isDoing_16 : decode cX12_isDoing 16 = .ok (.iconst 0, 1) := by decide +kernel
theorem dX12_isDoing_17 : decode cX12_isDoing 17 = .ok (.ireturn, 1) := by decide +kernel
set_option maxRecDepth 100000 in
set_option maxHeartbeats 4000000 in
theorem c_X12_isDoing {l : Launch} {G : Gx} (hap : k_ap G shR.length) (v1 : Int32) (M0 : Mem) (r : Int32) (hf : f_X12_isDoing v1 M0 = r) : k_Met l yX12_isDoing cX12_isDoing 2 (some .boolean) 0 0 G shR [.ref (G.2.1 0), .int v1] M0 (k_Qi G shR r M0) := by
  refine k_Met_of (by decide) hap (Nat.le_of_ble_eq_true rfl) ?_
  intro p e s m args below meth c C hr hlk
  have C : Cx p s m args c cX12_isDoing RX12 2 G shR := C
  unfold f_X12_isDoing at hf
  refine k_lv (lv' := [(0, .ref (G.2.1 0)), (1, .int v1)]) [0, 1] rfl ?_
  refine k_iload_n C dX12_isDoing_0 1 rfl ?_
  rcases ite_g hf with ⟨c1, hf⟩ | ⟨c1, hf⟩
  · refine k_if_lt_t C dX12_isDoing_1 (tgt := 16) (by decide) c1 ?_
    refine k_iconst C dX12_isDoing_16 (v := (0 : Int32)) rfl ?_
    exact k_zret C hr hlk (gZ0.trans (congrArg some hf)) rfl dX12_isDoing_17
  · refine k_if_lt_f C dX12_isDoing_1 (tgt := 16) (by decide) c1 ?_
    refine k_iload_n C dX12_isDoing_4 1 rfl ?_
    refine k_aload_n C dX12_isDoing_5 0 rfl ?_
    refine k_geti C shR_0 (j := 5) rfl FL_X12_62 dX12_isDoing_6 ?_
    rcases ite_g hf with ⟨c2, hf⟩ | ⟨c2, hf⟩
    · refine k_icmp_ge_t C dX12_isDoing_9 (tgt := 16) (by decide) c2 ?_
      refine k_iconst C dX12_isDoing_16 (v := (0 : Int32)) rfl ?_
      exact k_zret C hr hlk (gZ0.trans (congrArg some hf)) rfl dX12_isDoing_17
    · refine k_icmp_ge_f C dX12_isDoing_9 (tgt := 16) (by decide) c2 ?_
      refine k_iconst C dX12_isDoing_12 (v := (1 : Int32)) rfl ?_
      refine k_goto C dX12_isDoing_13 (tgt := 17) (by decide) ?_
      exact k_zret C hr hlk (gZ1.trans (congrArg some hf)) rfl dX12_isDoing_17
theorem dX12_isMark_0 : decode cX12_isMark 0 = .ok (.iload_n 0, 1) := by decide +kernel
theorem dX12_isMark_1 : decode cX12_isMark 1 = .ok (.ifCond .lt 13, 3) := by decide +kernel
theorem dX12_isMark_4 : decode cX12_isMark 4 = .ok (.iload_n 0, 1) := by decide +kernel
theorem dX12_isMark_5 : decode cX12_isMark 5 = .ok (.bipush 8, 2) := by decide +kernel
theorem dX12_isMark_7 : decode cX12_isMark 7 = .ok (.if_icmp .ge 7, 3) := by decide +kernel
theorem dX12_isMark_10 : decode cX12_isMark 10 = .ok (.iconst 1, 1) := by decide +kernel
theorem dX12_isMark_11 : decode cX12_isMark 11 = .ok (.goto 4, 3) := by decide +kernel
theorem dX12_isMark_14 : decode cX12_isMark 14 = .ok (.iconst 0, 1) := by decide +kernel
theorem dX12_isMark_15 : decode cX12_isMark 15 = .ok (.ireturn, 1) := by decide +kernel
set_option maxRecDepth 100000 in
set_option maxHeartbeats 4000000 in
theorem c_X12_isMark {l : Launch} {G : Gx} (hap : k_ap G shR.length) (v0 : Int32) (M0 : Mem) (r : Int32) (hf : f_X12_isMark v0 = r) : k_Met l yX12_isMark cX12_isMark 1 (some .boolean) 0 0 G shR [.int v0] M0 (k_Qi G shR r M0) := by
  refine k_Met_of (by decide) hap (Nat.le_of_ble_eq_true rfl) ?_
  intro p e s m args below meth c C hr hlk
  have C : Cx p s m args c cX12_isMark RX12 1 G shR := C
  unfold f_X12_isMark at hf
  refine k_lv (lv' := [(0, .int v0)]) [0] rfl ?_
  refine k_iload_n C dX12_isMark_0 0 rfl ?_
  rcases ite_g hf with ⟨c1, hf⟩ | ⟨c1, hf⟩
  · refine k_if_lt_t C dX12_isMark_1 (tgt := 14) (by decide) c1 ?_
    refine k_iconst C dX12_isMark_14 (v := (0 : Int32)) rfl ?_
    exact k_zret C hr hlk (gZ0.trans (congrArg some hf)) rfl dX12_isMark_15
  · refine k_if_lt_f C dX12_isMark_1 (tgt := 14) (by decide) c1 ?_
    refine k_iload_n C dX12_isMark_4 0 rfl ?_
    refine k_bipush C dX12_isMark_5 (v := (8 : Int32)) rfl ?_
    rcases ite_g hf with ⟨c2, hf⟩ | ⟨c2, hf⟩
    · refine k_icmp_ge_t C dX12_isMark_7 (tgt := 14) (by decide) c2 ?_
      refine k_iconst C dX12_isMark_14 (v := (0 : Int32)) rfl ?_
      exact k_zret C hr hlk (gZ0.trans (congrArg some hf)) rfl dX12_isMark_15
    · refine k_icmp_ge_f C dX12_isMark_7 (tgt := 14) (by decide) c2 ?_
      refine k_iconst C dX12_isMark_10 (v := (1 : Int32)) rfl ?_
      refine k_goto C dX12_isMark_11 (tgt := 15) (by decide) ?_
      exact k_zret C hr hlk (gZ1.trans (congrArg some hf)) rfl dX12_isMark_15
theorem dX12_feed_0 : decode cX12_feed 0 = .ok (.iload_n 1, 1) := by decide +kernel
theorem dX12_feed_1 : decode cX12_feed 1 = .ok (.iconst 0, 1) := by decide +kernel
theorem dX12_feed_2 : decode cX12_feed 2 = .ok (.sipush 255, 3) := by decide +kernel
theorem dX12_feed_5 : decode cX12_feed 5 = .ok (.invokestatic 68, 3) := by decide +kernel
theorem dX12_feed_8 : decode cX12_feed 8 = .ok (.istore_n 2, 1) := by decide +kernel
theorem dX12_feed_9 : decode cX12_feed 9 = .ok (.iload_n 2, 1) := by decide +kernel
theorem dX12_feed_10 : decode cX12_feed 10 = .ok (.ifCond .ne 15, 3) := by decide +kernel
theorem dX12_feed_13 : decode cX12_feed 13 = .ok (.aload_n 0, 1) := by decide +kernel
theorem dX12_feed_14 : decode cX12_feed 14 = .ok (.getfield 72, 3) := by decide +kernel
theorem dX12_feed_17 : decode cX12_feed 17 = .ok (.bipush 96, 2) := by decide +kernel
theorem dX12_feed_19 : decode cX12_feed 19 = .ok (.if_icmp .ne 6, 3) := by decide +kernel
theorem dX12_feed_22 : decode cX12_feed 22 = .ok (.bipush (-6), 2) := by decide +kernel
theorem dX12_feed_24 : decode cX12_feed 24 = .ok (.istore_n 2, 1) := by decide +kernel
theorem dX12_feed_25 : decode cX12_feed 25 = .ok (.iload_n 2, 1) := by decide +kernel
theorem dX12_feed_26 : decode cX12_feed 26 = .ok (.ifCond .eq 9, 3) := by decide +kernel
theorem dX12_feed_29 : decode cX12_feed 29 = .ok (.aload_n 0, 1) := by decide +kernel
theorem dX12_feed_30 : decode cX12_feed 30 = .ok (.iload_n 2, 1) := by decide +kernel
theorem dX12_feed_31 : decode cX12_feed 31 = .ok (.invokevirtual 75, 3) := by decide +kernel
theorem dX12_feed_34 : decode cX12_feed 34 = .ok (.ireturn, 1) := by decide +kernel
theorem dX12_feed_35 : decode cX12_feed 35 = .ok (.aload_n 0, 1) := by decide +kernel
theorem dX12_feed_36 : decode cX12_feed 36 = .ok (.getfield 25, 3) := by decide +kernel
theorem dX12_feed_39 : decode cX12_feed 39 = .ok (.aload_n 0, 1) := by decide +kernel
theorem dX12_feed_40 : decode cX12_feed 40 = .ok (.getfield 72, 3) := by decide +kernel
theorem dX12_feed_43 : decode cX12_feed 43 = .ok (.iload_n 1, 1) := by decide +kernel
theorem dX12_feed_44 : decode cX12_feed 44 = .ok (.iastore, 1) := by decide +kernel
theorem dX12_feed_45 : decode cX12_feed 45 = .ok (.aload_n 0, 1) := by decide +kernel
theorem dX12_feed_46 : decode cX12_feed 46 = .ok (.dup, 1) := by decide +kernel
theorem dX12_feed_47 : decode cX12_feed 47 = .ok (.getfield 72, 3) := by decide +kernel
theorem dX12_feed_50 : decode cX12_feed 50 = .ok (.iconst 1, 1) := by decide +kernel
theorem dX12_feed_51 : decode cX12_feed 51 = .ok (.iadd, 1) := by decide +kernel
theorem dX12_feed_52 : decode cX12_feed 52 = .ok (.putfield 72, 3) := by decide +kernel
theorem dX12_feed_55 : decode cX12_feed 55 = .ok (.aload_n 0, 1) := by decide +kernel
theorem dX12_feed_56 : decode cX12_feed 56 = .ok (.getfield 72, 3) := by decide +kernel
theorem dX12_feed_59 : decode cX12_feed 59 = .ok (.ireturn, 1) := by decide +kernel
set_option maxRecDepth 100000 in
set_option maxHeartbeats 4000000 in
theorem c_X12_feed {l : Launch} {G : Gx} (hap : k_ap G shR.length) (v1 : Int32) (M0 : Mem) (r : Int32 × Mem) (hf : f_X12_feed v1 M0 = some r) : k_Met l yX12_feed cX12_feed 3 (some .int) 1 22 G shR [.ref (G.2.1 0), .int v1] M0 (k_Qi G shR r.1 r.2) := by
  refine k_Met_of (by decide) hap (Nat.le_of_ble_eq_true rfl) ?_
  intro p e s m args below meth c C hr hlk
  have C : Cx p s m args c cX12_feed RX12 3 G shR := C
  have k_b25 : ∀ (v1 : Int32) (v2 : Int32) (M : Mem), f_X12_feed_b25 v1 v2 M = some r → K p l e (k_rm 1 22) s m args below meth c 3 G shR (MQ below (k_Qi G shR r.1 r.2) args s 0 0 (k_A G shR.length)) 25 [(0, .ref (G.2.1 0)), (1, .int v1), (2, .int v2)] [] M := by
    intro v1 v2 M hf
    unfold f_X12_feed_b25 at hf
    refine k_iload_n C dX12_feed_25 2 rfl ?_
    rcases ite_g hf with ⟨c2, hf⟩ | ⟨c2, hf⟩
    · refine k_if_eq_t C dX12_feed_26 (tgt := 35) (by decide) c2 ?_
      refine k_aload_n C dX12_feed_35 0 rfl ?_
      refine k_getr C shR_0 (j := 9) rfl FL_X12_25 dX12_feed_36 ?_
      refine k_aload_n C dX12_feed_39 0 rfl ?_
      refine k_geti C shR_0 (j := 13) rfl FL_X12_72 dX12_feed_40 ?_
      refine k_iload_n C dX12_feed_43 1 rfl ?_
      obtain ⟨M3, hM3, hf⟩ := bnd hf
      refine k_iast C shR_6 hM3 dX12_feed_44 ?_
      refine k_aload_n C dX12_feed_45 0 rfl ?_
      refine k_dup C dX12_feed_46 rfl ?_
      refine k_geti C shR_0 (j := 13) rfl FL_X12_72 dX12_feed_47 ?_
      refine k_iconst C dX12_feed_50 (v := (1 : Int32)) rfl ?_
      refine k_iadd C dX12_feed_51 ?_
      refine k_put C shR_0 (j := 13) rfl FL_X12_72 FW_X12_13 dX12_feed_52 ?_
      refine k_aload_n C dX12_feed_55 0 rfl ?_
      refine k_geti C shR_0 (j := 13) rfl FL_X12_72 dX12_feed_56 ?_
      exact k_iret C hr hlk (prf hf) (prs hf) dX12_feed_59
    · refine k_if_eq_f C dX12_feed_26 (tgt := 35) (by decide) c2 ?_
      refine k_aload_n C dX12_feed_29 0 rfl ?_
      refine k_iload_n C dX12_feed_30 2 rfl ?_
      obtain ⟨⟨t4, M4⟩, ht4, hf⟩ := bnd hf
      replace hf := bp_s hf
      refine k_callVi C (As := [.int v2]) (c_X12_no hap v2 M (t4, M4) ht4) ML_X12_no wd_1369 shR_0 rfl rfl rfl ⟨Nat.le_of_ble_eq_true rfl, Nat.le_of_ble_eq_true rfl⟩ (Nat.le_of_ble_eq_true rfl) dX12_feed_31 ?_
      exact k_iret C hr hlk (prf hf) (prs hf) dX12_feed_34
  unfold f_X12_feed at hf
  refine k_lv (lv' := [(0, .ref (G.2.1 0)), (1, .int v1)]) [0, 1] rfl ?_
  refine k_iload_n C dX12_feed_0 1 rfl ?_
  refine k_iconst C dX12_feed_1 (v := (0 : Int32)) rfl ?_
  refine k_sipush C dX12_feed_2 (v := (255 : Int32)) rfl ?_
  refine k_callSi C (As := [.int v1, .int (0 : Int32), .int (255 : Int32)]) (c_X12_bound hap v1 (0 : Int32) (255 : Int32) M0 _ rfl) MS_X12_bound wd_1366 rfl rfl ⟨Nat.le_of_ble_eq_true rfl, Nat.le_of_ble_eq_true rfl⟩ (Nat.le_of_ble_eq_true rfl) dX12_feed_5 ?_
  refine k_istore_n C dX12_feed_8 (by decide) [1, 2, 0] (lv' := [(0, .ref (G.2.1 0)), (1, .int v1), (2, .int (f_X12_bound v1 (0 : Int32) (255 : Int32)))]) rfl ?_
  refine k_iload_n C dX12_feed_9 2 rfl ?_
  rcases ite_g hf with ⟨c1, hf⟩ | ⟨c1, hf⟩
  · refine k_if_ne_f C dX12_feed_10 (tgt := 25) (by decide) c1 ?_
    refine k_aload_n C dX12_feed_13 0 rfl ?_
    refine k_geti C shR_0 (j := 13) rfl FL_X12_72 dX12_feed_14 ?_
    refine k_bipush C dX12_feed_17 (v := (96 : Int32)) rfl ?_
    rcases ite_g hf with ⟨c5, hf⟩ | ⟨c5, hf⟩
    · refine k_icmp_ne_f C dX12_feed_19 (tgt := 25) (by decide) c5 ?_
      refine k_bipush C dX12_feed_22 (v := (-6 : Int32)) rfl ?_
      refine k_istore_n C dX12_feed_24 (by decide) [1, 2, 0] (lv' := [(0, .ref (G.2.1 0)), (1, .int v1), (2, .int (-6 : Int32))]) rfl ?_
      exact k_b25 v1 (-6 : Int32) M0 hf
    · refine k_icmp_ne_t C dX12_feed_19 (tgt := 25) (by decide) c5 ?_
      exact k_b25 v1 (f_X12_bound v1 (0 : Int32) (255 : Int32)) M0 hf
  · refine k_if_ne_t C dX12_feed_10 (tgt := 25) (by decide) c1 ?_
    exact k_b25 v1 (f_X12_bound v1 (0 : Int32) (255 : Int32)) M0 hf
theorem dX12_peeked_0 : decode cX12_peeked 0 = .ok (.aload_n 0, 1) := by decide +kernel
theorem dX12_peeked_1 : decode cX12_peeked 1 = .ok (.getfield 79, 3) := by decide +kernel
theorem dX12_peeked_4 : decode cX12_peeked 4 = .ok (.aload_n 0, 1) := by decide +kernel
theorem dX12_peeked_5 : decode cX12_peeked 5 = .ok (.getfield 72, 3) := by decide +kernel
theorem dX12_peeked_8 : decode cX12_peeked 8 = .ok (.if_icmp .ge 15, 3) := by decide +kernel
theorem dX12_peeked_11 : decode cX12_peeked 11 = .ok (.aload_n 0, 1) := by decide +kernel
theorem dX12_peeked_12 : decode cX12_peeked 12 = .ok (.getfield 25, 3) := by decide +kernel
theorem dX12_peeked_15 : decode cX12_peeked 15 = .ok (.aload_n 0, 1) := by decide +kernel
theorem dX12_peeked_16 : decode cX12_peeked 16 = .ok (.getfield 79, 3) := by decide +kernel
theorem dX12_peeked_19 : decode cX12_peeked 19 = .ok (.iaload, 1) := by decide +kernel
theorem dX12_peeked_20 : decode cX12_peeked 20 = .ok (.goto 4, 3) := by decide +kernel
theorem dX12_peeked_23 : decode cX12_peeked 23 = .ok (.iconst (-1), 1) := by decide +kernel
theorem dX12_peeked_24 : decode cX12_peeked 24 = .ok (.ireturn, 1) := by decide +kernel
set_option maxRecDepth 100000 in
set_option maxHeartbeats 4000000 in
theorem c_X12_peeked {l : Launch} {G : Gx} (hap : k_ap G shR.length) (M0 : Mem) (r : Int32) (hf : f_X12_peeked M0 = some r) : k_Met l yX12_peeked cX12_peeked 1 (some .int) 0 0 G shR [.ref (G.2.1 0)] M0 (k_Qi G shR r M0) := by
  refine k_Met_of (by decide) hap (Nat.le_of_ble_eq_true rfl) ?_
  intro p e s m args below meth c C hr hlk
  have C : Cx p s m args c cX12_peeked RX12 1 G shR := C
  unfold f_X12_peeked at hf
  refine k_lv (lv' := [(0, .ref (G.2.1 0))]) [0] rfl ?_
  refine k_aload_n C dX12_peeked_0 0 rfl ?_
  refine k_geti C shR_0 (j := 14) rfl FL_X12_79 dX12_peeked_1 ?_
  refine k_aload_n C dX12_peeked_4 0 rfl ?_
  refine k_geti C shR_0 (j := 13) rfl FL_X12_72 dX12_peeked_5 ?_
  rcases ite_g hf with ⟨c1, hf⟩ | ⟨c1, hf⟩
  · refine k_icmp_ge_t C dX12_peeked_8 (tgt := 23) (by decide) c1 ?_
    refine k_iconst C dX12_peeked_23 (v := (-1 : Int32)) rfl ?_
    exact k_iret C hr hlk (Option.some.inj hf) rfl dX12_peeked_24
  · refine k_icmp_ge_f C dX12_peeked_8 (tgt := 23) (by decide) c1 ?_
    refine k_aload_n C dX12_peeked_11 0 rfl ?_
    refine k_getr C shR_0 (j := 9) rfl FL_X12_25 dX12_peeked_12 ?_
    refine k_aload_n C dX12_peeked_15 0 rfl ?_
    refine k_geti C shR_0 (j := 14) rfl FL_X12_79 dX12_peeked_16 ?_
    obtain ⟨t2, ht2, hf⟩ := bnd hf
    refine k_iald C shR_6 ht2 dX12_peeked_19 ?_
    refine k_goto C dX12_peeked_20 (tgt := 24) (by decide) ?_
    exact k_iret C hr hlk (Option.some.inj hf) rfl dX12_peeked_24
theorem dX12_readsDigits_0 : decode cX12_readsDigits 0 = .ok (.iconst 0, 1) := by decide +kernel
theorem dX12_readsDigits_1 : decode cX12_readsDigits 1 = .ok (.istore_n 3, 1) := by decide +kernel
theorem dX12_readsDigits_2 : decode cX12_readsDigits 2 = .ok (.iconst 0, 1) := by decide +kernel
theorem dX12_readsDigits_3 : decode cX12_readsDigits 3 = .ok (.istore 4, 2) := by decide +kernel
theorem dX12_readsDigits_5 : decode cX12_readsDigits 5 = .ok (.iload 4, 2) := by decide +kernel
theorem dX12_readsDigits_7 : decode cX12_readsDigits 7 = .ok (.iload_n 2, 1) := by decide +kernel
theorem dX12_readsDigits_8 : decode cX12_readsDigits 8 = .ok (.if_icmp .ge 48, 3) := by decide +kernel
theorem dX12_readsDigits_11 : decode cX12_readsDigits 11 = .ok (.aload_n 0, 1) := by decide +kernel
theorem dX12_readsDigits_12 : decode cX12_readsDigits 12 = .ok (.invokevirtual 82, 3) := by decide +kernel
theorem dX12_readsDigits_15 : decode cX12_readsDigits 15 = .ok (.bipush 48, 2) := by decide +kernel
theorem dX12_readsDigits_17 : decode cX12_readsDigits 17 = .ok (.bipush 57, 2) := by decide +kernel
theorem dX12_readsDigits_19 : decode cX12_readsDigits 19 = .ok (.invokestatic 86, 3) := by decide +kernel
theorem dX12_readsDigits_22 : decode cX12_readsDigits 22 = .ok (.ifCond .ne 5, 3) := by decide +kernel
theorem dX12_readsDigits_25 : decode cX12_readsDigits 25 = .ok (.iconst 0, 1) := by decide +kernel
theorem dX12_readsDigits_26 : decode cX12_readsDigits 26 = .ok (.ireturn, 1) := by decide +kernel
theorem dX12_readsDigits_27 : decode cX12_readsDigits 27 = .ok (.bipush 10, 2) := by decide +kernel
theorem dX12_readsDigits_29 : decode cX12_readsDigits 29 = .ok (.iload_n 3, 1) := by decide +kernel
theorem dX12_readsDigits_30 : decode cX12_readsDigits 30 = .ok (.imul, 1) := by decide +kernel
theorem dX12_readsDigits_31 : decode cX12_readsDigits 31 = .ok (.aload_n 0, 1) := by decide +kernel
theorem dX12_readsDigits_32 : decode cX12_readsDigits 32 = .ok (.invokevirtual 82, 3) := by decide +kernel
theorem dX12_readsDigits_35 : decode cX12_readsDigits 35 = .ok (.iadd, 1) := by decide +kernel
theorem dX12_readsDigits_36 : decode cX12_readsDigits 36 = .ok (.bipush 48, 2) := by decide +kernel
theorem dX12_readsDigits_38 : decode cX12_readsDigits 38 = .ok (.isub, 1) := by decide +kernel
theorem dX12_readsDigits_39 : decode cX12_readsDigits 39 = .ok (.istore_n 3, 1) := by decide +kernel
theorem dX12_readsDigits_40 : decode cX12_readsDigits 40 = .ok (.aload_n 0, 1) := by decide +kernel
theorem dX12_readsDigits_41 : decode cX12_readsDigits 41 = .ok (.dup, 1) := by decide +kernel
theorem dX12_readsDigits_42 : decode cX12_readsDigits 42 = .ok (.getfield 79, 3) := by decide +kernel
theorem dX12_readsDigits_45 : decode cX12_readsDigits 45 = .ok (.iconst 1, 1) := by decide +kernel
theorem dX12_readsDigits_46 : decode cX12_readsDigits 46 = .ok (.iadd, 1) := by decide +kernel
theorem dX12_readsDigits_47 : decode cX12_readsDigits 47 = .ok (.putfield 79, 3) := by decide +kernel
theorem dX12_readsDigits_50 : decode cX12_readsDigits 50 = .ok (.iinc 4 1, 3) := by decide +kernel
theorem dX12_readsDigits_53 : decode cX12_readsDigits 53 = .ok (.goto (-48), 3) := by decide +kernel
theorem dX12_readsDigits_56 : decode cX12_readsDigits 56 = .ok (.aload_n 0, 1) := by decide +kernel
theorem dX12_readsDigits_57 : decode cX12_readsDigits 57 = .ok (.getfield 34, 3) := by decide +kernel
theorem dX12_readsDigits_60 : decode cX12_readsDigits 60 = .ok (.iload_n 1, 1) := by decide +kernel
theorem dX12_readsDigits_61 : decode cX12_readsDigits 61 = .ok (.iload_n 3, 1) := by decide +kernel
theorem dX12_readsDigits_62 : decode cX12_readsDigits 62 = .ok (.iastore, 1) := by decide +kernel
theorem dX12_readsDigits_63 : decode cX12_readsDigits 63 = .ok (.iconst 1, 1) := by decide +kernel
theorem dX12_readsDigits_64 : decode cX12_readsDigits 64 = .ok (.ireturn, 1) := by decide +kernel
set_option maxRecDepth 100000 in
set_option maxHeartbeats 4000000 in
theorem c_X12_readsDigits {l : Launch} {G : Gx} (hap : k_ap G shR.length) (v1 : Int32) (v2 : Int32) (M0 : Mem) (r : Int32 × Mem) (hf : f_X12_readsDigits v1 v2 M0 = some r) : k_Met l yX12_readsDigits cX12_readsDigits 5 (some .boolean) 1 22 G shR [.ref (G.2.1 0), .int v1, .int v2] M0 (k_Qi G shR r.1 r.2) := by
  refine k_Met_of (by decide) hap (Nat.le_of_ble_eq_true rfl) ?_
  intro p e s m args below meth c C hr hlk
  have C : Cx p s m args c cX12_readsDigits RX12 5 G shR := C
  have k_b5 : ∀ (n5 : Nat) (v1 : Int32) (v2 : Int32) (v3 : Int32) (v4 : Int32) (M : Mem), f_X12_readsDigits_b5 n5 v1 v2 v3 v4 M = some r → K p l e (k_rm 1 22) s m args below meth c 5 G shR (MQ below (k_Qi G shR r.1 r.2) args s 0 0 (k_A G shR.length)) 5 [(0, .ref (G.2.1 0)), (1, .int v1), (2, .int v2), (3, .int v3), (4, .int v4)] [] M := by
    intro n5
    induction n5 with
    | zero => intro v1 v2 v3 v4 M hf; simp [f_X12_readsDigits_b5] at hf
    | succ n5 ih5 =>
      intro v1 v2 v3 v4 M hf
      unfold f_X12_readsDigits_b5 at hf
      refine k_iload C dX12_readsDigits_5 4 rfl ?_
      refine k_iload_n C dX12_readsDigits_7 2 rfl ?_
      rcases ite_g hf with ⟨c1, hf⟩ | ⟨c1, hf⟩
      · refine k_icmp_ge_t C dX12_readsDigits_8 (tgt := 56) (by decide) c1 ?_
        refine k_aload_n C dX12_readsDigits_56 0 rfl ?_
        refine k_getr C shR_0 (j := 12) rfl FL_X12_34 dX12_readsDigits_57 ?_
        refine k_iload_n C dX12_readsDigits_60 1 rfl ?_
        refine k_iload_n C dX12_readsDigits_61 3 rfl ?_
        obtain ⟨M2, hM2, hf⟩ := bnd hf
        refine k_iast C shR_9 hM2 dX12_readsDigits_62 ?_
        refine k_iconst C dX12_readsDigits_63 (v := (1 : Int32)) rfl ?_
        exact k_zret C hr hlk (gZ1.trans (congrArg some (prf hf))) (prs hf) dX12_readsDigits_64
      · refine k_icmp_ge_f C dX12_readsDigits_8 (tgt := 56) (by decide) c1 ?_
        refine k_aload_n C dX12_readsDigits_11 0 rfl ?_
        obtain ⟨t3, ht3, hf⟩ := bnd hf
        refine k_callVi C (As := []) (c_X12_peeked hap M t3 ht3) ML_X12_peeked wd_1381 shR_0 rfl rfl rfl ⟨Nat.le_of_ble_eq_true rfl, Nat.le_of_ble_eq_true rfl⟩ (Nat.le_of_ble_eq_true rfl) dX12_readsDigits_12 ?_
        refine k_bipush C dX12_readsDigits_15 (v := (48 : Int32)) rfl ?_
        refine k_bipush C dX12_readsDigits_17 (v := (57 : Int32)) rfl ?_
        refine k_callSi C (As := [.int t3, .int (48 : Int32), .int (57 : Int32)]) (c_X12_isIn hap t3 (48 : Int32) (57 : Int32) M _ rfl) MS_X12_isIn wd_1393 rfl rfl ⟨Nat.le_of_ble_eq_true rfl, Nat.le_of_ble_eq_true rfl⟩ (Nat.le_of_ble_eq_true rfl) dX12_readsDigits_19 ?_
        rcases ite_g hf with ⟨c4, hf⟩ | ⟨c4, hf⟩
        · refine k_if_ne_f C dX12_readsDigits_22 (tgt := 27) (by decide) c4 ?_
          refine k_iconst C dX12_readsDigits_25 (v := (0 : Int32)) rfl ?_
          exact k_zret C hr hlk (gZ0.trans (congrArg some (prf hf))) (prs hf) dX12_readsDigits_26
        · refine k_if_ne_t C dX12_readsDigits_22 (tgt := 27) (by decide) c4 ?_
          refine k_bipush C dX12_readsDigits_27 (v := (10 : Int32)) rfl ?_
          refine k_iload_n C dX12_readsDigits_29 3 rfl ?_
          refine k_imul C dX12_readsDigits_30 ?_
          refine k_aload_n C dX12_readsDigits_31 0 rfl ?_
          obtain ⟨t5, ht5, hf⟩ := bnd hf
          refine k_callVi C (As := []) (c_X12_peeked hap M t5 ht5) ML_X12_peeked wd_1381 shR_0 rfl rfl rfl ⟨Nat.le_of_ble_eq_true rfl, Nat.le_of_ble_eq_true rfl⟩ (Nat.le_of_ble_eq_true rfl) dX12_readsDigits_32 ?_
          refine k_iadd C dX12_readsDigits_35 ?_
          refine k_bipush C dX12_readsDigits_36 (v := (48 : Int32)) rfl ?_
          refine k_isub C dX12_readsDigits_38 ?_
          refine k_istore_n C dX12_readsDigits_39 (by decide) [1, 2, 3, 0, 4] (lv' := [(0, .ref (G.2.1 0)), (1, .int v1), (2, .int v2), (3, .int ((((10 : Int32) * v3) + t5) - (48 : Int32))), (4, .int v4)]) rfl ?_
          refine k_aload_n C dX12_readsDigits_40 0 rfl ?_
          refine k_dup C dX12_readsDigits_41 rfl ?_
          refine k_geti C shR_0 (j := 14) rfl FL_X12_79 dX12_readsDigits_42 ?_
          refine k_iconst C dX12_readsDigits_45 (v := (1 : Int32)) rfl ?_
          refine k_iadd C dX12_readsDigits_46 ?_
          refine k_put C shR_0 (j := 14) rfl FL_X12_79 FW_X12_14 dX12_readsDigits_47 ?_
          refine k_iinc C dX12_readsDigits_50 4 rfl (v := (v4 + (1 : Int32))) rfl (by decide) [1, 2, 3, 4, 0] (lv' := [(0, .ref (G.2.1 0)), (1, .int v1), (2, .int v2), (3, .int ((((10 : Int32) * v3) + t5) - (48 : Int32))), (4, .int (v4 + (1 : Int32)))]) rfl ?_
          refine k_goto C dX12_readsDigits_53 (tgt := 5) (by decide) ?_
          exact ih5 v1 v2 ((((10 : Int32) * v3) + t5) - (48 : Int32)) (v4 + (1 : Int32)) (wI M 0 14 ((M.1 0 14) + (1 : Int32))) hf
  unfold f_X12_readsDigits at hf
  refine k_lv (lv' := [(0, .ref (G.2.1 0)), (1, .int v1), (2, .int v2)]) [0, 1, 2] rfl ?_
  refine k_iconst C dX12_readsDigits_0 (v := (0 : Int32)) rfl ?_
  refine k_istore_n C dX12_readsDigits_1 (by decide) [1, 2, 3, 0] (lv' := [(0, .ref (G.2.1 0)), (1, .int v1), (2, .int v2), (3, .int (0 : Int32))]) rfl ?_
  refine k_iconst C dX12_readsDigits_2 (v := (0 : Int32)) rfl ?_
  refine k_istore C dX12_readsDigits_3 (by decide) [1, 2, 3, 4, 0] (lv' := [(0, .ref (G.2.1 0)), (1, .int v1), (2, .int v2), (3, .int (0 : Int32)), (4, .int (0 : Int32))]) rfl ?_
  exact k_b5 FU v1 v2 (0 : Int32) (0 : Int32) M0 hf
theorem dX12_readsAll_0 : decode cX12_readsAll 0 = .ok (.iload_n 1, 1) := by decide +kernel
theorem dX12_readsAll_1 : decode cX12_readsAll 1 = .ok (.lookupswitch 81 #[(100, 35), (111, 72), (120, 79)], 35) := by decide +kernel
theorem dX12_readsAll_36 : decode cX12_readsAll 36 = .ok (.aload_n 0, 1) := by decide +kernel
theorem dX12_readsAll_37 : decode cX12_readsAll 37 = .ok (.iload_n 2, 1) := by decide +kernel
theorem dX12_readsAll_38 : decode cX12_readsAll 38 = .ok (.iconst 1, 1) := by decide +kernel
theorem dX12_readsAll_39 : decode cX12_readsAll 39 = .ok (.invokevirtual 90, 3) := by decide +kernel
theorem dX12_readsAll_42 : decode cX12_readsAll 42 = .ok (.ifCond .eq 29, 3) := by decide +kernel
theorem dX12_readsAll_45 : decode cX12_readsAll 45 = .ok (.aload_n 0, 1) := by decide +kernel
theorem dX12_readsAll_46 : decode cX12_readsAll 46 = .ok (.iload_n 2, 1) := by decide +kernel
theorem dX12_readsAll_47 : decode cX12_readsAll 47 = .ok (.iconst 1, 1) := by decide +kernel
theorem dX12_readsAll_48 : decode cX12_readsAll 48 = .ok (.iadd, 1) := by decide +kernel
theorem dX12_readsAll_49 : decode cX12_readsAll 49 = .ok (.iconst 1, 1) := by decide +kernel
theorem dX12_readsAll_50 : decode cX12_readsAll 50 = .ok (.invokevirtual 90, 3) := by decide +kernel
theorem dX12_readsAll_53 : decode cX12_readsAll 53 = .ok (.ifCond .eq 18, 3) := by decide +kernel
theorem dX12_readsAll_56 : decode cX12_readsAll 56 = .ok (.aload_n 0, 1) := by decide +kernel
theorem dX12_readsAll_57 : decode cX12_readsAll 57 = .ok (.iload_n 2, 1) := by decide +kernel
theorem dX12_readsAll_58 : decode cX12_readsAll 58 = .ok (.iconst 2, 1) := by decide +kernel
theorem dX12_readsAll_59 : decode cX12_readsAll 59 = .ok (.iadd, 1) := by decide +kernel
theorem dX12_readsAll_60 : decode cX12_readsAll 60 = .ok (.iconst 3, 1) := by decide +kernel
theorem dX12_readsAll_61 : decode cX12_readsAll 61 = .ok (.invokevirtual 90, 3) := by decide +kernel
theorem dX12_readsAll_64 : decode cX12_readsAll 64 = .ok (.ifCond .eq 7, 3) := by decide +kernel
theorem dX12_readsAll_67 : decode cX12_readsAll 67 = .ok (.iconst 1, 1) := by decide +kernel
theorem dX12_readsAll_68 : decode cX12_readsAll 68 = .ok (.goto 4, 3) := by decide +kernel
theorem dX12_readsAll_71 : decode cX12_readsAll 71 = .ok (.iconst 0, 1) := by decide +kernel
theorem dX12_readsAll_72 : decode cX12_readsAll 72 = .ok (.ireturn, 1) := by decide +kernel
theorem dX12_readsAll_73 : decode cX12_readsAll 73 = .ok (.aload_n 0, 1) := by decide +kernel
theorem dX12_readsAll_74 : decode cX12_readsAll 74 = .ok (.iload_n 2, 1) := by decide +kernel
theorem dX12_readsAll_75 : decode cX12_readsAll 75 = .ok (.iconst 1, 1) := by decide +kernel
theorem dX12_readsAll_76 : decode cX12_readsAll 76 = .ok (.invokevirtual 90, 3) := by decide +kernel
theorem dX12_readsAll_79 : decode cX12_readsAll 79 = .ok (.ireturn, 1) := by decide +kernel
theorem dX12_readsAll_80 : decode cX12_readsAll 80 = .ok (.iconst 1, 1) := by decide +kernel
theorem dX12_readsAll_81 : decode cX12_readsAll 81 = .ok (.ireturn, 1) := by decide +kernel
theorem dX12_readsAll_82 : decode cX12_readsAll 82 = .ok (.aload_n 0, 1) := by decide +kernel
theorem dX12_readsAll_83 : decode cX12_readsAll 83 = .ok (.iload_n 2, 1) := by decide +kernel
theorem dX12_readsAll_84 : decode cX12_readsAll 84 = .ok (.iconst 1, 1) := by decide +kernel
theorem dX12_readsAll_85 : decode cX12_readsAll 85 = .ok (.invokevirtual 90, 3) := by decide +kernel
theorem dX12_readsAll_88 : decode cX12_readsAll 88 = .ok (.ifCond .eq 18, 3) := by decide +kernel
theorem dX12_readsAll_91 : decode cX12_readsAll 91 = .ok (.aload_n 0, 1) := by decide +kernel
theorem dX12_readsAll_92 : decode cX12_readsAll 92 = .ok (.iload_n 2, 1) := by decide +kernel
theorem dX12_readsAll_93 : decode cX12_readsAll 93 = .ok (.iconst 1, 1) := by decide +kernel
theorem dX12_readsAll_94 : decode cX12_readsAll 94 = .ok (.iadd, 1) := by decide +kernel
theorem dX12_readsAll_95 : decode cX12_readsAll 95 = .ok (.iconst 1, 1) := by decide +kernel
theorem dX12_readsAll_96 : decode cX12_readsAll 96 = .ok (.invokevirtual 90, 3) := by decide +kernel
theorem dX12_readsAll_99 : decode cX12_readsAll 99 = .ok (.ifCond .eq 7, 3) := by decide +kernel
theorem dX12_readsAll_102 : decode cX12_readsAll 102 = .ok (.iconst 1, 1) := by decide +kernel
theorem dX12_readsAll_103 : decode cX12_readsAll 103 = .ok (.goto 4, 3) := by decide +kernel
theorem dX12_readsAll_106 : decode cX12_readsAll 106 = .ok (.iconst 0, 1) := by decide +kernel
theorem dX12_readsAll_107 : decode cX12_readsAll 107 = .ok (.ireturn, 1) := by decide +kernel
set_option maxRecDepth 100000 in
set_option maxHeartbeats 4000000 in
theorem c_X12_readsAll {l : Launch} {G : Gx} (hap : k_ap G shR.length) (v1 : Int32) (v2 : Int32) (M0 : Mem) (r : Int32 × Mem) (hf : f_X12_readsAll v1 v2 M0 = some r) : k_Met l yX12_readsAll cX12_readsAll 3 (some .boolean) 2 46 G shR [.ref (G.2.1 0), .int v1, .int v2] M0 (k_Qi G shR r.1 r.2) := by
  refine k_Met_of (by decide) hap (Nat.le_of_ble_eq_true rfl) ?_
  intro p e s m args below meth c C hr hlk
  have C : Cx p s m args c cX12_readsAll RX12 3 G shR := C
  unfold f_X12_readsAll at hf
  refine k_lv (lv' := [(0, .ref (G.2.1 0)), (1, .int v1), (2, .int v2)]) [0, 1, 2] rfl ?_
  refine k_iload_n C dX12_readsAll_0 1 rfl ?_
  rcases ite_g hf with ⟨c1, hf⟩ | ⟨c1, hf⟩
  · refine k_lookup C dX12_readsAll_1 (tgt := 36) (off := 35) (by decide) (by first | (rw [c1]; done) | (rw [c1]; decide)) (by decide) ?_
    refine k_aload_n C dX12_readsAll_36 0 rfl ?_
    refine k_iload_n C dX12_readsAll_37 2 rfl ?_
    refine k_iconst C dX12_readsAll_38 (v := (1 : Int32)) rfl ?_
    obtain ⟨⟨t2, M2⟩, ht2, hf⟩ := bnd hf
    replace hf := bp_s hf
    refine k_callVi C (As := [.int v2, .int (1 : Int32)]) (c_X12_readsDigits hap v2 (1 : Int32) M0 (t2, M2) ht2) ML_X12_readsDigits wd_1389 shR_0 rfl rfl rfl ⟨Nat.le_of_ble_eq_true rfl, Nat.le_of_ble_eq_true rfl⟩ (Nat.le_of_ble_eq_true rfl) dX12_readsAll_39 ?_
    rcases ite_g hf with ⟨c3, hf⟩ | ⟨c3, hf⟩
    · refine k_if_eq_t C dX12_readsAll_42 (tgt := 71) (by decide) c3 ?_
      refine k_iconst C dX12_readsAll_71 (v := (0 : Int32)) rfl ?_
      exact k_zret C hr hlk (gZ0.trans (congrArg some (prf hf))) (prs hf) dX12_readsAll_72
    · refine k_if_eq_f C dX12_readsAll_42 (tgt := 71) (by decide) c3 ?_
      refine k_aload_n C dX12_readsAll_45 0 rfl ?_
      refine k_iload_n C dX12_readsAll_46 2 rfl ?_
      refine k_iconst C dX12_readsAll_47 (v := (1 : Int32)) rfl ?_
      refine k_iadd C dX12_readsAll_48 ?_
      refine k_iconst C dX12_readsAll_49 (v := (1 : Int32)) rfl ?_
      obtain ⟨⟨t4, M4⟩, ht4, hf⟩ := bnd hf
      replace hf := bp_s hf
      refine k_callVi C (As := [.int (v2 + (1 : Int32)), .int (1 : Int32)]) (c_X12_readsDigits hap (v2 + (1 : Int32)) (1 : Int32) M2 (t4, M4) ht4) ML_X12_readsDigits wd_1389 shR_0 rfl rfl rfl ⟨Nat.le_of_ble_eq_true rfl, Nat.le_of_ble_eq_true rfl⟩ (Nat.le_of_ble_eq_true rfl) dX12_readsAll_50 ?_
      rcases ite_g hf with ⟨c5, hf⟩ | ⟨c5, hf⟩
      · refine k_if_eq_t C dX12_readsAll_53 (tgt := 71) (by decide) c5 ?_
        refine k_iconst C dX12_readsAll_71 (v := (0 : Int32)) rfl ?_
        exact k_zret C hr hlk (gZ0.trans (congrArg some (prf hf))) (prs hf) dX12_readsAll_72
      · refine k_if_eq_f C dX12_readsAll_53 (tgt := 71) (by decide) c5 ?_
        refine k_aload_n C dX12_readsAll_56 0 rfl ?_
        refine k_iload_n C dX12_readsAll_57 2 rfl ?_
        refine k_iconst C dX12_readsAll_58 (v := (2 : Int32)) rfl ?_
        refine k_iadd C dX12_readsAll_59 ?_
        refine k_iconst C dX12_readsAll_60 (v := (3 : Int32)) rfl ?_
        obtain ⟨⟨t6, M6⟩, ht6, hf⟩ := bnd hf
        replace hf := bp_s hf
        refine k_callVi C (As := [.int (v2 + (2 : Int32)), .int (3 : Int32)]) (c_X12_readsDigits hap (v2 + (2 : Int32)) (3 : Int32) M4 (t6, M6) ht6) ML_X12_readsDigits wd_1389 shR_0 rfl rfl rfl ⟨Nat.le_of_ble_eq_true rfl, Nat.le_of_ble_eq_true rfl⟩ (Nat.le_of_ble_eq_true rfl) dX12_readsAll_61 ?_
        rcases ite_g hf with ⟨c7, hf⟩ | ⟨c7, hf⟩
        · refine k_if_eq_t C dX12_readsAll_64 (tgt := 71) (by decide) c7 ?_
          refine k_iconst C dX12_readsAll_71 (v := (0 : Int32)) rfl ?_
          exact k_zret C hr hlk (gZ0.trans (congrArg some (prf hf))) (prs hf) dX12_readsAll_72
        · refine k_if_eq_f C dX12_readsAll_64 (tgt := 71) (by decide) c7 ?_
          refine k_iconst C dX12_readsAll_67 (v := (1 : Int32)) rfl ?_
          refine k_goto C dX12_readsAll_68 (tgt := 72) (by decide) ?_
          exact k_zret C hr hlk (gZ1.trans (congrArg some (prf hf))) (prs hf) dX12_readsAll_72
  · rcases ite_g hf with ⟨c8, hf⟩ | ⟨c8, hf⟩
    · refine k_lookup C dX12_readsAll_1 (tgt := 73) (off := 72) (by decide) (by first | (rw [c8]; done) | (rw [c8]; decide)) (by decide) ?_
      refine k_aload_n C dX12_readsAll_73 0 rfl ?_
      refine k_iload_n C dX12_readsAll_74 2 rfl ?_
      refine k_iconst C dX12_readsAll_75 (v := (1 : Int32)) rfl ?_
      obtain ⟨⟨t9, M9⟩, ht9, hf⟩ := bnd hf
      replace hf := bp_s hf
      refine k_callVi C (As := [.int v2, .int (1 : Int32)]) (c_X12_readsDigits hap v2 (1 : Int32) M0 (t9, M9) ht9) ML_X12_readsDigits wd_1389 shR_0 rfl rfl rfl ⟨Nat.le_of_ble_eq_true rfl, Nat.le_of_ble_eq_true rfl⟩ (Nat.le_of_ble_eq_true rfl) dX12_readsAll_76 ?_
      obtain ⟨t10, ht10, hf⟩ := bnd hf
      exact k_zret C hr hlk (ht10.trans (congrArg some (prf hf))) (prs hf) dX12_readsAll_79
    · rcases ite_g hf with ⟨c11, hf⟩ | ⟨c11, hf⟩
      · refine k_lookup C dX12_readsAll_1 (tgt := 80) (off := 79) (by decide) (by first | (rw [c11]; done) | (rw [c11]; decide)) (by decide) ?_
        refine k_iconst C dX12_readsAll_80 (v := (1 : Int32)) rfl ?_
        exact k_zret C hr hlk (gZ1.trans (congrArg some (prf hf))) (prs hf) dX12_readsAll_81
      · have hqc1 : (v1 : Int32).toInt ≠ 100 := i_ne2 c1 (by decide)
        have hqc8 : (v1 : Int32).toInt ≠ 111 := i_ne2 c8 (by decide)
        have hqc11 : (v1 : Int32).toInt ≠ 120 := i_ne2 c11 (by decide)
        refine k_lookup C dX12_readsAll_1 (tgt := 82) (off := 81) (by decide) (by simp only [Op.lookupswitch.offset]; rw [if_neg (Ne.symm hqc1), if_neg (Ne.symm hqc8), if_neg (Ne.symm hqc11)]) (by decide) ?_
        refine k_aload_n C dX12_readsAll_82 0 rfl ?_
        refine k_iload_n C dX12_readsAll_83 2 rfl ?_
        refine k_iconst C dX12_readsAll_84 (v := (1 : Int32)) rfl ?_
        obtain ⟨⟨t12, M12⟩, ht12, hf⟩ := bnd hf
        replace hf := bp_s hf
        refine k_callVi C (As := [.int v2, .int (1 : Int32)]) (c_X12_readsDigits hap v2 (1 : Int32) M0 (t12, M12) ht12) ML_X12_readsDigits wd_1389 shR_0 rfl rfl rfl ⟨Nat.le_of_ble_eq_true rfl, Nat.le_of_ble_eq_true rfl⟩ (Nat.le_of_ble_eq_true rfl) dX12_readsAll_85 ?_
        rcases ite_g hf with ⟨c13, hf⟩ | ⟨c13, hf⟩
        · refine k_if_eq_t C dX12_readsAll_88 (tgt := 106) (by decide) c13 ?_
          refine k_iconst C dX12_readsAll_106 (v := (0 : Int32)) rfl ?_
          exact k_zret C hr hlk (gZ0.trans (congrArg some (prf hf))) (prs hf) dX12_readsAll_107
        · refine k_if_eq_f C dX12_readsAll_88 (tgt := 106) (by decide) c13 ?_
          refine k_aload_n C dX12_readsAll_91 0 rfl ?_
          refine k_iload_n C dX12_readsAll_92 2 rfl ?_
          refine k_iconst C dX12_readsAll_93 (v := (1 : Int32)) rfl ?_
          refine k_iadd C dX12_readsAll_94 ?_
          refine k_iconst C dX12_readsAll_95 (v := (1 : Int32)) rfl ?_
          obtain ⟨⟨t14, M14⟩, ht14, hf⟩ := bnd hf
          replace hf := bp_s hf
          refine k_callVi C (As := [.int (v2 + (1 : Int32)), .int (1 : Int32)]) (c_X12_readsDigits hap (v2 + (1 : Int32)) (1 : Int32) M12 (t14, M14) ht14) ML_X12_readsDigits wd_1389 shR_0 rfl rfl rfl ⟨Nat.le_of_ble_eq_true rfl, Nat.le_of_ble_eq_true rfl⟩ (Nat.le_of_ble_eq_true rfl) dX12_readsAll_96 ?_
          rcases ite_g hf with ⟨c15, hf⟩ | ⟨c15, hf⟩
          · refine k_if_eq_t C dX12_readsAll_99 (tgt := 106) (by decide) c15 ?_
            refine k_iconst C dX12_readsAll_106 (v := (0 : Int32)) rfl ?_
            exact k_zret C hr hlk (gZ0.trans (congrArg some (prf hf))) (prs hf) dX12_readsAll_107
          · refine k_if_eq_f C dX12_readsAll_99 (tgt := 106) (by decide) c15 ?_
            refine k_iconst C dX12_readsAll_102 (v := (1 : Int32)) rfl ?_
            refine k_goto C dX12_readsAll_103 (tgt := 107) (by decide) ?_
            exact k_zret C hr hlk (gZ1.trans (congrArg some (prf hf))) (prs hf) dX12_readsAll_107
theorem dX12_statement_0 : decode cX12_statement 0 = .ok (.aload_n 0, 1) := by decide +kernel
theorem dX12_statement_1 : decode cX12_statement 1 = .ok (.invokevirtual 82, 3) := by decide +kernel
theorem dX12_statement_4 : decode cX12_statement 4 = .ok (.istore_n 1, 1) := by decide +kernel
theorem dX12_statement_5 : decode cX12_statement 5 = .ok (.iload_n 1, 1) := by decide +kernel
theorem dX12_statement_6 : decode cX12_statement 6 = .ok (.bipush 100, 2) := by decide +kernel
theorem dX12_statement_8 : decode cX12_statement 8 = .ok (.if_icmp .eq 29, 3) := by decide +kernel
theorem dX12_statement_11 : decode cX12_statement 11 = .ok (.iload_n 1, 1) := by decide +kernel
theorem dX12_statement_12 : decode cX12_statement 12 = .ok (.bipush 111, 2) := by decide +kernel
theorem dX12_statement_14 : decode cX12_statement 14 = .ok (.if_icmp .eq 23, 3) := by decide +kernel
theorem dX12_statement_17 : decode cX12_statement 17 = .ok (.iload_n 1, 1) := by decide +kernel
theorem dX12_statement_18 : decode cX12_statement 18 = .ok (.bipush 108, 2) := by decide +kernel
theorem dX12_statement_20 : decode cX12_statement 20 = .ok (.if_icmp .eq 17, 3) := by decide +kernel
theorem dX12_statement_23 : decode cX12_statement 23 = .ok (.iload_n 1, 1) := by decide +kernel
theorem dX12_statement_24 : decode cX12_statement 24 = .ok (.bipush 109, 2) := by decide +kernel
theorem dX12_statement_26 : decode cX12_statement 26 = .ok (.if_icmp .eq 11, 3) := by decide +kernel
theorem dX12_statement_29 : decode cX12_statement 29 = .ok (.iload_n 1, 1) := by decide +kernel
theorem dX12_statement_30 : decode cX12_statement 30 = .ok (.bipush 120, 2) := by decide +kernel
theorem dX12_statement_32 : decode cX12_statement 32 = .ok (.if_icmp .eq 5, 3) := by decide +kernel
theorem dX12_statement_35 : decode cX12_statement 35 = .ok (.iconst 0, 1) := by decide +kernel
theorem dX12_statement_36 : decode cX12_statement 36 = .ok (.ireturn, 1) := by decide +kernel
theorem dX12_statement_37 : decode cX12_statement 37 = .ok (.aload_n 0, 1) := by decide +kernel
theorem dX12_statement_38 : decode cX12_statement 38 = .ok (.getfield 28, 3) := by decide +kernel
theorem dX12_statement_41 : decode cX12_statement 41 = .ok (.aload_n 0, 1) := by decide +kernel
theorem dX12_statement_42 : decode cX12_statement 42 = .ok (.getfield 94, 3) := by decide +kernel
theorem dX12_statement_45 : decode cX12_statement 45 = .ok (.iload_n 1, 1) := by decide +kernel
theorem dX12_statement_46 : decode cX12_statement 46 = .ok (.iastore, 1) := by decide +kernel
theorem dX12_statement_47 : decode cX12_statement 47 = .ok (.aload_n 0, 1) := by decide +kernel
theorem dX12_statement_48 : decode cX12_statement 48 = .ok (.getfield 31, 3) := by decide +kernel
theorem dX12_statement_51 : decode cX12_statement 51 = .ok (.aload_n 0, 1) := by decide +kernel
theorem dX12_statement_52 : decode cX12_statement 52 = .ok (.getfield 94, 3) := by decide +kernel
theorem dX12_statement_55 : decode cX12_statement 55 = .ok (.aload_n 0, 1) := by decide +kernel
theorem dX12_statement_56 : decode cX12_statement 56 = .ok (.getfield 79, 3) := by decide +kernel
theorem dX12_statement_59 : decode cX12_statement 59 = .ok (.iastore, 1) := by decide +kernel
theorem dX12_statement_60 : decode cX12_statement 60 = .ok (.aload_n 0, 1) := by decide +kernel
theorem dX12_statement_61 : decode cX12_statement 61 = .ok (.dup, 1) := by decide +kernel
theorem dX12_statement_62 : decode cX12_statement 62 = .ok (.getfield 79, 3) := by decide +kernel
theorem dX12_statement_65 : decode cX12_statement 65 = .ok (.iconst 1, 1) := by decide +kernel
theorem dX12_statement_66 : decode cX12_statement 66 = .ok (.iadd, 1) := by decide +kernel
theorem dX12_statement_67 : decode cX12_statement 67 = .ok (.putfield 79, 3) := by decide +kernel
theorem dX12_statement_70 : decode cX12_statement 70 = .ok (.aload_n 0, 1) := by decide +kernel
theorem dX12_statement_71 : decode cX12_statement 71 = .ok (.iload_n 1, 1) := by decide +kernel
theorem dX12_statement_72 : decode cX12_statement 72 = .ok (.iconst 3, 1) := by decide +kernel
theorem dX12_statement_73 : decode cX12_statement 73 = .ok (.aload_n 0, 1) := by decide +kernel
theorem dX12_statement_74 : decode cX12_statement 74 = .ok (.getfield 94, 3) := by decide +kernel
theorem dX12_statement_77 : decode cX12_statement 77 = .ok (.imul, 1) := by decide +kernel
theorem dX12_statement_78 : decode cX12_statement 78 = .ok (.invokevirtual 97, 3) := by decide +kernel
theorem dX12_statement_81 : decode cX12_statement 81 = .ok (.ifCond .eq 12, 3) := by decide +kernel
theorem dX12_statement_84 : decode cX12_statement 84 = .ok (.aload_n 0, 1) := by decide +kernel
theorem dX12_statement_85 : decode cX12_statement 85 = .ok (.invokevirtual 82, 3) := by decide +kernel
theorem dX12_statement_88 : decode cX12_statement 88 = .ok (.bipush 59, 2) := by decide +kernel
theorem dX12_statement_90 : decode cX12_statement 90 = .ok (.if_icmp .eq 5, 3) := by decide +kernel
theorem dX12_statement_93 : decode cX12_statement 93 = .ok (.iconst 0, 1) := by decide +kernel
theorem dX12_statement_94 : decode cX12_statement 94 = .ok (.ireturn, 1) := by decide +kernel
theorem dX12_statement_95 : decode cX12_statement 95 = .ok (.aload_n 0, 1) := by decide +kernel
theorem dX12_statement_96 : decode cX12_statement 96 = .ok (.dup, 1) := by decide +kernel
theorem dX12_statement_97 : decode cX12_statement 97 = .ok (.getfield 79, 3) := by decide +kernel
theorem dX12_statement_100 : decode cX12_statement 100 = .ok (.iconst 1, 1) := by decide +kernel
theorem dX12_statement_101 : decode cX12_statement 101 = .ok (.iadd, 1) := by decide +kernel
theorem dX12_statement_102 : decode cX12_statement 102 = .ok (.putfield 79, 3) := by decide +kernel
theorem dX12_statement_105 : decode cX12_statement 105 = .ok (.iconst 1, 1) := by decide +kernel
theorem dX12_statement_106 : decode cX12_statement 106 = .ok (.ireturn, 1) := by decide +kernel
set_option maxRecDepth 100000 in
set_option maxHeartbeats 4000000 in
theorem c_X12_statement {l : Launch} {G : Gx} (hap : k_ap G shR.length) (M0 : Mem) (r : Int32 × Mem) (hf : f_X12_statement M0 = some r) : k_Met l yX12_statement cX12_statement 2 (some .boolean) 3 68 G shR [.ref (G.2.1 0)] M0 (k_Qi G shR r.1 r.2) := by
  refine k_Met_of (by decide) hap (Nat.le_of_ble_eq_true rfl) ?_
  intro p e s m args below meth c C hr hlk
  have C : Cx p s m args c cX12_statement RX12 2 G shR := C
  have k_b37 : ∀ (v1 : Int32) (M : Mem), f_X12_statement_b37 v1 M = some r → K p l e (k_rm 3 68) s m args below meth c 2 G shR (MQ below (k_Qi G shR r.1 r.2) args s 0 0 (k_A G shR.length)) 37 [(0, .ref (G.2.1 0)), (1, .int v1)] [] M := by
    intro v1 M hf
    unfold f_X12_statement_b37 at hf
    refine k_aload_n C dX12_statement_37 0 rfl ?_
    refine k_getr C shR_0 (j := 10) rfl FL_X12_28 dX12_statement_38 ?_
    refine k_aload_n C dX12_statement_41 0 rfl ?_
    refine k_geti C shR_0 (j := 15) rfl FL_X12_94 dX12_statement_42 ?_
    refine k_iload_n C dX12_statement_45 1 rfl ?_
    obtain ⟨M3, hM3, hf⟩ := bnd hf
    refine k_iast C shR_7 hM3 dX12_statement_46 ?_
    refine k_aload_n C dX12_statement_47 0 rfl ?_
    refine k_getr C shR_0 (j := 11) rfl FL_X12_31 dX12_statement_48 ?_
    refine k_aload_n C dX12_statement_51 0 rfl ?_
    refine k_geti C shR_0 (j := 15) rfl FL_X12_94 dX12_statement_52 ?_
    refine k_aload_n C dX12_statement_55 0 rfl ?_
    refine k_geti C shR_0 (j := 14) rfl FL_X12_79 dX12_statement_56 ?_
    obtain ⟨M4, hM4, hf⟩ := bnd hf
    refine k_iast C shR_8 hM4 dX12_statement_59 ?_
    refine k_aload_n C dX12_statement_60 0 rfl ?_
    refine k_dup C dX12_statement_61 rfl ?_
    refine k_geti C shR_0 (j := 14) rfl FL_X12_79 dX12_statement_62 ?_
    refine k_iconst C dX12_statement_65 (v := (1 : Int32)) rfl ?_
    refine k_iadd C dX12_statement_66 ?_
    refine k_put C shR_0 (j := 14) rfl FL_X12_79 FW_X12_14 dX12_statement_67 ?_
    refine k_aload_n C dX12_statement_70 0 rfl ?_
    refine k_iload_n C dX12_statement_71 1 rfl ?_
    refine k_iconst C dX12_statement_72 (v := (3 : Int32)) rfl ?_
    refine k_aload_n C dX12_statement_73 0 rfl ?_
    refine k_geti C shR_0 (j := 15) rfl FL_X12_94 dX12_statement_74 ?_
    refine k_imul C dX12_statement_77 ?_
    obtain ⟨⟨t5, M5⟩, ht5, hf⟩ := bnd hf
    replace hf := bp_s hf
    refine k_callVi C (As := [.int v1, .int ((3 : Int32) * ((wI M4 0 14 ((M4.1 0 14) + (1 : Int32))).1 0 15))]) (c_X12_readsAll hap v1 ((3 : Int32) * ((wI M4 0 14 ((M4.1 0 14) + (1 : Int32))).1 0 15)) (wI M4 0 14 ((M4.1 0 14) + (1 : Int32))) (t5, M5) ht5) ML_X12_readsAll wd_1385 shR_0 rfl rfl rfl ⟨Nat.le_of_ble_eq_true rfl, Nat.le_of_ble_eq_true rfl⟩ (Nat.le_of_ble_eq_true rfl) dX12_statement_78 ?_
    rcases ite_g hf with ⟨c6, hf⟩ | ⟨c6, hf⟩
    · refine k_if_eq_t C dX12_statement_81 (tgt := 93) (by decide) c6 ?_
      refine k_iconst C dX12_statement_93 (v := (0 : Int32)) rfl ?_
      exact k_zret C hr hlk (gZ0.trans (congrArg some (prf hf))) (prs hf) dX12_statement_94
    · refine k_if_eq_f C dX12_statement_81 (tgt := 93) (by decide) c6 ?_
      refine k_aload_n C dX12_statement_84 0 rfl ?_
      obtain ⟨t7, ht7, hf⟩ := bnd hf
      refine k_callVi C (As := []) (c_X12_peeked hap M5 t7 ht7) ML_X12_peeked wd_1381 shR_0 rfl rfl rfl ⟨Nat.le_of_ble_eq_true rfl, Nat.le_of_ble_eq_true rfl⟩ (Nat.le_of_ble_eq_true rfl) dX12_statement_85 ?_
      refine k_bipush C dX12_statement_88 (v := (59 : Int32)) rfl ?_
      rcases ite_g hf with ⟨c8, hf⟩ | ⟨c8, hf⟩
      · refine k_icmp_eq_t C dX12_statement_90 (tgt := 95) (by decide) c8 ?_
        refine k_aload_n C dX12_statement_95 0 rfl ?_
        refine k_dup C dX12_statement_96 rfl ?_
        refine k_geti C shR_0 (j := 14) rfl FL_X12_79 dX12_statement_97 ?_
        refine k_iconst C dX12_statement_100 (v := (1 : Int32)) rfl ?_
        refine k_iadd C dX12_statement_101 ?_
        refine k_put C shR_0 (j := 14) rfl FL_X12_79 FW_X12_14 dX12_statement_102 ?_
        refine k_iconst C dX12_statement_105 (v := (1 : Int32)) rfl ?_
        exact k_zret C hr hlk (gZ1.trans (congrArg some (prf hf))) (prs hf) dX12_statement_106
      · refine k_icmp_eq_f C dX12_statement_90 (tgt := 95) (by decide) c8 ?_
        refine k_iconst C dX12_statement_93 (v := (0 : Int32)) rfl ?_
        exact k_zret C hr hlk (gZ0.trans (congrArg some (prf hf))) (prs hf) dX12_statement_94
  unfold f_X12_statement at hf
  refine k_lv (lv' := [(0, .ref (G.2.1 0))]) [0] rfl ?_
  refine k_aload_n C dX12_statement_0 0 rfl ?_
  obtain ⟨t1, ht1, hf⟩ := bnd hf
  refine k_callVi C (As := []) (c_X12_peeked hap M0 t1 ht1) ML_X12_peeked wd_1381 shR_0 rfl rfl rfl ⟨Nat.le_of_ble_eq_true rfl, Nat.le_of_ble_eq_true rfl⟩ (Nat.le_of_ble_eq_true rfl) dX12_statement_1 ?_
  refine k_istore_n C dX12_statement_4 (by decide) [1, 0] (lv' := [(0, .ref (G.2.1 0)), (1, .int t1)]) rfl ?_
  refine k_iload_n C dX12_statement_5 1 rfl ?_
  refine k_bipush C dX12_statement_6 (v := (100 : Int32)) rfl ?_
  rcases ite_g hf with ⟨c2, hf⟩ | ⟨c2, hf⟩
  · refine k_icmp_eq_t C dX12_statement_8 (tgt := 37) (by decide) c2 ?_
    exact k_b37 t1 M0 hf
  · refine k_icmp_eq_f C dX12_statement_8 (tgt := 37) (by decide) c2 ?_
    refine k_iload_n C dX12_statement_11 1 rfl ?_
    refine k_bipush C dX12_statement_12 (v := (111 : Int32)) rfl ?_
    rcases ite_g hf with ⟨c9, hf⟩ | ⟨c9, hf⟩
    · refine k_icmp_eq_t C dX12_statement_14 (tgt := 37) (by decide) c9 ?_
      exact k_b37 t1 M0 hf
    · refine k_icmp_eq_f C dX12_statement_14 (tgt := 37) (by decide) c9 ?_
      refine k_iload_n C dX12_statement_17 1 rfl ?_
      refine k_bipush C dX12_statement_18 (v := (108 : Int32)) rfl ?_
      rcases ite_g hf with ⟨c10, hf⟩ | ⟨c10, hf⟩
      · refine k_icmp_eq_t C dX12_statement_20 (tgt := 37) (by decide) c10 ?_
        exact k_b37 t1 M0 hf
      · refine k_icmp_eq_f C dX12_statement_20 (tgt := 37) (by decide) c10 ?_
        refine k_iload_n C dX12_statement_23 1 rfl ?_
        refine k_bipush C dX12_statement_24 (v := (109 : Int32)) rfl ?_
        rcases ite_g hf with ⟨c11, hf⟩ | ⟨c11, hf⟩
        · refine k_icmp_eq_t C dX12_statement_26 (tgt := 37) (by decide) c11 ?_
          exact k_b37 t1 M0 hf
        · refine k_icmp_eq_f C dX12_statement_26 (tgt := 37) (by decide) c11 ?_
          refine k_iload_n C dX12_statement_29 1 rfl ?_
          refine k_bipush C dX12_statement_30 (v := (120 : Int32)) rfl ?_
          rcases ite_g hf with ⟨c12, hf⟩ | ⟨c12, hf⟩
          · refine k_icmp_eq_t C dX12_statement_32 (tgt := 37) (by decide) c12 ?_
            exact k_b37 t1 M0 hf
          · refine k_icmp_eq_f C dX12_statement_32 (tgt := 37) (by decide) c12 ?_
            refine k_iconst C dX12_statement_35 (v := (0 : Int32)) rfl ?_
            exact k_zret C hr hlk (gZ0.trans (congrArg some (prf hf))) (prs hf) dX12_statement_36
