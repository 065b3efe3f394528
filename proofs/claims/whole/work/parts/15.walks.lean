/-! walks, printed by a program of mine: each method meets its function -/
theorem dX11_refuse_0 : decode cX11_refuse 0 = .ok (.iload_n 1, 1) := by decide +kernel
theorem dX11_refuse_1 : decode cX11_refuse 1 = .ok (.ineg, 1) := by decide +kernel
theorem dX11_refuse_2 : decode cX11_refuse 2 = .ok (.istore_n 2, 1) := by decide +kernel
theorem dX11_refuse_3 : decode cX11_refuse 3 = .ok (.iload_n 2, 1) := by decide +kernel
theorem dX11_refuse_4 : decode cX11_refuse 4 = .ok (.ifCond .lt 22, 3) := by decide +kernel
theorem dX11_refuse_7 : decode cX11_refuse 7 = .ok (.iload_n 2, 1) := by decide +kernel
theorem dX11_refuse_8 : decode cX11_refuse 8 = .ok (.aload_n 0, 1) := by decide +kernel
theorem dX11_refuse_9 : decode cX11_refuse 9 = .ok (.getfield 99, 3) := by decide +kernel
theorem dX11_refuse_12 : decode cX11_refuse 12 = .ok (.arraylength, 1) := by decide +kernel
theorem dX11_refuse_13 : decode cX11_refuse 13 = .ok (.if_icmp .ge 13, 3) := by decide +kernel
theorem dX11_refuse_16 : decode cX11_refuse 16 = .ok (.aload_n 0, 1) := by decide +kernel
theorem dX11_refuse_17 : decode cX11_refuse 17 = .ok (.getfield 99, 3) := by decide +kernel
theorem dX11_refuse_20 : decode cX11_refuse 20 = .ok (.iload_n 2, 1) := by decide +kernel
theorem dX11_refuse_21 : decode cX11_refuse 21 = .ok (.dup2, 1) := by decide +kernel
theorem dX11_refuse_22 : decode cX11_refuse 22 = .ok (.iaload, 1) := by decide +kernel
theorem dX11_refuse_23 : decode cX11_refuse 23 = .ok (.iconst 1, 1) := by decide +kernel
theorem dX11_refuse_24 : decode cX11_refuse 24 = .ok (.iadd, 1) := by decide +kernel
theorem dX11_refuse_25 : decode cX11_refuse 25 = .ok (.iastore, 1) := by decide +kernel
theorem dX11_refuse_26 : decode cX11_refuse 26 = .ok (.iload_n 1, 1) := by decide +kernel
theorem dX11_refuse_27 : decode cX11_refuse 27 = .ok (.ireturn, 1) := by decide +kernel
set_option maxRecDepth 100000 in
set_option maxHeartbeats 4000000 in
theorem c_X11_refuse {l : Launch} {G : Gx} (hap : k_ap G shC.length) (v1 : Int32) (M0 : Mem) (r : Int32 × Mem) (hf : f_X11_refuse v1 M0 = some r) : k_Met l yX11_refuse cX11_refuse 3 (some .int) 0 0 G shC [.ref (G.2.1 0), .int v1] M0 (k_Qi G shC r.1 r.2) := by
  refine k_Met_of (by decide) hap (Nat.le_of_ble_eq_true rfl) ?_
  intro p e s m args below meth c C hr hlk
  have C : Cx p s m args c cX11_refuse RX11 3 G shC := C
  unfold f_X11_refuse at hf
  refine k_lv (lv' := [(0, .ref (G.2.1 0)), (1, .int v1)]) [0, 1] rfl ?_
  refine k_iload_n C dX11_refuse_0 1 rfl ?_
  refine k_ineg C dX11_refuse_1 ?_
  refine k_istore_n C dX11_refuse_2 (by decide) [1, 2, 0] (lv' := [(0, .ref (G.2.1 0)), (1, .int v1), (2, .int (-v1))]) rfl ?_
  refine k_iload_n C dX11_refuse_3 2 rfl ?_
  rcases ite_g hf with ⟨c1, hf⟩ | ⟨c1, hf⟩
  · refine k_if_lt_t C dX11_refuse_4 (tgt := 26) (by decide) c1 ?_
    refine k_iload_n C dX11_refuse_26 1 rfl ?_
    exact k_iret C hr hlk (prf hf) (prs hf) dX11_refuse_27
  · refine k_if_lt_f C dX11_refuse_4 (tgt := 26) (by decide) c1 ?_
    refine k_iload_n C dX11_refuse_7 2 rfl ?_
    refine k_aload_n C dX11_refuse_8 0 rfl ?_
    refine k_getr C shC_0 (j := 13) rfl FL_X11_99 dX11_refuse_9 ?_
    refine k_alen C shC_43 dX11_refuse_12 ?_
    rcases ite_g hf with ⟨c2, hf⟩ | ⟨c2, hf⟩
    · refine k_icmp_ge_t C dX11_refuse_13 (tgt := 26) (by decide) c2 ?_
      refine k_iload_n C dX11_refuse_26 1 rfl ?_
      exact k_iret C hr hlk (prf hf) (prs hf) dX11_refuse_27
    · refine k_icmp_ge_f C dX11_refuse_13 (tgt := 26) (by decide) c2 ?_
      refine k_aload_n C dX11_refuse_16 0 rfl ?_
      refine k_getr C shC_0 (j := 13) rfl FL_X11_99 dX11_refuse_17 ?_
      refine k_iload_n C dX11_refuse_20 2 rfl ?_
      refine k_dup2 C dX11_refuse_21 rfl rfl ?_
      obtain ⟨t3, ht3, hf⟩ := bnd hf
      refine k_iald C shC_43 ht3 dX11_refuse_22 ?_
      refine k_iconst C dX11_refuse_23 (v := (1 : Int32)) rfl ?_
      refine k_iadd C dX11_refuse_24 ?_
      obtain ⟨M4, hM4, hf⟩ := bnd hf
      refine k_iast C shC_43 hM4 dX11_refuse_25 ?_
      refine k_iload_n C dX11_refuse_26 1 rfl ?_
      exact k_iret C hr hlk (prf hf) (prs hf) dX11_refuse_27
theorem dX11_feed_0 : decode cX11_feed 0 = .ok (.iload_n 1, 1) := by decide +kernel
theorem dX11_feed_1 : decode cX11_feed 1 = .ok (.ifCond .ge 10, 3) := by decide +kernel
theorem dX11_feed_4 : decode cX11_feed 4 = .ok (.aload_n 0, 1) := by decide +kernel
theorem dX11_feed_5 : decode cX11_feed 5 = .ok (.bipush (-4), 2) := by decide +kernel
theorem dX11_feed_7 : decode cX11_feed 7 = .ok (.invokevirtual 103, 3) := by decide +kernel
theorem dX11_feed_10 : decode cX11_feed 10 = .ok (.ireturn, 1) := by decide +kernel
theorem dX11_feed_11 : decode cX11_feed 11 = .ok (.iload_n 1, 1) := by decide +kernel
theorem dX11_feed_12 : decode cX11_feed 12 = .ok (.sipush 255, 3) := by decide +kernel
theorem dX11_feed_15 : decode cX11_feed 15 = .ok (.if_icmp .gt 15, 3) := by decide +kernel
theorem dX11_feed_18 : decode cX11_feed 18 = .ok (.aload_n 0, 1) := by decide +kernel
theorem dX11_feed_19 : decode cX11_feed 19 = .ok (.getfield 33, 3) := by decide +kernel
theorem dX11_feed_22 : decode cX11_feed 22 = .ok (.getfield 107, 3) := by decide +kernel
theorem dX11_feed_25 : decode cX11_feed 25 = .ok (.bipush 96, 2) := by decide +kernel
theorem dX11_feed_27 : decode cX11_feed 27 = .ok (.if_icmp .lt 10, 3) := by decide +kernel
theorem dX11_feed_30 : decode cX11_feed 30 = .ok (.aload_n 0, 1) := by decide +kernel
theorem dX11_feed_31 : decode cX11_feed 31 = .ok (.bipush (-6), 2) := by decide +kernel
theorem dX11_feed_33 : decode cX11_feed 33 = .ok (.invokevirtual 103, 3) := by decide +kernel
theorem dX11_feed_36 : decode cX11_feed 36 = .ok (.ireturn, 1) := by decide +kernel
theorem dX11_feed_37 : decode cX11_feed 37 = .ok (.aload_n 0, 1) := by decide +kernel
theorem dX11_feed_38 : decode cX11_feed 38 = .ok (.getfield 33, 3) := by decide +kernel
theorem dX11_feed_41 : decode cX11_feed 41 = .ok (.iload_n 1, 1) := by decide +kernel
theorem dX11_feed_42 : decode cX11_feed 42 = .ok (.invokevirtual 111, 3) := by decide +kernel
theorem dX11_feed_45 : decode cX11_feed 45 = .ok (.ireturn, 1) := by decide +kernel
set_option maxRecDepth 100000 in
set_option maxHeartbeats 4000000 in
theorem c_X11_feed {l : Launch} {G : Gx} (hap : k_ap G shC.length) (v1 : Int32) (M0 : Mem) (r : Int32 × Mem) (hf : f_X11_feed v1 M0 = some r) : k_Met l yX11_feed cX11_feed 2 (some .int) 1 22 G shC [.ref (G.2.1 0), .int v1] M0 (k_Qi G shC r.1 r.2) := by
  refine k_Met_of (by decide) hap (Nat.le_of_ble_eq_true rfl) ?_
  intro p e s m args below meth c C hr hlk
  have C : Cx p s m args c cX11_feed RX11 2 G shC := C
  unfold f_X11_feed at hf
  refine k_lv (lv' := [(0, .ref (G.2.1 0)), (1, .int v1)]) [0, 1] rfl ?_
  refine k_iload_n C dX11_feed_0 1 rfl ?_
  rcases ite_g hf with ⟨c1, hf⟩ | ⟨c1, hf⟩
  · refine k_if_ge_t C dX11_feed_1 (tgt := 11) (by decide) c1 ?_
    refine k_iload_n C dX11_feed_11 1 rfl ?_
    refine k_sipush C dX11_feed_12 (v := (255 : Int32)) rfl ?_
    rcases ite_g hf with ⟨c2, hf⟩ | ⟨c2, hf⟩
    · refine k_icmp_gt_t C dX11_feed_15 (tgt := 30) (by decide) c2 ?_
      refine k_aload_n C dX11_feed_30 0 rfl ?_
      refine k_bipush C dX11_feed_31 (v := (-6 : Int32)) rfl ?_
      obtain ⟨⟨t3, M3⟩, ht3, hf⟩ := bnd hf
      replace hf := bp_s hf
      refine k_callVi C (As := [.int (-6 : Int32)]) (c_X11_refuse hap (-6 : Int32) M0 (t3, M3) ht3) ML_X11_refuse wd_421 shC_0 rfl rfl rfl ⟨Nat.le_of_ble_eq_true rfl, Nat.le_of_ble_eq_true rfl⟩ (Nat.le_of_ble_eq_true rfl) dX11_feed_33 ?_
      exact k_iret C hr hlk (prf hf) (prs hf) dX11_feed_36
    · refine k_icmp_gt_f C dX11_feed_15 (tgt := 30) (by decide) c2 ?_
      refine k_aload_n C dX11_feed_18 0 rfl ?_
      refine k_getr C shC_0 (j := 4) rfl FL_X11_33 dX11_feed_19 ?_
      refine k_geti C shC_16 (j := 2) rfl FL_X11_107 dX11_feed_22 ?_
      refine k_bipush C dX11_feed_25 (v := (96 : Int32)) rfl ?_
      rcases ite_g hf with ⟨c4, hf⟩ | ⟨c4, hf⟩
      · refine k_icmp_lt_t C dX11_feed_27 (tgt := 37) (by decide) c4 ?_
        refine k_aload_n C dX11_feed_37 0 rfl ?_
        refine k_getr C shC_0 (j := 4) rfl FL_X11_33 dX11_feed_38 ?_
        refine k_iload_n C dX11_feed_41 1 rfl ?_
        obtain ⟨⟨t5, M5⟩, ht5, hf⟩ := bnd hf
        replace hf := bp_s hf
        refine k_callVi C (As := [.int v1]) (c_X1_add hap v1 M0 (t5, M5) ht5) ML_X1_add wd_425 shC_16 rfl rfl rfl ⟨Nat.le_of_ble_eq_true rfl, Nat.le_of_ble_eq_true rfl⟩ (Nat.le_of_ble_eq_true rfl) dX11_feed_42 ?_
        exact k_iret C hr hlk (prf hf) (prs hf) dX11_feed_45
      · refine k_icmp_lt_f C dX11_feed_27 (tgt := 37) (by decide) c4 ?_
        refine k_aload_n C dX11_feed_30 0 rfl ?_
        refine k_bipush C dX11_feed_31 (v := (-6 : Int32)) rfl ?_
        obtain ⟨⟨t6, M6⟩, ht6, hf⟩ := bnd hf
        replace hf := bp_s hf
        refine k_callVi C (As := [.int (-6 : Int32)]) (c_X11_refuse hap (-6 : Int32) M0 (t6, M6) ht6) ML_X11_refuse wd_421 shC_0 rfl rfl rfl ⟨Nat.le_of_ble_eq_true rfl, Nat.le_of_ble_eq_true rfl⟩ (Nat.le_of_ble_eq_true rfl) dX11_feed_33 ?_
        exact k_iret C hr hlk (prf hf) (prs hf) dX11_feed_36
  · refine k_if_ge_f C dX11_feed_1 (tgt := 11) (by decide) c1 ?_
    refine k_aload_n C dX11_feed_4 0 rfl ?_
    refine k_bipush C dX11_feed_5 (v := (-4 : Int32)) rfl ?_
    obtain ⟨⟨t7, M7⟩, ht7, hf⟩ := bnd hf
    replace hf := bp_s hf
    refine k_callVi C (As := [.int (-4 : Int32)]) (c_X11_refuse hap (-4 : Int32) M0 (t7, M7) ht7) ML_X11_refuse wd_421 shC_0 rfl rfl rfl ⟨Nat.le_of_ble_eq_true rfl, Nat.le_of_ble_eq_true rfl⟩ (Nat.le_of_ble_eq_true rfl) dX11_feed_7 ?_
    exact k_iret C hr hlk (prf hf) (prs hf) dX11_feed_10
theorem dX11_state_0 : decode cX11_state 0 = .ok (.aload_n 0, 1) := by decide +kernel
theorem dX11_state_1 : decode cX11_state 1 = .ok (.getfield 33, 3) := by decide +kernel
theorem dX11_state_4 : decode cX11_state 4 = .ok (.aload_n 0, 1) := by decide +kernel
theorem dX11_state_5 : decode cX11_state 5 = .ok (.getfield 12, 3) := by decide +kernel
theorem dX11_state_8 : decode cX11_state 8 = .ok (.invokevirtual 114, 3) := by decide +kernel
theorem dX11_state_11 : decode cX11_state 11 = .ok (.istore_n 1, 1) := by decide +kernel
theorem dX11_state_12 : decode cX11_state 12 = .ok (.iload_n 1, 1) := by decide +kernel
theorem dX11_state_13 : decode cX11_state 13 = .ok (.ifCond .lt 10, 3) := by decide +kernel
theorem dX11_state_16 : decode cX11_state 16 = .ok (.aload_n 0, 1) := by decide +kernel
theorem dX11_state_17 : decode cX11_state 17 = .ok (.getfield 26, 3) := by decide +kernel
theorem dX11_state_20 : decode cX11_state 20 = .ok (.invokevirtual 118, 3) := by decide +kernel
theorem dX11_state_23 : decode cX11_state 23 = .ok (.iload_n 1, 1) := by decide +kernel
theorem dX11_state_24 : decode cX11_state 24 = .ok (.ireturn, 1) := by decide +kernel
set_option maxRecDepth 100000 in
set_option maxHeartbeats 4000000 in
theorem c_X11_state {l : Launch} {G : Gx} (hap : k_ap G shC.length) (M0 : Mem) (r : Int32 × Mem) (hf : f_X11_state M0 = some r) : k_Met l yX11_state cX11_state 2 (some .int) 6 140 G shC [.ref (G.2.1 0)] M0 (k_Qi G shC r.1 r.2) := by
  refine k_Met_of (by decide) hap (Nat.le_of_ble_eq_true rfl) ?_
  intro p e s m args below meth c C hr hlk
  have C : Cx p s m args c cX11_state RX11 2 G shC := C
  unfold f_X11_state at hf
  refine k_lv (lv' := [(0, .ref (G.2.1 0))]) [0] rfl ?_
  refine k_aload_n C dX11_state_0 0 rfl ?_
  refine k_getr C shC_0 (j := 4) rfl FL_X11_33 dX11_state_1 ?_
  refine k_aload_n C dX11_state_4 0 rfl ?_
  refine k_getr C shC_0 (j := 0) rfl FL_X11_12 dX11_state_5 ?_
  obtain ⟨⟨t1, M1⟩, ht1, hf⟩ := bnd hf
  replace hf := bp_s hf
  refine k_callVi C (As := [.ref (G.2.1 1)]) (c_X1_tell hap M0 (t1, M1) ht1) ML_X1_tell wd_433 shC_16 rfl rfl rfl ⟨Nat.le_of_ble_eq_true rfl, Nat.le_of_ble_eq_true rfl⟩ (Nat.le_of_ble_eq_true rfl) dX11_state_8 ?_
  refine k_istore_n C dX11_state_11 (by decide) [1, 0] (lv' := [(0, .ref (G.2.1 0)), (1, .int t1)]) rfl ?_
  refine k_iload_n C dX11_state_12 1 rfl ?_
  rcases ite_g hf with ⟨c3, hf⟩ | ⟨c3, hf⟩
  · refine k_if_lt_t C dX11_state_13 (tgt := 23) (by decide) c3 ?_
    refine k_iload_n C dX11_state_23 1 rfl ?_
    exact k_iret C hr hlk (prf hf) (prs hf) dX11_state_24
  · refine k_if_lt_f C dX11_state_13 (tgt := 23) (by decide) c3 ?_
    refine k_aload_n C dX11_state_16 0 rfl ?_
    refine k_getr C shC_0 (j := 3) rfl FL_X11_26 dX11_state_17 ?_
    obtain ⟨M4, hM4, hf⟩ := bnd hf
    refine k_callVv C (As := []) (c_X10_forget hap M1 M4 hM4) ML_X10_forget wd_534 shC_11 rfl rfl rfl ⟨Nat.le_of_ble_eq_true rfl, Nat.le_of_ble_eq_true rfl⟩ (Nat.le_of_ble_eq_true rfl) dX11_state_20 ?_
    refine k_iload_n C dX11_state_23 1 rfl ?_
    exact k_iret C hr hlk (prf hf) (prs hf) dX11_state_24
theorem dX11_doingOf_0 : decode cX11_doingOf 0 = .ok (.aload_n 0, 1) := by decide +kernel
theorem dX11_doingOf_1 : decode cX11_doingOf 1 = .ok (.getfield 12, 3) := by decide +kernel
theorem dX11_doingOf_4 : decode cX11_doingOf 4 = .ok (.iload_n 1, 1) := by decide +kernel
theorem dX11_doingOf_5 : decode cX11_doingOf 5 = .ok (.invokevirtual 121, 3) := by decide +kernel
theorem dX11_doingOf_8 : decode cX11_doingOf 8 = .ok (.ifCond .ne 9, 3) := by decide +kernel
theorem dX11_doingOf_11 : decode cX11_doingOf 11 = .ok (.aload_n 0, 1) := by decide +kernel
theorem dX11_doingOf_12 : decode cX11_doingOf 12 = .ok (.iconst (-1), 1) := by decide +kernel
theorem dX11_doingOf_13 : decode cX11_doingOf 13 = .ok (.invokevirtual 103, 3) := by decide +kernel
theorem dX11_doingOf_16 : decode cX11_doingOf 16 = .ok (.ireturn, 1) := by decide +kernel
theorem dX11_doingOf_17 : decode cX11_doingOf 17 = .ok (.iload_n 2, 1) := by decide +kernel
theorem dX11_doingOf_18 : decode cX11_doingOf 18 = .ok (.tableswitch 56 0 2 #[26, 36, 46], 26) := by decide +kernel
theorem dX11_doingOf_44 : decode cX11_doingOf 44 = .ok (.aload_n 0, 1) := by decide +kernel
theorem dX11_doingOf_45 : decode cX11_doingOf 45 = .ok (.getfield 12, 3) := by decide +kernel
theorem dX11_doingOf_48 : decode cX11_doingOf 48 = .ok (.getfield 125, 3) := by decide +kernel
theorem dX11_doingOf_51 : decode cX11_doingOf 51 = .ok (.iload_n 1, 1) := by decide +kernel
theorem dX11_doingOf_52 : decode cX11_doingOf 52 = .ok (.iaload, 1) := by decide +kernel
theorem dX11_doingOf_53 : decode cX11_doingOf 53 = .ok (.ireturn, 1) := by decide +kernel
theorem dX11_doingOf_54 : decode cX11_doingOf 54 = .ok (.aload_n 0, 1) := by decide +kernel
theorem dX11_doingOf_55 : decode cX11_doingOf 55 = .ok (.getfield 12, 3) := by decide +kernel
theorem dX11_doingOf_58 : decode cX11_doingOf 58 = .ok (.getfield 128, 3) := by decide +kernel
theorem dX11_doingOf_61 : decode cX11_doingOf 61 = .ok (.iload_n 1, 1) := by decide +kernel
theorem dX11_doingOf_62 : decode cX11_doingOf 62 = .ok (.iaload, 1) := by decide +kernel
theorem dX11_doingOf_63 : decode cX11_doingOf 63 = .ok (.ireturn, 1) := by decide +kernel
theorem dX11_doingOf_64 : decode cX11_doingOf 64 = .ok (.aload_n 0, 1) := by decide +kernel
theorem dX11_doingOf_65 : decode cX11_doingOf 65 = .ok (.getfield 12, 3) := by decide +kernel
theorem dX11_doingOf_68 : decode cX11_doingOf 68 = .ok (.getfield 131, 3) := by decide +kernel
theorem dX11_doingOf_71 : decode cX11_doingOf 71 = .ok (.iload_n 1, 1) := by decide +kernel
theorem dX11_doingOf_72 : decode cX11_doingOf 72 = .ok (.iaload, 1) := by decide +kernel
theorem dX11_doingOf_73 : decode cX11_doingOf 73 = .ok (.ireturn, 1) := by decide +kernel
theorem dX11_doingOf_74 : decode cX11_doingOf 74 = .ok (.aload_n 0, 1) := by decide +kernel
theorem dX11_doingOf_75 : decode cX11_doingOf 75 = .ok (.bipush (-2), 2) := by decide +kernel
theorem dX11_doingOf_77 : decode cX11_doingOf 77 = .ok (.invokevirtual 103, 3) := by decide +kernel
theorem dX11_doingOf_80 : decode cX11_doingOf 80 = .ok (.ireturn, 1) := by decide +kernel
set_option maxRecDepth 100000 in
set_option maxHeartbeats 4000000 in
theorem c_X11_doingOf {l : Launch} {G : Gx} (hap : k_ap G shC.length) (v1 : Int32) (v2 : Int32) (M0 : Mem) (r : Int32 × Mem) (hf : f_X11_doingOf v1 v2 M0 = some r) : k_Met l yX11_doingOf cX11_doingOf 3 (some .int) 1 22 G shC [.ref (G.2.1 0), .int v1, .int v2] M0 (k_Qi G shC r.1 r.2) := by
  refine k_Met_of (by decide) hap (Nat.le_of_ble_eq_true rfl) ?_
  intro p e s m args below meth c C hr hlk
  have C : Cx p s m args c cX11_doingOf RX11 3 G shC := C
  unfold f_X11_doingOf at hf
  refine k_lv (lv' := [(0, .ref (G.2.1 0)), (1, .int v1), (2, .int v2)]) [0, 1, 2] rfl ?_
  refine k_aload_n C dX11_doingOf_0 0 rfl ?_
  refine k_getr C shC_0 (j := 0) rfl FL_X11_12 dX11_doingOf_1 ?_
  refine k_iload_n C dX11_doingOf_4 1 rfl ?_
  refine k_callVi C (As := [.int v1]) (c_X0_hasDoing hap 1 BD_1 v1 M0 _ rfl) ML_X0_hasDoing wd_542 shC_1 rfl rfl rfl ⟨Nat.le_of_ble_eq_true rfl, Nat.le_of_ble_eq_true rfl⟩ (Nat.le_of_ble_eq_true rfl) dX11_doingOf_5 ?_
  rcases ite_g hf with ⟨c1, hf⟩ | ⟨c1, hf⟩
  · refine k_if_ne_f C dX11_doingOf_8 (tgt := 17) (by decide) c1 ?_
    refine k_aload_n C dX11_doingOf_11 0 rfl ?_
    refine k_iconst C dX11_doingOf_12 (v := (-1 : Int32)) rfl ?_
    obtain ⟨⟨t9, M9⟩, ht9, hf⟩ := bnd hf
    replace hf := bp_s hf
    refine k_callVi C (As := [.int (-1 : Int32)]) (c_X11_refuse hap (-1 : Int32) M0 (t9, M9) ht9) ML_X11_refuse wd_421 shC_0 rfl rfl rfl ⟨Nat.le_of_ble_eq_true rfl, Nat.le_of_ble_eq_true rfl⟩ (Nat.le_of_ble_eq_true rfl) dX11_doingOf_13 ?_
    exact k_iret C hr hlk (prf hf) (prs hf) dX11_doingOf_16
  · refine k_if_ne_t C dX11_doingOf_8 (tgt := 17) (by decide) c1 ?_
    refine k_iload_n C dX11_doingOf_17 2 rfl ?_
    rcases ite_g hf with ⟨c2, hf⟩ | ⟨c2, hf⟩
    · refine k_tableIn C (0 : Int32) c2 dX11_doingOf_18 (off := 26) (tgt := 44) (by decide) (by decide) (by decide) (by decide) ?_
      refine k_aload_n C dX11_doingOf_44 0 rfl ?_
      refine k_getr C shC_0 (j := 0) rfl FL_X11_12 dX11_doingOf_45 ?_
      refine k_getr C shC_1 (j := 0) rfl FL_X11_125 dX11_doingOf_48 ?_
      refine k_iload_n C dX11_doingOf_51 1 rfl ?_
      obtain ⟨t3, ht3, hf⟩ := bnd hf
      refine k_iald C shC_2 ht3 dX11_doingOf_52 ?_
      exact k_iret C hr hlk (prf hf) (prs hf) dX11_doingOf_53
    · rcases ite_g hf with ⟨c4, hf⟩ | ⟨c4, hf⟩
      · refine k_tableIn C (1 : Int32) c4 dX11_doingOf_18 (off := 36) (tgt := 54) (by decide) (by decide) (by decide) (by decide) ?_
        refine k_aload_n C dX11_doingOf_54 0 rfl ?_
        refine k_getr C shC_0 (j := 0) rfl FL_X11_12 dX11_doingOf_55 ?_
        refine k_getr C shC_1 (j := 1) rfl FL_X11_128 dX11_doingOf_58 ?_
        refine k_iload_n C dX11_doingOf_61 1 rfl ?_
        obtain ⟨t5, ht5, hf⟩ := bnd hf
        refine k_iald C shC_3 ht5 dX11_doingOf_62 ?_
        exact k_iret C hr hlk (prf hf) (prs hf) dX11_doingOf_63
      · rcases ite_g hf with ⟨c6, hf⟩ | ⟨c6, hf⟩
        · refine k_tableIn C (2 : Int32) c6 dX11_doingOf_18 (off := 46) (tgt := 64) (by decide) (by decide) (by decide) (by decide) ?_
          refine k_aload_n C dX11_doingOf_64 0 rfl ?_
          refine k_getr C shC_0 (j := 0) rfl FL_X11_12 dX11_doingOf_65 ?_
          refine k_getr C shC_1 (j := 2) rfl FL_X11_131 dX11_doingOf_68 ?_
          refine k_iload_n C dX11_doingOf_71 1 rfl ?_
          obtain ⟨t7, ht7, hf⟩ := bnd hf
          refine k_iald C shC_4 ht7 dX11_doingOf_72 ?_
          exact k_iret C hr hlk (prf hf) (prs hf) dX11_doingOf_73
        · have hqc2 : (v2 : Int32).toInt ≠ 0 := i_ne2 c2 (by decide)
          have hqc4 : (v2 : Int32).toInt ≠ 1 := i_ne2 c4 (by decide)
          have hqc6 : (v2 : Int32).toInt ≠ 2 := i_ne2 c6 (by decide)
          refine k_tableOut C dX11_doingOf_18 (tgt := 74) (by omega) (by decide) ?_
          refine k_aload_n C dX11_doingOf_74 0 rfl ?_
          refine k_bipush C dX11_doingOf_75 (v := (-2 : Int32)) rfl ?_
          obtain ⟨⟨t8, M8⟩, ht8, hf⟩ := bnd hf
          replace hf := bp_s hf
          refine k_callVi C (As := [.int (-2 : Int32)]) (c_X11_refuse hap (-2 : Int32) M0 (t8, M8) ht8) ML_X11_refuse wd_421 shC_0 rfl rfl rfl ⟨Nat.le_of_ble_eq_true rfl, Nat.le_of_ble_eq_true rfl⟩ (Nat.le_of_ble_eq_true rfl) dX11_doingOf_77 ?_
          exact k_iret C hr hlk (prf hf) (prs hf) dX11_doingOf_80
theorem dX11_doing_0 : decode cX11_doing 0 = .ok (.iload_n 1, 1) := by decide +kernel
theorem dX11_doing_1 : decode cX11_doing 1 = .ok (.invokestatic 134, 3) := by decide +kernel
theorem dX11_doing_4 : decode cX11_doing 4 = .ok (.ifCond .ne 10, 3) := by decide +kernel
theorem dX11_doing_7 : decode cX11_doing 7 = .ok (.aload_n 0, 1) := by decide +kernel
theorem dX11_doing_8 : decode cX11_doing 8 = .ok (.bipush (-2), 2) := by decide +kernel
theorem dX11_doing_10 : decode cX11_doing 10 = .ok (.invokevirtual 103, 3) := by decide +kernel
theorem dX11_doing_13 : decode cX11_doing 13 = .ok (.ireturn, 1) := by decide +kernel
theorem dX11_doing_14 : decode cX11_doing 14 = .ok (.iload_n 2, 1) := by decide +kernel
theorem dX11_doing_15 : decode cX11_doing 15 = .ok (.ifCond .lt 7, 3) := by decide +kernel
theorem dX11_doing_18 : decode cX11_doing 18 = .ok (.iload_n 3, 1) := by decide +kernel
theorem dX11_doing_19 : decode cX11_doing 19 = .ok (.ifCond .ge 10, 3) := by decide +kernel
theorem dX11_doing_22 : decode cX11_doing 22 = .ok (.aload_n 0, 1) := by decide +kernel
theorem dX11_doing_23 : decode cX11_doing 23 = .ok (.bipush (-4), 2) := by decide +kernel
theorem dX11_doing_25 : decode cX11_doing 25 = .ok (.invokevirtual 103, 3) := by decide +kernel
theorem dX11_doing_28 : decode cX11_doing 28 = .ok (.ireturn, 1) := by decide +kernel
theorem dX11_doing_29 : decode cX11_doing 29 = .ok (.iload_n 2, 1) := by decide +kernel
theorem dX11_doing_30 : decode cX11_doing 30 = .ok (.bipush 9, 2) := by decide +kernel
theorem dX11_doing_32 : decode cX11_doing 32 = .ok (.if_icmp .gt 20, 3) := by decide +kernel
theorem dX11_doing_35 : decode cX11_doing 35 = .ok (.iload_n 3, 1) := by decide +kernel
theorem dX11_doing_36 : decode cX11_doing 36 = .ok (.sipush 255, 3) := by decide +kernel
theorem dX11_doing_39 : decode cX11_doing 39 = .ok (.if_icmp .gt 13, 3) := by decide +kernel
theorem dX11_doing_42 : decode cX11_doing 42 = .ok (.aload_n 0, 1) := by decide +kernel
theorem dX11_doing_43 : decode cX11_doing 43 = .ok (.getfield 12, 3) := by decide +kernel
theorem dX11_doing_46 : decode cX11_doing 46 = .ok (.invokevirtual 137, 3) := by decide +kernel
theorem dX11_doing_49 : decode cX11_doing 49 = .ok (.ifCond .ne 10, 3) := by decide +kernel
theorem dX11_doing_52 : decode cX11_doing 52 = .ok (.aload_n 0, 1) := by decide +kernel
theorem dX11_doing_53 : decode cX11_doing 53 = .ok (.bipush (-6), 2) := by decide +kernel
theorem dX11_doing_55 : decode cX11_doing 55 = .ok (.invokevirtual 103, 3) := by decide +kernel
theorem dX11_doing_58 : decode cX11_doing 58 = .ok (.ireturn, 1) := by decide +kernel
theorem dX11_doing_59 : decode cX11_doing 59 = .ok (.aload_n 0, 1) := by decide +kernel
theorem dX11_doing_60 : decode cX11_doing 60 = .ok (.getfield 26, 3) := by decide +kernel
theorem dX11_doing_63 : decode cX11_doing 63 = .ok (.invokevirtual 118, 3) := by decide +kernel
theorem dX11_doing_66 : decode cX11_doing 66 = .ok (.aload_n 0, 1) := by decide +kernel
theorem dX11_doing_67 : decode cX11_doing 67 = .ok (.getfield 12, 3) := by decide +kernel
theorem dX11_doing_70 : decode cX11_doing 70 = .ok (.iload_n 1, 1) := by decide +kernel
theorem dX11_doing_71 : decode cX11_doing 71 = .ok (.iload_n 2, 1) := by decide +kernel
theorem dX11_doing_72 : decode cX11_doing 72 = .ok (.iload_n 3, 1) := by decide +kernel
theorem dX11_doing_73 : decode cX11_doing 73 = .ok (.invokevirtual 141, 3) := by decide +kernel
theorem dX11_doing_76 : decode cX11_doing 76 = .ok (.ireturn, 1) := by decide +kernel
set_option maxRecDepth 100000 in
set_option maxHeartbeats 4000000 in
theorem c_X11_doing {l : Launch} {G : Gx} (hap : k_ap G shC.length) (v1 : Int32) (v2 : Int32) (v3 : Int32) (M0 : Mem) (r : Int32 × Mem) (hf : f_X11_doing v1 v2 v3 M0 = some r) : k_Met l yX11_doing cX11_doing 4 (some .int) 2 47 G shC [.ref (G.2.1 0), .int v1, .int v2, .int v3] M0 (k_Qi G shC r.1 r.2) := by
  refine k_Met_of (by decide) hap (Nat.le_of_ble_eq_true rfl) ?_
  intro p e s m args below meth c C hr hlk
  have C : Cx p s m args c cX11_doing RX11 4 G shC := C
  unfold f_X11_doing at hf
  refine k_lv (lv' := [(0, .ref (G.2.1 0)), (1, .int v1), (2, .int v2), (3, .int v3)]) [0, 1, 2, 3] rfl ?_
  refine k_iload_n C dX11_doing_0 1 rfl ?_
  refine k_callSi C (As := [.int v1]) (c_X11_isKind hap v1 M0 _ rfl) MS_X11_isKind wd_547 rfl rfl ⟨Nat.le_of_ble_eq_true rfl, Nat.le_of_ble_eq_true rfl⟩ (Nat.le_of_ble_eq_true rfl) dX11_doing_1 ?_
  rcases ite_g hf with ⟨c1, hf⟩ | ⟨c1, hf⟩
  · refine k_if_ne_f C dX11_doing_4 (tgt := 14) (by decide) c1 ?_
    refine k_aload_n C dX11_doing_7 0 rfl ?_
    refine k_bipush C dX11_doing_8 (v := (-2 : Int32)) rfl ?_
    obtain ⟨⟨t14, M14⟩, ht14, hf⟩ := bnd hf
    replace hf := bp_s hf
    refine k_callVi C (As := [.int (-2 : Int32)]) (c_X11_refuse hap (-2 : Int32) M0 (t14, M14) ht14) ML_X11_refuse wd_421 shC_0 rfl rfl rfl ⟨Nat.le_of_ble_eq_true rfl, Nat.le_of_ble_eq_true rfl⟩ (Nat.le_of_ble_eq_true rfl) dX11_doing_10 ?_
    exact k_iret C hr hlk (prf hf) (prs hf) dX11_doing_13
  · refine k_if_ne_t C dX11_doing_4 (tgt := 14) (by decide) c1 ?_
    refine k_iload_n C dX11_doing_14 2 rfl ?_
    rcases ite_g hf with ⟨c2, hf⟩ | ⟨c2, hf⟩
    · refine k_if_lt_t C dX11_doing_15 (tgt := 22) (by decide) c2 ?_
      refine k_aload_n C dX11_doing_22 0 rfl ?_
      refine k_bipush C dX11_doing_23 (v := (-4 : Int32)) rfl ?_
      obtain ⟨⟨t3, M3⟩, ht3, hf⟩ := bnd hf
      replace hf := bp_s hf
      refine k_callVi C (As := [.int (-4 : Int32)]) (c_X11_refuse hap (-4 : Int32) M0 (t3, M3) ht3) ML_X11_refuse wd_421 shC_0 rfl rfl rfl ⟨Nat.le_of_ble_eq_true rfl, Nat.le_of_ble_eq_true rfl⟩ (Nat.le_of_ble_eq_true rfl) dX11_doing_25 ?_
      exact k_iret C hr hlk (prf hf) (prs hf) dX11_doing_28
    · refine k_if_lt_f C dX11_doing_15 (tgt := 22) (by decide) c2 ?_
      refine k_iload_n C dX11_doing_18 3 rfl ?_
      rcases ite_g hf with ⟨c4, hf⟩ | ⟨c4, hf⟩
      · refine k_if_ge_t C dX11_doing_19 (tgt := 29) (by decide) c4 ?_
        refine k_iload_n C dX11_doing_29 2 rfl ?_
        refine k_bipush C dX11_doing_30 (v := (9 : Int32)) rfl ?_
        rcases ite_g hf with ⟨c5, hf⟩ | ⟨c5, hf⟩
        · refine k_icmp_gt_t C dX11_doing_32 (tgt := 52) (by decide) c5 ?_
          refine k_aload_n C dX11_doing_52 0 rfl ?_
          refine k_bipush C dX11_doing_53 (v := (-6 : Int32)) rfl ?_
          obtain ⟨⟨t6, M6⟩, ht6, hf⟩ := bnd hf
          replace hf := bp_s hf
          refine k_callVi C (As := [.int (-6 : Int32)]) (c_X11_refuse hap (-6 : Int32) M0 (t6, M6) ht6) ML_X11_refuse wd_421 shC_0 rfl rfl rfl ⟨Nat.le_of_ble_eq_true rfl, Nat.le_of_ble_eq_true rfl⟩ (Nat.le_of_ble_eq_true rfl) dX11_doing_55 ?_
          exact k_iret C hr hlk (prf hf) (prs hf) dX11_doing_58
        · refine k_icmp_gt_f C dX11_doing_32 (tgt := 52) (by decide) c5 ?_
          refine k_iload_n C dX11_doing_35 3 rfl ?_
          refine k_sipush C dX11_doing_36 (v := (255 : Int32)) rfl ?_
          rcases ite_g hf with ⟨c7, hf⟩ | ⟨c7, hf⟩
          · refine k_icmp_gt_t C dX11_doing_39 (tgt := 52) (by decide) c7 ?_
            refine k_aload_n C dX11_doing_52 0 rfl ?_
            refine k_bipush C dX11_doing_53 (v := (-6 : Int32)) rfl ?_
            obtain ⟨⟨t8, M8⟩, ht8, hf⟩ := bnd hf
            replace hf := bp_s hf
            refine k_callVi C (As := [.int (-6 : Int32)]) (c_X11_refuse hap (-6 : Int32) M0 (t8, M8) ht8) ML_X11_refuse wd_421 shC_0 rfl rfl rfl ⟨Nat.le_of_ble_eq_true rfl, Nat.le_of_ble_eq_true rfl⟩ (Nat.le_of_ble_eq_true rfl) dX11_doing_55 ?_
            exact k_iret C hr hlk (prf hf) (prs hf) dX11_doing_58
          · refine k_icmp_gt_f C dX11_doing_39 (tgt := 52) (by decide) c7 ?_
            refine k_aload_n C dX11_doing_42 0 rfl ?_
            refine k_getr C shC_0 (j := 0) rfl FL_X11_12 dX11_doing_43 ?_
            refine k_callVi C (As := []) (c_X0_hasRoomForDoing hap 1 BD_1 M0 _ rfl) ML_X0_hasRoomForDoing wd_548 shC_1 rfl rfl rfl ⟨Nat.le_of_ble_eq_true rfl, Nat.le_of_ble_eq_true rfl⟩ (Nat.le_of_ble_eq_true rfl) dX11_doing_46 ?_
            rcases ite_g hf with ⟨c9, hf⟩ | ⟨c9, hf⟩
            · refine k_if_ne_f C dX11_doing_49 (tgt := 59) (by decide) c9 ?_
              refine k_aload_n C dX11_doing_52 0 rfl ?_
              refine k_bipush C dX11_doing_53 (v := (-6 : Int32)) rfl ?_
              obtain ⟨⟨t12, M12⟩, ht12, hf⟩ := bnd hf
              replace hf := bp_s hf
              refine k_callVi C (As := [.int (-6 : Int32)]) (c_X11_refuse hap (-6 : Int32) M0 (t12, M12) ht12) ML_X11_refuse wd_421 shC_0 rfl rfl rfl ⟨Nat.le_of_ble_eq_true rfl, Nat.le_of_ble_eq_true rfl⟩ (Nat.le_of_ble_eq_true rfl) dX11_doing_55 ?_
              exact k_iret C hr hlk (prf hf) (prs hf) dX11_doing_58
            · refine k_if_ne_t C dX11_doing_49 (tgt := 59) (by decide) c9 ?_
              refine k_aload_n C dX11_doing_59 0 rfl ?_
              refine k_getr C shC_0 (j := 3) rfl FL_X11_26 dX11_doing_60 ?_
              obtain ⟨M10, hM10, hf⟩ := bnd hf
              refine k_callVv C (As := []) (c_X10_forget hap M0 M10 hM10) ML_X10_forget wd_534 shC_11 rfl rfl rfl ⟨Nat.le_of_ble_eq_true rfl, Nat.le_of_ble_eq_true rfl⟩ (Nat.le_of_ble_eq_true rfl) dX11_doing_63 ?_
              refine k_aload_n C dX11_doing_66 0 rfl ?_
              refine k_getr C shC_0 (j := 0) rfl FL_X11_12 dX11_doing_67 ?_
              refine k_iload_n C dX11_doing_70 1 rfl ?_
              refine k_iload_n C dX11_doing_71 2 rfl ?_
              refine k_iload_n C dX11_doing_72 3 rfl ?_
              obtain ⟨⟨t11, M11⟩, ht11, hf⟩ := bnd hf
              replace hf := bp_s hf
              refine k_callVi C (As := [.int v1, .int v2, .int v3]) (c_X0_addDoing hap 1 BD_1 v1 v2 v3 M10 (t11, M11) ht11) ML_X0_addDoing wd_549 shC_1 rfl rfl rfl ⟨Nat.le_of_ble_eq_true rfl, Nat.le_of_ble_eq_true rfl⟩ (Nat.le_of_ble_eq_true rfl) dX11_doing_73 ?_
              exact k_iret C hr hlk (prf hf) (prs hf) dX11_doing_76
      · refine k_if_ge_f C dX11_doing_19 (tgt := 29) (by decide) c4 ?_
        refine k_aload_n C dX11_doing_22 0 rfl ?_
        refine k_bipush C dX11_doing_23 (v := (-4 : Int32)) rfl ?_
        obtain ⟨⟨t13, M13⟩, ht13, hf⟩ := bnd hf
        replace hf := bp_s hf
        refine k_callVi C (As := [.int (-4 : Int32)]) (c_X11_refuse hap (-4 : Int32) M0 (t13, M13) ht13) ML_X11_refuse wd_421 shC_0 rfl rfl rfl ⟨Nat.le_of_ble_eq_true rfl, Nat.le_of_ble_eq_true rfl⟩ (Nat.le_of_ble_eq_true rfl) dX11_doing_25 ?_
        exact k_iret C hr hlk (prf hf) (prs hf) dX11_doing_28
theorem dX11_does_0 : decode cX11_does 0 = .ok (.aload_n 0, 1) := by decide +kernel
theorem dX11_does_1 : decode cX11_does 1 = .ok (.getfield 12, 3) := by decide +kernel
theorem dX11_does_4 : decode cX11_does 4 = .ok (.iload_n 1, 1) := by decide +kernel
theorem dX11_does_5 : decode cX11_does 5 = .ok (.invokevirtual 121, 3) := by decide +kernel
theorem dX11_does_8 : decode cX11_does 8 = .ok (.ifCond .ne 9, 3) := by decide +kernel
theorem dX11_does_11 : decode cX11_does 11 = .ok (.aload_n 0, 1) := by decide +kernel
theorem dX11_does_12 : decode cX11_does 12 = .ok (.iconst (-1), 1) := by decide +kernel
theorem dX11_does_13 : decode cX11_does 13 = .ok (.invokevirtual 103, 3) := by decide +kernel
theorem dX11_does_16 : decode cX11_does 16 = .ok (.ireturn, 1) := by decide +kernel
theorem dX11_does_17 : decode cX11_does 17 = .ok (.aload_n 0, 1) := by decide +kernel
theorem dX11_does_18 : decode cX11_does 18 = .ok (.getfield 12, 3) := by decide +kernel
theorem dX11_does_21 : decode cX11_does 21 = .ok (.invokevirtual 145, 3) := by decide +kernel
theorem dX11_does_24 : decode cX11_does 24 = .ok (.ifCond .ne 10, 3) := by decide +kernel
theorem dX11_does_27 : decode cX11_does 27 = .ok (.aload_n 0, 1) := by decide +kernel
theorem dX11_does_28 : decode cX11_does 28 = .ok (.bipush (-6), 2) := by decide +kernel
theorem dX11_does_30 : decode cX11_does 30 = .ok (.invokevirtual 103, 3) := by decide +kernel
theorem dX11_does_33 : decode cX11_does 33 = .ok (.ireturn, 1) := by decide +kernel
theorem dX11_does_34 : decode cX11_does 34 = .ok (.aload_n 0, 1) := by decide +kernel
theorem dX11_does_35 : decode cX11_does 35 = .ok (.getfield 49, 3) := by decide +kernel
theorem dX11_does_38 : decode cX11_does 38 = .ok (.iload_n 1, 1) := by decide +kernel
theorem dX11_does_39 : decode cX11_does 39 = .ok (.invokevirtual 148, 3) := by decide +kernel
theorem dX11_does_42 : decode cX11_does 42 = .ok (.istore_n 2, 1) := by decide +kernel
theorem dX11_does_43 : decode cX11_does 43 = .ok (.aload_n 0, 1) := by decide +kernel
theorem dX11_does_44 : decode cX11_does 44 = .ok (.getfield 12, 3) := by decide +kernel
theorem dX11_does_47 : decode cX11_does 47 = .ok (.iload_n 1, 1) := by decide +kernel
theorem dX11_does_48 : decode cX11_does 48 = .ok (.invokevirtual 151, 3) := by decide +kernel
theorem dX11_does_51 : decode cX11_does 51 = .ok (.aload_n 0, 1) := by decide +kernel
theorem dX11_does_52 : decode cX11_does 52 = .ok (.getfield 26, 3) := by decide +kernel
theorem dX11_does_55 : decode cX11_does 55 = .ok (.iconst 0, 1) := by decide +kernel
theorem dX11_does_56 : decode cX11_does 56 = .ok (.iload_n 1, 1) := by decide +kernel
theorem dX11_does_57 : decode cX11_does 57 = .ok (.iconst 0, 1) := by decide +kernel
theorem dX11_does_58 : decode cX11_does 58 = .ok (.iconst 0, 1) := by decide +kernel
theorem dX11_does_59 : decode cX11_does 59 = .ok (.invokevirtual 155, 3) := by decide +kernel
theorem dX11_does_62 : decode cX11_does 62 = .ok (.iload_n 2, 1) := by decide +kernel
theorem dX11_does_63 : decode cX11_does 63 = .ok (.ireturn, 1) := by decide +kernel
set_option maxRecDepth 100000 in
set_option maxHeartbeats 4000000 in
theorem c_X11_does {l : Launch} {G : Gx} (hap : k_ap G shC.length) (v1 : Int32) (M0 : Mem) (r : Int32 × Mem) (hf : f_X11_does v1 M0 = some r) : k_Met l yX11_does cX11_does 3 (some .int) 6 129 G shC [.ref (G.2.1 0), .int v1] M0 (k_Qi G shC r.1 r.2) := by
  refine k_Met_of (by decide) hap (Nat.le_of_ble_eq_true rfl) ?_
  intro p e s m args below meth c C hr hlk
  have C : Cx p s m args c cX11_does RX11 3 G shC := C
  unfold f_X11_does at hf
  refine k_lv (lv' := [(0, .ref (G.2.1 0)), (1, .int v1)]) [0, 1] rfl ?_
  refine k_aload_n C dX11_does_0 0 rfl ?_
  refine k_getr C shC_0 (j := 0) rfl FL_X11_12 dX11_does_1 ?_
  refine k_iload_n C dX11_does_4 1 rfl ?_
  refine k_callVi C (As := [.int v1]) (c_X0_hasDoing hap 1 BD_1 v1 M0 _ rfl) ML_X0_hasDoing wd_542 shC_1 rfl rfl rfl ⟨Nat.le_of_ble_eq_true rfl, Nat.le_of_ble_eq_true rfl⟩ (Nat.le_of_ble_eq_true rfl) dX11_does_5 ?_
  rcases ite_g hf with ⟨c1, hf⟩ | ⟨c1, hf⟩
  · refine k_if_ne_f C dX11_does_8 (tgt := 17) (by decide) c1 ?_
    refine k_aload_n C dX11_does_11 0 rfl ?_
    refine k_iconst C dX11_does_12 (v := (-1 : Int32)) rfl ?_
    obtain ⟨⟨t7, M7⟩, ht7, hf⟩ := bnd hf
    replace hf := bp_s hf
    refine k_callVi C (As := [.int (-1 : Int32)]) (c_X11_refuse hap (-1 : Int32) M0 (t7, M7) ht7) ML_X11_refuse wd_421 shC_0 rfl rfl rfl ⟨Nat.le_of_ble_eq_true rfl, Nat.le_of_ble_eq_true rfl⟩ (Nat.le_of_ble_eq_true rfl) dX11_does_13 ?_
    exact k_iret C hr hlk (prf hf) (prs hf) dX11_does_16
  · refine k_if_ne_t C dX11_does_8 (tgt := 17) (by decide) c1 ?_
    refine k_aload_n C dX11_does_17 0 rfl ?_
    refine k_getr C shC_0 (j := 0) rfl FL_X11_12 dX11_does_18 ?_
    refine k_callVi C (As := []) (c_X0_hasRoomForPlace hap 1 BD_1 M0 _ rfl) ML_X0_hasRoomForPlace wd_554 shC_1 rfl rfl rfl ⟨Nat.le_of_ble_eq_true rfl, Nat.le_of_ble_eq_true rfl⟩ (Nat.le_of_ble_eq_true rfl) dX11_does_21 ?_
    rcases ite_g hf with ⟨c2, hf⟩ | ⟨c2, hf⟩
    · refine k_if_ne_f C dX11_does_24 (tgt := 34) (by decide) c2 ?_
      refine k_aload_n C dX11_does_27 0 rfl ?_
      refine k_bipush C dX11_does_28 (v := (-6 : Int32)) rfl ?_
      obtain ⟨⟨t6, M6⟩, ht6, hf⟩ := bnd hf
      replace hf := bp_s hf
      refine k_callVi C (As := [.int (-6 : Int32)]) (c_X11_refuse hap (-6 : Int32) M0 (t6, M6) ht6) ML_X11_refuse wd_421 shC_0 rfl rfl rfl ⟨Nat.le_of_ble_eq_true rfl, Nat.le_of_ble_eq_true rfl⟩ (Nat.le_of_ble_eq_true rfl) dX11_does_30 ?_
      exact k_iret C hr hlk (prf hf) (prs hf) dX11_does_33
    · refine k_if_ne_t C dX11_does_24 (tgt := 34) (by decide) c2 ?_
      refine k_aload_n C dX11_does_34 0 rfl ?_
      refine k_getr C shC_0 (j := 6) rfl FL_X11_49 dX11_does_35 ?_
      refine k_iload_n C dX11_does_38 1 rfl ?_
      obtain ⟨⟨t3, M3⟩, ht3, hf⟩ := bnd hf
      replace hf := bp_s hf
      refine k_callVi C (As := [.int v1]) (c_X8_nextDue hap v1 M0 (t3, M3) ht3) ML_X8_nextDue wd_555 shC_25 rfl rfl rfl ⟨Nat.le_of_ble_eq_true rfl, Nat.le_of_ble_eq_true rfl⟩ (Nat.le_of_ble_eq_true rfl) dX11_does_39 ?_
      refine k_istore_n C dX11_does_42 (by decide) [1, 2, 0] (lv' := [(0, .ref (G.2.1 0)), (1, .int v1), (2, .int t3)]) rfl ?_
      refine k_aload_n C dX11_does_43 0 rfl ?_
      refine k_getr C shC_0 (j := 0) rfl FL_X11_12 dX11_does_44 ?_
      refine k_iload_n C dX11_does_47 1 rfl ?_
      obtain ⟨M4, hM4, hf⟩ := bnd hf
      refine k_callVv C (As := [.int v1]) (c_X0_addPlace hap 1 BD_1 v1 M3 M4 hM4) ML_X0_addPlace wd_608 shC_1 rfl rfl rfl ⟨Nat.le_of_ble_eq_true rfl, Nat.le_of_ble_eq_true rfl⟩ (Nat.le_of_ble_eq_true rfl) dX11_does_48 ?_
      refine k_aload_n C dX11_does_51 0 rfl ?_
      refine k_getr C shC_0 (j := 3) rfl FL_X11_26 dX11_does_52 ?_
      refine k_iconst C dX11_does_55 (v := (0 : Int32)) rfl ?_
      refine k_iload_n C dX11_does_56 1 rfl ?_
      refine k_iconst C dX11_does_57 (v := (0 : Int32)) rfl ?_
      refine k_iconst C dX11_does_58 (v := (0 : Int32)) rfl ?_
      obtain ⟨M5, hM5, hf⟩ := bnd hf
      refine k_callVv C (As := [.int (0 : Int32), .int v1, .int (0 : Int32), .int (0 : Int32)]) (c_X10_keep hap (0 : Int32) v1 (0 : Int32) (0 : Int32) M4 M5 hM5) ML_X10_keep wd_609 shC_11 rfl rfl rfl ⟨Nat.le_of_ble_eq_true rfl, Nat.le_of_ble_eq_true rfl⟩ (Nat.le_of_ble_eq_true rfl) dX11_does_59 ?_
      refine k_iload_n C dX11_does_62 2 rfl ?_
      exact k_iret C hr hlk (prf hf) (prs hf) dX11_does_63
theorem dX11_empties_0 : decode cX11_empties 0 = .ok (.aload_n 0, 1) := by decide +kernel
theorem dX11_empties_1 : decode cX11_empties 1 = .ok (.getfield 12, 3) := by decide +kernel
theorem dX11_empties_4 : decode cX11_empties 4 = .ok (.getfield 159, 3) := by decide +kernel
theorem dX11_empties_7 : decode cX11_empties 7 = .ok (.istore_n 1, 1) := by decide +kernel
theorem dX11_empties_8 : decode cX11_empties 8 = .ok (.aload_n 0, 1) := by decide +kernel
theorem dX11_empties_9 : decode cX11_empties 9 = .ok (.getfield 12, 3) := by decide +kernel
theorem dX11_empties_12 : decode cX11_empties 12 = .ok (.iconst 0, 1) := by decide +kernel
theorem dX11_empties_13 : decode cX11_empties 13 = .ok (.putfield 159, 3) := by decide +kernel
theorem dX11_empties_16 : decode cX11_empties 16 = .ok (.aload_n 0, 1) := by decide +kernel
theorem dX11_empties_17 : decode cX11_empties 17 = .ok (.getfield 26, 3) := by decide +kernel
theorem dX11_empties_20 : decode cX11_empties 20 = .ok (.invokevirtual 118, 3) := by decide +kernel
theorem dX11_empties_23 : decode cX11_empties 23 = .ok (.iload_n 1, 1) := by decide +kernel
theorem dX11_empties_24 : decode cX11_empties 24 = .ok (.ireturn, 1) := by decide +kernel
set_option maxRecDepth 100000 in
set_option maxHeartbeats 4000000 in
theorem c_X11_empties {l : Launch} {G : Gx} (hap : k_ap G shC.length) (M0 : Mem) (r : Int32 × Mem) (hf : f_X11_empties M0 = some r) : k_Met l yX11_empties cX11_empties 2 (some .int) 1 20 G shC [.ref (G.2.1 0)] M0 (k_Qi G shC r.1 r.2) := by
  refine k_Met_of (by decide) hap (Nat.le_of_ble_eq_true rfl) ?_
  intro p e s m args below meth c C hr hlk
  have C : Cx p s m args c cX11_empties RX11 2 G shC := C
  unfold f_X11_empties at hf
  refine k_lv (lv' := [(0, .ref (G.2.1 0))]) [0] rfl ?_
  refine k_aload_n C dX11_empties_0 0 rfl ?_
  refine k_getr C shC_0 (j := 0) rfl FL_X11_12 dX11_empties_1 ?_
  refine k_geti C shC_1 (j := 5) rfl FL_X11_159 dX11_empties_4 ?_
  refine k_istore_n C dX11_empties_7 (by decide) [1, 0] (lv' := [(0, .ref (G.2.1 0)), (1, .int (M0.1 1 5))]) rfl ?_
  refine k_aload_n C dX11_empties_8 0 rfl ?_
  refine k_getr C shC_0 (j := 0) rfl FL_X11_12 dX11_empties_9 ?_
  refine k_iconst C dX11_empties_12 (v := (0 : Int32)) rfl ?_
  refine k_put C shC_1 (j := 5) rfl FL_X11_159 FW_X0_5 dX11_empties_13 ?_
  refine k_aload_n C dX11_empties_16 0 rfl ?_
  refine k_getr C shC_0 (j := 3) rfl FL_X11_26 dX11_empties_17 ?_
  obtain ⟨M1, hM1, hf⟩ := bnd hf
  refine k_callVv C (As := []) (c_X10_forget hap (wI M0 1 5 (0 : Int32)) M1 hM1) ML_X10_forget wd_534 shC_11 rfl rfl rfl ⟨Nat.le_of_ble_eq_true rfl, Nat.le_of_ble_eq_true rfl⟩ (Nat.le_of_ble_eq_true rfl) dX11_empties_20 ?_
  refine k_iload_n C dX11_empties_23 1 rfl ?_
  exact k_iret C hr hlk (prf hf) (prs hf) dX11_empties_24
theorem dX11_turn_0 : decode cX11_turn 0 = .ok (.aload_n 0, 1) := by decide +kernel
theorem dX11_turn_1 : decode cX11_turn 1 = .ok (.getfield 12, 3) := by decide +kernel
theorem dX11_turn_4 : decode cX11_turn 4 = .ok (.iload_n 1, 1) := by decide +kernel
theorem dX11_turn_5 : decode cX11_turn 5 = .ok (.invokevirtual 121, 3) := by decide +kernel
theorem dX11_turn_8 : decode cX11_turn 8 = .ok (.ifCond .ne 9, 3) := by decide +kernel
theorem dX11_turn_11 : decode cX11_turn 11 = .ok (.aload_n 0, 1) := by decide +kernel
theorem dX11_turn_12 : decode cX11_turn 12 = .ok (.iconst (-1), 1) := by decide +kernel
theorem dX11_turn_13 : decode cX11_turn 13 = .ok (.invokevirtual 103, 3) := by decide +kernel
theorem dX11_turn_16 : decode cX11_turn 16 = .ok (.ireturn, 1) := by decide +kernel
theorem dX11_turn_17 : decode cX11_turn 17 = .ok (.iload_n 2, 1) := by decide +kernel
theorem dX11_turn_18 : decode cX11_turn 18 = .ok (.invokestatic 134, 3) := by decide +kernel
theorem dX11_turn_21 : decode cX11_turn 21 = .ok (.ifCond .ne 10, 3) := by decide +kernel
theorem dX11_turn_24 : decode cX11_turn 24 = .ok (.aload_n 0, 1) := by decide +kernel
theorem dX11_turn_25 : decode cX11_turn 25 = .ok (.bipush (-2), 2) := by decide +kernel
theorem dX11_turn_27 : decode cX11_turn 27 = .ok (.invokevirtual 103, 3) := by decide +kernel
theorem dX11_turn_30 : decode cX11_turn 30 = .ok (.ireturn, 1) := by decide +kernel
theorem dX11_turn_31 : decode cX11_turn 31 = .ok (.iload_n 3, 1) := by decide +kernel
theorem dX11_turn_32 : decode cX11_turn 32 = .ok (.ifCond .ge 10, 3) := by decide +kernel
theorem dX11_turn_35 : decode cX11_turn 35 = .ok (.aload_n 0, 1) := by decide +kernel
theorem dX11_turn_36 : decode cX11_turn 36 = .ok (.bipush (-4), 2) := by decide +kernel
theorem dX11_turn_38 : decode cX11_turn 38 = .ok (.invokevirtual 103, 3) := by decide +kernel
theorem dX11_turn_41 : decode cX11_turn 41 = .ok (.ireturn, 1) := by decide +kernel
theorem dX11_turn_42 : decode cX11_turn 42 = .ok (.iload_n 3, 1) := by decide +kernel
theorem dX11_turn_43 : decode cX11_turn 43 = .ok (.bipush 9, 2) := by decide +kernel
theorem dX11_turn_45 : decode cX11_turn 45 = .ok (.if_icmp .le 10, 3) := by decide +kernel
theorem dX11_turn_48 : decode cX11_turn 48 = .ok (.aload_n 0, 1) := by decide +kernel
theorem dX11_turn_49 : decode cX11_turn 49 = .ok (.bipush (-6), 2) := by decide +kernel
theorem dX11_turn_51 : decode cX11_turn 51 = .ok (.invokevirtual 103, 3) := by decide +kernel
theorem dX11_turn_54 : decode cX11_turn 54 = .ok (.ireturn, 1) := by decide +kernel
theorem dX11_turn_55 : decode cX11_turn 55 = .ok (.aload_n 0, 1) := by decide +kernel
theorem dX11_turn_56 : decode cX11_turn 56 = .ok (.getfield 12, 3) := by decide +kernel
theorem dX11_turn_59 : decode cX11_turn 59 = .ok (.getfield 125, 3) := by decide +kernel
theorem dX11_turn_62 : decode cX11_turn 62 = .ok (.iload_n 1, 1) := by decide +kernel
theorem dX11_turn_63 : decode cX11_turn 63 = .ok (.iaload, 1) := by decide +kernel
theorem dX11_turn_64 : decode cX11_turn 64 = .ok (.istore 4, 2) := by decide +kernel
theorem dX11_turn_66 : decode cX11_turn 66 = .ok (.aload_n 0, 1) := by decide +kernel
theorem dX11_turn_67 : decode cX11_turn 67 = .ok (.getfield 12, 3) := by decide +kernel
theorem dX11_turn_70 : decode cX11_turn 70 = .ok (.getfield 128, 3) := by decide +kernel
theorem dX11_turn_73 : decode cX11_turn 73 = .ok (.iload_n 1, 1) := by decide +kernel
theorem dX11_turn_74 : decode cX11_turn 74 = .ok (.iaload, 1) := by decide +kernel
theorem dX11_turn_75 : decode cX11_turn 75 = .ok (.istore 5, 2) := by decide +kernel
theorem dX11_turn_77 : decode cX11_turn 77 = .ok (.aload_n 0, 1) := by decide +kernel
theorem dX11_turn_78 : decode cX11_turn 78 = .ok (.getfield 12, 3) := by decide +kernel
theorem dX11_turn_81 : decode cX11_turn 81 = .ok (.iload_n 1, 1) := by decide +kernel
theorem dX11_turn_82 : decode cX11_turn 82 = .ok (.iload_n 2, 1) := by decide +kernel
theorem dX11_turn_83 : decode cX11_turn 83 = .ok (.iload_n 3, 1) := by decide +kernel
theorem dX11_turn_84 : decode cX11_turn 84 = .ok (.invokevirtual 162, 3) := by decide +kernel
theorem dX11_turn_87 : decode cX11_turn 87 = .ok (.aload_n 0, 1) := by decide +kernel
theorem dX11_turn_88 : decode cX11_turn 88 = .ok (.getfield 26, 3) := by decide +kernel
theorem dX11_turn_91 : decode cX11_turn 91 = .ok (.iconst 1, 1) := by decide +kernel
theorem dX11_turn_92 : decode cX11_turn 92 = .ok (.iload_n 1, 1) := by decide +kernel
theorem dX11_turn_93 : decode cX11_turn 93 = .ok (.iload 4, 2) := by decide +kernel
theorem dX11_turn_95 : decode cX11_turn 95 = .ok (.iload 5, 2) := by decide +kernel
theorem dX11_turn_97 : decode cX11_turn 97 = .ok (.invokevirtual 155, 3) := by decide +kernel
theorem dX11_turn_100 : decode cX11_turn 100 = .ok (.bipush 10, 2) := by decide +kernel
theorem dX11_turn_102 : decode cX11_turn 102 = .ok (.iload 4, 2) := by decide +kernel
theorem dX11_turn_104 : decode cX11_turn 104 = .ok (.imul, 1) := by decide +kernel
theorem dX11_turn_105 : decode cX11_turn 105 = .ok (.iload 5, 2) := by decide +kernel
theorem dX11_turn_107 : decode cX11_turn 107 = .ok (.iadd, 1) := by decide +kernel
theorem dX11_turn_108 : decode cX11_turn 108 = .ok (.ireturn, 1) := by decide +kernel
set_option maxRecDepth 100000 in
set_option maxHeartbeats 4000000 in
theorem c_X11_turn {l : Launch} {G : Gx} (hap : k_ap G shC.length) (v1 : Int32) (v2 : Int32) (v3 : Int32) (M0 : Mem) (r : Int32 × Mem) (hf : f_X11_turn v1 v2 v3 M0 = some r) : k_Met l yX11_turn cX11_turn 6 (some .int) 3 84 G shC [.ref (G.2.1 0), .int v1, .int v2, .int v3] M0 (k_Qi G shC r.1 r.2) := by
  refine k_Met_of (by decide) hap (Nat.le_of_ble_eq_true rfl) ?_
  intro p e s m args below meth c C hr hlk
  have C : Cx p s m args c cX11_turn RX11 6 G shC := C
  unfold f_X11_turn at hf
  refine k_lv (lv' := [(0, .ref (G.2.1 0)), (1, .int v1), (2, .int v2), (3, .int v3)]) [0, 1, 2, 3] rfl ?_
  refine k_aload_n C dX11_turn_0 0 rfl ?_
  refine k_getr C shC_0 (j := 0) rfl FL_X11_12 dX11_turn_1 ?_
  refine k_iload_n C dX11_turn_4 1 rfl ?_
  refine k_callVi C (As := [.int v1]) (c_X0_hasDoing hap 1 BD_1 v1 M0 _ rfl) ML_X0_hasDoing wd_542 shC_1 rfl rfl rfl ⟨Nat.le_of_ble_eq_true rfl, Nat.le_of_ble_eq_true rfl⟩ (Nat.le_of_ble_eq_true rfl) dX11_turn_5 ?_
  rcases ite_g hf with ⟨c1, hf⟩ | ⟨c1, hf⟩
  · refine k_if_ne_f C dX11_turn_8 (tgt := 17) (by decide) c1 ?_
    refine k_aload_n C dX11_turn_11 0 rfl ?_
    refine k_iconst C dX11_turn_12 (v := (-1 : Int32)) rfl ?_
    obtain ⟨⟨t12, M12⟩, ht12, hf⟩ := bnd hf
    replace hf := bp_s hf
    refine k_callVi C (As := [.int (-1 : Int32)]) (c_X11_refuse hap (-1 : Int32) M0 (t12, M12) ht12) ML_X11_refuse wd_421 shC_0 rfl rfl rfl ⟨Nat.le_of_ble_eq_true rfl, Nat.le_of_ble_eq_true rfl⟩ (Nat.le_of_ble_eq_true rfl) dX11_turn_13 ?_
    exact k_iret C hr hlk (prf hf) (prs hf) dX11_turn_16
  · refine k_if_ne_t C dX11_turn_8 (tgt := 17) (by decide) c1 ?_
    refine k_iload_n C dX11_turn_17 2 rfl ?_
    refine k_callSi C (As := [.int v2]) (c_X11_isKind hap v2 M0 _ rfl) MS_X11_isKind wd_547 rfl rfl ⟨Nat.le_of_ble_eq_true rfl, Nat.le_of_ble_eq_true rfl⟩ (Nat.le_of_ble_eq_true rfl) dX11_turn_18 ?_
    rcases ite_g hf with ⟨c2, hf⟩ | ⟨c2, hf⟩
    · refine k_if_ne_f C dX11_turn_21 (tgt := 31) (by decide) c2 ?_
      refine k_aload_n C dX11_turn_24 0 rfl ?_
      refine k_bipush C dX11_turn_25 (v := (-2 : Int32)) rfl ?_
      obtain ⟨⟨t11, M11⟩, ht11, hf⟩ := bnd hf
      replace hf := bp_s hf
      refine k_callVi C (As := [.int (-2 : Int32)]) (c_X11_refuse hap (-2 : Int32) M0 (t11, M11) ht11) ML_X11_refuse wd_421 shC_0 rfl rfl rfl ⟨Nat.le_of_ble_eq_true rfl, Nat.le_of_ble_eq_true rfl⟩ (Nat.le_of_ble_eq_true rfl) dX11_turn_27 ?_
      exact k_iret C hr hlk (prf hf) (prs hf) dX11_turn_30
    · refine k_if_ne_t C dX11_turn_21 (tgt := 31) (by decide) c2 ?_
      refine k_iload_n C dX11_turn_31 3 rfl ?_
      rcases ite_g hf with ⟨c3, hf⟩ | ⟨c3, hf⟩
      · refine k_if_ge_t C dX11_turn_32 (tgt := 42) (by decide) c3 ?_
        refine k_iload_n C dX11_turn_42 3 rfl ?_
        refine k_bipush C dX11_turn_43 (v := (9 : Int32)) rfl ?_
        rcases ite_g hf with ⟨c4, hf⟩ | ⟨c4, hf⟩
        · refine k_icmp_le_t C dX11_turn_45 (tgt := 55) (by decide) c4 ?_
          refine k_aload_n C dX11_turn_55 0 rfl ?_
          refine k_getr C shC_0 (j := 0) rfl FL_X11_12 dX11_turn_56 ?_
          refine k_getr C shC_1 (j := 0) rfl FL_X11_125 dX11_turn_59 ?_
          refine k_iload_n C dX11_turn_62 1 rfl ?_
          obtain ⟨t5, ht5, hf⟩ := bnd hf
          refine k_iald C shC_2 ht5 dX11_turn_63 ?_
          refine k_istore C dX11_turn_64 (by decide) [1, 2, 3, 4, 0] (lv' := [(0, .ref (G.2.1 0)), (1, .int v1), (2, .int v2), (3, .int v3), (4, .int t5)]) rfl ?_
          refine k_aload_n C dX11_turn_66 0 rfl ?_
          refine k_getr C shC_0 (j := 0) rfl FL_X11_12 dX11_turn_67 ?_
          refine k_getr C shC_1 (j := 1) rfl FL_X11_128 dX11_turn_70 ?_
          refine k_iload_n C dX11_turn_73 1 rfl ?_
          obtain ⟨t6, ht6, hf⟩ := bnd hf
          refine k_iald C shC_3 ht6 dX11_turn_74 ?_
          refine k_istore C dX11_turn_75 (by decide) [1, 2, 3, 4, 5, 0] (lv' := [(0, .ref (G.2.1 0)), (1, .int v1), (2, .int v2), (3, .int v3), (4, .int t5), (5, .int t6)]) rfl ?_
          refine k_aload_n C dX11_turn_77 0 rfl ?_
          refine k_getr C shC_0 (j := 0) rfl FL_X11_12 dX11_turn_78 ?_
          refine k_iload_n C dX11_turn_81 1 rfl ?_
          refine k_iload_n C dX11_turn_82 2 rfl ?_
          refine k_iload_n C dX11_turn_83 3 rfl ?_
          obtain ⟨M7, hM7, hf⟩ := bnd hf
          refine k_callVv C (As := [.int v1, .int v2, .int v3]) (c_X0_setKind hap 1 BD_1 v1 v2 v3 M0 M7 hM7) ML_X0_setKind wd_626 shC_1 rfl rfl rfl ⟨Nat.le_of_ble_eq_true rfl, Nat.le_of_ble_eq_true rfl⟩ (Nat.le_of_ble_eq_true rfl) dX11_turn_84 ?_
          refine k_aload_n C dX11_turn_87 0 rfl ?_
          refine k_getr C shC_0 (j := 3) rfl FL_X11_26 dX11_turn_88 ?_
          refine k_iconst C dX11_turn_91 (v := (1 : Int32)) rfl ?_
          refine k_iload_n C dX11_turn_92 1 rfl ?_
          refine k_iload C dX11_turn_93 4 rfl ?_
          refine k_iload C dX11_turn_95 5 rfl ?_
          obtain ⟨M8, hM8, hf⟩ := bnd hf
          refine k_callVv C (As := [.int (1 : Int32), .int v1, .int t5, .int t6]) (c_X10_keep hap (1 : Int32) v1 t5 t6 M7 M8 hM8) ML_X10_keep wd_609 shC_11 rfl rfl rfl ⟨Nat.le_of_ble_eq_true rfl, Nat.le_of_ble_eq_true rfl⟩ (Nat.le_of_ble_eq_true rfl) dX11_turn_97 ?_
          refine k_bipush C dX11_turn_100 (v := (10 : Int32)) rfl ?_
          refine k_iload C dX11_turn_102 4 rfl ?_
          refine k_imul C dX11_turn_104 ?_
          refine k_iload C dX11_turn_105 5 rfl ?_
          refine k_iadd C dX11_turn_107 ?_
          exact k_iret C hr hlk (prf hf) (prs hf) dX11_turn_108
        · refine k_icmp_le_f C dX11_turn_45 (tgt := 55) (by decide) c4 ?_
          refine k_aload_n C dX11_turn_48 0 rfl ?_
          refine k_bipush C dX11_turn_49 (v := (-6 : Int32)) rfl ?_
          obtain ⟨⟨t9, M9⟩, ht9, hf⟩ := bnd hf
          replace hf := bp_s hf
          refine k_callVi C (As := [.int (-6 : Int32)]) (c_X11_refuse hap (-6 : Int32) M0 (t9, M9) ht9) ML_X11_refuse wd_421 shC_0 rfl rfl rfl ⟨Nat.le_of_ble_eq_true rfl, Nat.le_of_ble_eq_true rfl⟩ (Nat.le_of_ble_eq_true rfl) dX11_turn_51 ?_
          exact k_iret C hr hlk (prf hf) (prs hf) dX11_turn_54
      · refine k_if_ge_f C dX11_turn_32 (tgt := 42) (by decide) c3 ?_
        refine k_aload_n C dX11_turn_35 0 rfl ?_
        refine k_bipush C dX11_turn_36 (v := (-4 : Int32)) rfl ?_
        obtain ⟨⟨t10, M10⟩, ht10, hf⟩ := bnd hf
        replace hf := bp_s hf
        refine k_callVi C (As := [.int (-4 : Int32)]) (c_X11_refuse hap (-4 : Int32) M0 (t10, M10) ht10) ML_X11_refuse wd_421 shC_0 rfl rfl rfl ⟨Nat.le_of_ble_eq_true rfl, Nat.le_of_ble_eq_true rfl⟩ (Nat.le_of_ble_eq_true rfl) dX11_turn_38 ?_
        exact k_iret C hr hlk (prf hf) (prs hf) dX11_turn_41
theorem dX11_marks_0 : decode cX11_marks 0 = .ok (.aload_n 0, 1) := by decide +kernel
theorem dX11_marks_1 : decode cX11_marks 1 = .ok (.getfield 12, 3) := by decide +kernel
theorem dX11_marks_4 : decode cX11_marks 4 = .ok (.iload_n 1, 1) := by decide +kernel
theorem dX11_marks_5 : decode cX11_marks 5 = .ok (.invokevirtual 121, 3) := by decide +kernel
theorem dX11_marks_8 : decode cX11_marks 8 = .ok (.ifCond .eq 10, 3) := by decide +kernel
theorem dX11_marks_11 : decode cX11_marks 11 = .ok (.iload_n 2, 1) := by decide +kernel
theorem dX11_marks_12 : decode cX11_marks 12 = .ok (.invokestatic 166, 3) := by decide +kernel
theorem dX11_marks_15 : decode cX11_marks 15 = .ok (.ifCond .ne 9, 3) := by decide +kernel
theorem dX11_marks_18 : decode cX11_marks 18 = .ok (.aload_n 0, 1) := by decide +kernel
theorem dX11_marks_19 : decode cX11_marks 19 = .ok (.iconst (-1), 1) := by decide +kernel
theorem dX11_marks_20 : decode cX11_marks 20 = .ok (.invokevirtual 103, 3) := by decide +kernel
theorem dX11_marks_23 : decode cX11_marks 23 = .ok (.ireturn, 1) := by decide +kernel
theorem dX11_marks_24 : decode cX11_marks 24 = .ok (.aload_n 0, 1) := by decide +kernel
theorem dX11_marks_25 : decode cX11_marks 25 = .ok (.getfield 12, 3) := by decide +kernel
theorem dX11_marks_28 : decode cX11_marks 28 = .ok (.iload_n 1, 1) := by decide +kernel
theorem dX11_marks_29 : decode cX11_marks 29 = .ok (.iload_n 2, 1) := by decide +kernel
theorem dX11_marks_30 : decode cX11_marks 30 = .ok (.invokevirtual 169, 3) := by decide +kernel
theorem dX11_marks_33 : decode cX11_marks 33 = .ok (.aload_n 0, 1) := by decide +kernel
theorem dX11_marks_34 : decode cX11_marks 34 = .ok (.getfield 26, 3) := by decide +kernel
theorem dX11_marks_37 : decode cX11_marks 37 = .ok (.iconst 2, 1) := by decide +kernel
theorem dX11_marks_38 : decode cX11_marks 38 = .ok (.iload_n 1, 1) := by decide +kernel
theorem dX11_marks_39 : decode cX11_marks 39 = .ok (.iload_n 2, 1) := by decide +kernel
theorem dX11_marks_40 : decode cX11_marks 40 = .ok (.iconst 0, 1) := by decide +kernel
theorem dX11_marks_41 : decode cX11_marks 41 = .ok (.invokevirtual 155, 3) := by decide +kernel
theorem dX11_marks_44 : decode cX11_marks 44 = .ok (.aload_n 0, 1) := by decide +kernel
theorem dX11_marks_45 : decode cX11_marks 45 = .ok (.getfield 12, 3) := by decide +kernel
theorem dX11_marks_48 : decode cX11_marks 48 = .ok (.getfield 131, 3) := by decide +kernel
theorem dX11_marks_51 : decode cX11_marks 51 = .ok (.iload_n 1, 1) := by decide +kernel
theorem dX11_marks_52 : decode cX11_marks 52 = .ok (.iaload, 1) := by decide +kernel
theorem dX11_marks_53 : decode cX11_marks 53 = .ok (.iload_n 2, 1) := by decide +kernel
theorem dX11_marks_54 : decode cX11_marks 54 = .ok (.ishr, 1) := by decide +kernel
theorem dX11_marks_55 : decode cX11_marks 55 = .ok (.iconst 1, 1) := by decide +kernel
theorem dX11_marks_56 : decode cX11_marks 56 = .ok (.iand, 1) := by decide +kernel
theorem dX11_marks_57 : decode cX11_marks 57 = .ok (.ireturn, 1) := by decide +kernel
set_option maxRecDepth 100000 in
set_option maxHeartbeats 4000000 in
theorem c_X11_marks {l : Launch} {G : Gx} (hap : k_ap G shC.length) (v1 : Int32) (v2 : Int32) (M0 : Mem) (r : Int32 × Mem) (hf : f_X11_marks v1 v2 M0 = some r) : k_Met l yX11_marks cX11_marks 3 (some .int) 3 84 G shC [.ref (G.2.1 0), .int v1, .int v2] M0 (k_Qi G shC r.1 r.2) := by
  refine k_Met_of (by decide) hap (Nat.le_of_ble_eq_true rfl) ?_
  intro p e s m args below meth c C hr hlk
  have C : Cx p s m args c cX11_marks RX11 3 G shC := C
  unfold f_X11_marks at hf
  refine k_lv (lv' := [(0, .ref (G.2.1 0)), (1, .int v1), (2, .int v2)]) [0, 1, 2] rfl ?_
  refine k_aload_n C dX11_marks_0 0 rfl ?_
  refine k_getr C shC_0 (j := 0) rfl FL_X11_12 dX11_marks_1 ?_
  refine k_iload_n C dX11_marks_4 1 rfl ?_
  refine k_callVi C (As := [.int v1]) (c_X0_hasDoing hap 1 BD_1 v1 M0 _ rfl) ML_X0_hasDoing wd_542 shC_1 rfl rfl rfl ⟨Nat.le_of_ble_eq_true rfl, Nat.le_of_ble_eq_true rfl⟩ (Nat.le_of_ble_eq_true rfl) dX11_marks_5 ?_
  rcases ite_g hf with ⟨c1, hf⟩ | ⟨c1, hf⟩
  · refine k_if_eq_t C dX11_marks_8 (tgt := 18) (by decide) c1 ?_
    refine k_aload_n C dX11_marks_18 0 rfl ?_
    refine k_iconst C dX11_marks_19 (v := (-1 : Int32)) rfl ?_
    obtain ⟨⟨t2, M2⟩, ht2, hf⟩ := bnd hf
    replace hf := bp_s hf
    refine k_callVi C (As := [.int (-1 : Int32)]) (c_X11_refuse hap (-1 : Int32) M0 (t2, M2) ht2) ML_X11_refuse wd_421 shC_0 rfl rfl rfl ⟨Nat.le_of_ble_eq_true rfl, Nat.le_of_ble_eq_true rfl⟩ (Nat.le_of_ble_eq_true rfl) dX11_marks_20 ?_
    exact k_iret C hr hlk (prf hf) (prs hf) dX11_marks_23
  · refine k_if_eq_f C dX11_marks_8 (tgt := 18) (by decide) c1 ?_
    refine k_iload_n C dX11_marks_11 2 rfl ?_
    refine k_callSi C (As := [.int v2]) (c_X11_isMark hap v2 M0 _ rfl) MS_X11_isMark wd_631 rfl rfl ⟨Nat.le_of_ble_eq_true rfl, Nat.le_of_ble_eq_true rfl⟩ (Nat.le_of_ble_eq_true rfl) dX11_marks_12 ?_
    rcases ite_g hf with ⟨c3, hf⟩ | ⟨c3, hf⟩
    · refine k_if_ne_f C dX11_marks_15 (tgt := 24) (by decide) c3 ?_
      refine k_aload_n C dX11_marks_18 0 rfl ?_
      refine k_iconst C dX11_marks_19 (v := (-1 : Int32)) rfl ?_
      obtain ⟨⟨t7, M7⟩, ht7, hf⟩ := bnd hf
      replace hf := bp_s hf
      refine k_callVi C (As := [.int (-1 : Int32)]) (c_X11_refuse hap (-1 : Int32) M0 (t7, M7) ht7) ML_X11_refuse wd_421 shC_0 rfl rfl rfl ⟨Nat.le_of_ble_eq_true rfl, Nat.le_of_ble_eq_true rfl⟩ (Nat.le_of_ble_eq_true rfl) dX11_marks_20 ?_
      exact k_iret C hr hlk (prf hf) (prs hf) dX11_marks_23
    · refine k_if_ne_t C dX11_marks_15 (tgt := 24) (by decide) c3 ?_
      refine k_aload_n C dX11_marks_24 0 rfl ?_
      refine k_getr C shC_0 (j := 0) rfl FL_X11_12 dX11_marks_25 ?_
      refine k_iload_n C dX11_marks_28 1 rfl ?_
      refine k_iload_n C dX11_marks_29 2 rfl ?_
      obtain ⟨M4, hM4, hf⟩ := bnd hf
      refine k_callVv C (As := [.int v1, .int v2]) (c_X0_flipMark hap 1 BD_1 v1 v2 M0 M4 hM4) ML_X0_flipMark wd_632 shC_1 rfl rfl rfl ⟨Nat.le_of_ble_eq_true rfl, Nat.le_of_ble_eq_true rfl⟩ (Nat.le_of_ble_eq_true rfl) dX11_marks_30 ?_
      refine k_aload_n C dX11_marks_33 0 rfl ?_
      refine k_getr C shC_0 (j := 3) rfl FL_X11_26 dX11_marks_34 ?_
      refine k_iconst C dX11_marks_37 (v := (2 : Int32)) rfl ?_
      refine k_iload_n C dX11_marks_38 1 rfl ?_
      refine k_iload_n C dX11_marks_39 2 rfl ?_
      refine k_iconst C dX11_marks_40 (v := (0 : Int32)) rfl ?_
      obtain ⟨M5, hM5, hf⟩ := bnd hf
      refine k_callVv C (As := [.int (2 : Int32), .int v1, .int v2, .int (0 : Int32)]) (c_X10_keep hap (2 : Int32) v1 v2 (0 : Int32) M4 M5 hM5) ML_X10_keep wd_609 shC_11 rfl rfl rfl ⟨Nat.le_of_ble_eq_true rfl, Nat.le_of_ble_eq_true rfl⟩ (Nat.le_of_ble_eq_true rfl) dX11_marks_41 ?_
      refine k_aload_n C dX11_marks_44 0 rfl ?_
      refine k_getr C shC_0 (j := 0) rfl FL_X11_12 dX11_marks_45 ?_
      refine k_getr C shC_1 (j := 2) rfl FL_X11_131 dX11_marks_48 ?_
      refine k_iload_n C dX11_marks_51 1 rfl ?_
      obtain ⟨t6, ht6, hf⟩ := bnd hf
      refine k_iald C shC_4 ht6 dX11_marks_52 ?_
      refine k_iload_n C dX11_marks_53 2 rfl ?_
      refine k_ishrJ C dX11_marks_54 ?_
      refine k_iconst C dX11_marks_55 (v := (1 : Int32)) rfl ?_
      refine k_iand C dX11_marks_56 ?_
      exact k_iret C hr hlk (prf hf) (prs hf) dX11_marks_57
theorem dX11_law_0 : decode cX11_law 0 = .ok (.iload_n 1, 1) := by decide +kernel
theorem dX11_law_1 : decode cX11_law 1 = .ok (.invokestatic 173, 3) := by decide +kernel
theorem dX11_law_4 : decode cX11_law 4 = .ok (.ifCond .ne 10, 3) := by decide +kernel
theorem dX11_law_7 : decode cX11_law 7 = .ok (.aload_n 0, 1) := by decide +kernel
theorem dX11_law_8 : decode cX11_law 8 = .ok (.bipush (-2), 2) := by decide +kernel
theorem dX11_law_10 : decode cX11_law 10 = .ok (.invokevirtual 103, 3) := by decide +kernel
theorem dX11_law_13 : decode cX11_law 13 = .ok (.ireturn, 1) := by decide +kernel
theorem dX11_law_14 : decode cX11_law 14 = .ok (.iload_n 2, 1) := by decide +kernel
theorem dX11_law_15 : decode cX11_law 15 = .ok (.ifCond .ge 10, 3) := by decide +kernel
theorem dX11_law_18 : decode cX11_law 18 = .ok (.aload_n 0, 1) := by decide +kernel
theorem dX11_law_19 : decode cX11_law 19 = .ok (.bipush (-4), 2) := by decide +kernel
theorem dX11_law_21 : decode cX11_law 21 = .ok (.invokevirtual 103, 3) := by decide +kernel
theorem dX11_law_24 : decode cX11_law 24 = .ok (.ireturn, 1) := by decide +kernel
theorem dX11_law_25 : decode cX11_law 25 = .ok (.iload_n 2, 1) := by decide +kernel
theorem dX11_law_26 : decode cX11_law 26 = .ok (.bipush 8, 2) := by decide +kernel
theorem dX11_law_28 : decode cX11_law 28 = .ok (.if_icmp .le 10, 3) := by decide +kernel
theorem dX11_law_31 : decode cX11_law 31 = .ok (.aload_n 0, 1) := by decide +kernel
theorem dX11_law_32 : decode cX11_law 32 = .ok (.bipush (-6), 2) := by decide +kernel
theorem dX11_law_34 : decode cX11_law 34 = .ok (.invokevirtual 103, 3) := by decide +kernel
theorem dX11_law_37 : decode cX11_law 37 = .ok (.ireturn, 1) := by decide +kernel
theorem dX11_law_38 : decode cX11_law 38 = .ok (.aload_n 0, 1) := by decide +kernel
theorem dX11_law_39 : decode cX11_law 39 = .ok (.getfield 12, 3) := by decide +kernel
theorem dX11_law_42 : decode cX11_law 42 = .ok (.getfield 176, 3) := by decide +kernel
theorem dX11_law_45 : decode cX11_law 45 = .ok (.istore_n 3, 1) := by decide +kernel
theorem dX11_law_46 : decode cX11_law 46 = .ok (.aload_n 0, 1) := by decide +kernel
theorem dX11_law_47 : decode cX11_law 47 = .ok (.getfield 12, 3) := by decide +kernel
theorem dX11_law_50 : decode cX11_law 50 = .ok (.getfield 179, 3) := by decide +kernel
theorem dX11_law_53 : decode cX11_law 53 = .ok (.istore 4, 2) := by decide +kernel
theorem dX11_law_55 : decode cX11_law 55 = .ok (.aload_n 0, 1) := by decide +kernel
theorem dX11_law_56 : decode cX11_law 56 = .ok (.getfield 12, 3) := by decide +kernel
theorem dX11_law_59 : decode cX11_law 59 = .ok (.iload_n 1, 1) := by decide +kernel
theorem dX11_law_60 : decode cX11_law 60 = .ok (.iload_n 2, 1) := by decide +kernel
theorem dX11_law_61 : decode cX11_law 61 = .ok (.invokevirtual 182, 3) := by decide +kernel
theorem dX11_law_64 : decode cX11_law 64 = .ok (.aload_n 0, 1) := by decide +kernel
theorem dX11_law_65 : decode cX11_law 65 = .ok (.getfield 26, 3) := by decide +kernel
theorem dX11_law_68 : decode cX11_law 68 = .ok (.iconst 3, 1) := by decide +kernel
theorem dX11_law_69 : decode cX11_law 69 = .ok (.iconst 0, 1) := by decide +kernel
theorem dX11_law_70 : decode cX11_law 70 = .ok (.iload_n 3, 1) := by decide +kernel
theorem dX11_law_71 : decode cX11_law 71 = .ok (.iload 4, 2) := by decide +kernel
theorem dX11_law_73 : decode cX11_law 73 = .ok (.invokevirtual 155, 3) := by decide +kernel
theorem dX11_law_76 : decode cX11_law 76 = .ok (.bipush 10, 2) := by decide +kernel
theorem dX11_law_78 : decode cX11_law 78 = .ok (.iload_n 3, 1) := by decide +kernel
theorem dX11_law_79 : decode cX11_law 79 = .ok (.imul, 1) := by decide +kernel
theorem dX11_law_80 : decode cX11_law 80 = .ok (.iload 4, 2) := by decide +kernel
theorem dX11_law_82 : decode cX11_law 82 = .ok (.iadd, 1) := by decide +kernel
theorem dX11_law_83 : decode cX11_law 83 = .ok (.ireturn, 1) := by decide +kernel
set_option maxRecDepth 100000 in
set_option maxHeartbeats 4000000 in
theorem c_X11_law {l : Launch} {G : Gx} (hap : k_ap G shC.length) (v1 : Int32) (v2 : Int32) (M0 : Mem) (r : Int32 × Mem) (hf : f_X11_law v1 v2 M0 = some r) : k_Met l yX11_law cX11_law 5 (some .int) 3 84 G shC [.ref (G.2.1 0), .int v1, .int v2] M0 (k_Qi G shC r.1 r.2) := by
  refine k_Met_of (by decide) hap (Nat.le_of_ble_eq_true rfl) ?_
  intro p e s m args below meth c C hr hlk
  have C : Cx p s m args c cX11_law RX11 5 G shC := C
  unfold f_X11_law at hf
  refine k_lv (lv' := [(0, .ref (G.2.1 0)), (1, .int v1), (2, .int v2)]) [0, 1, 2] rfl ?_
  refine k_iload_n C dX11_law_0 1 rfl ?_
  refine k_callSi C (As := [.int v1]) (c_X11_isType hap v1 M0 _ rfl) MS_X11_isType wd_637 rfl rfl ⟨Nat.le_of_ble_eq_true rfl, Nat.le_of_ble_eq_true rfl⟩ (Nat.le_of_ble_eq_true rfl) dX11_law_1 ?_
  rcases ite_g hf with ⟨c1, hf⟩ | ⟨c1, hf⟩
  · refine k_if_ne_f C dX11_law_4 (tgt := 14) (by decide) c1 ?_
    refine k_aload_n C dX11_law_7 0 rfl ?_
    refine k_bipush C dX11_law_8 (v := (-2 : Int32)) rfl ?_
    obtain ⟨⟨t8, M8⟩, ht8, hf⟩ := bnd hf
    replace hf := bp_s hf
    refine k_callVi C (As := [.int (-2 : Int32)]) (c_X11_refuse hap (-2 : Int32) M0 (t8, M8) ht8) ML_X11_refuse wd_421 shC_0 rfl rfl rfl ⟨Nat.le_of_ble_eq_true rfl, Nat.le_of_ble_eq_true rfl⟩ (Nat.le_of_ble_eq_true rfl) dX11_law_10 ?_
    exact k_iret C hr hlk (prf hf) (prs hf) dX11_law_13
  · refine k_if_ne_t C dX11_law_4 (tgt := 14) (by decide) c1 ?_
    refine k_iload_n C dX11_law_14 2 rfl ?_
    rcases ite_g hf with ⟨c2, hf⟩ | ⟨c2, hf⟩
    · refine k_if_ge_t C dX11_law_15 (tgt := 25) (by decide) c2 ?_
      refine k_iload_n C dX11_law_25 2 rfl ?_
      refine k_bipush C dX11_law_26 (v := (8 : Int32)) rfl ?_
      rcases ite_g hf with ⟨c3, hf⟩ | ⟨c3, hf⟩
      · refine k_icmp_le_t C dX11_law_28 (tgt := 38) (by decide) c3 ?_
        refine k_aload_n C dX11_law_38 0 rfl ?_
        refine k_getr C shC_0 (j := 0) rfl FL_X11_12 dX11_law_39 ?_
        refine k_geti C shC_1 (j := 6) rfl FL_X11_176 dX11_law_42 ?_
        refine k_istore_n C dX11_law_45 (by decide) [1, 2, 3, 0] (lv' := [(0, .ref (G.2.1 0)), (1, .int v1), (2, .int v2), (3, .int (M0.1 1 6))]) rfl ?_
        refine k_aload_n C dX11_law_46 0 rfl ?_
        refine k_getr C shC_0 (j := 0) rfl FL_X11_12 dX11_law_47 ?_
        refine k_geti C shC_1 (j := 7) rfl FL_X11_179 dX11_law_50 ?_
        refine k_istore C dX11_law_53 (by decide) [1, 2, 3, 4, 0] (lv' := [(0, .ref (G.2.1 0)), (1, .int v1), (2, .int v2), (3, .int (M0.1 1 6)), (4, .int (M0.1 1 7))]) rfl ?_
        refine k_aload_n C dX11_law_55 0 rfl ?_
        refine k_getr C shC_0 (j := 0) rfl FL_X11_12 dX11_law_56 ?_
        refine k_iload_n C dX11_law_59 1 rfl ?_
        refine k_iload_n C dX11_law_60 2 rfl ?_
        obtain ⟨M4, hM4, hf⟩ := bnd hf
        refine k_callVv C (As := [.int v1, .int v2]) (c_X0_setLaw hap 1 BD_1 v1 v2 M0 M4 hM4) ML_X0_setLaw wd_638 shC_1 rfl rfl rfl ⟨Nat.le_of_ble_eq_true rfl, Nat.le_of_ble_eq_true rfl⟩ (Nat.le_of_ble_eq_true rfl) dX11_law_61 ?_
        refine k_aload_n C dX11_law_64 0 rfl ?_
        refine k_getr C shC_0 (j := 3) rfl FL_X11_26 dX11_law_65 ?_
        refine k_iconst C dX11_law_68 (v := (3 : Int32)) rfl ?_
        refine k_iconst C dX11_law_69 (v := (0 : Int32)) rfl ?_
        refine k_iload_n C dX11_law_70 3 rfl ?_
        refine k_iload C dX11_law_71 4 rfl ?_
        obtain ⟨M5, hM5, hf⟩ := bnd hf
        refine k_callVv C (As := [.int (3 : Int32), .int (0 : Int32), .int (M0.1 1 6), .int (M0.1 1 7)]) (c_X10_keep hap (3 : Int32) (0 : Int32) (M0.1 1 6) (M0.1 1 7) M4 M5 hM5) ML_X10_keep wd_609 shC_11 rfl rfl rfl ⟨Nat.le_of_ble_eq_true rfl, Nat.le_of_ble_eq_true rfl⟩ (Nat.le_of_ble_eq_true rfl) dX11_law_73 ?_
        refine k_bipush C dX11_law_76 (v := (10 : Int32)) rfl ?_
        refine k_iload_n C dX11_law_78 3 rfl ?_
        refine k_imul C dX11_law_79 ?_
        refine k_iload C dX11_law_80 4 rfl ?_
        refine k_iadd C dX11_law_82 ?_
        exact k_iret C hr hlk (prf hf) (prs hf) dX11_law_83
      · refine k_icmp_le_f C dX11_law_28 (tgt := 38) (by decide) c3 ?_
        refine k_aload_n C dX11_law_31 0 rfl ?_
        refine k_bipush C dX11_law_32 (v := (-6 : Int32)) rfl ?_
        obtain ⟨⟨t6, M6⟩, ht6, hf⟩ := bnd hf
        replace hf := bp_s hf
        refine k_callVi C (As := [.int (-6 : Int32)]) (c_X11_refuse hap (-6 : Int32) M0 (t6, M6) ht6) ML_X11_refuse wd_421 shC_0 rfl rfl rfl ⟨Nat.le_of_ble_eq_true rfl, Nat.le_of_ble_eq_true rfl⟩ (Nat.le_of_ble_eq_true rfl) dX11_law_34 ?_
        exact k_iret C hr hlk (prf hf) (prs hf) dX11_law_37
    · refine k_if_ge_f C dX11_law_15 (tgt := 25) (by decide) c2 ?_
      refine k_aload_n C dX11_law_18 0 rfl ?_
      refine k_bipush C dX11_law_19 (v := (-4 : Int32)) rfl ?_
      obtain ⟨⟨t7, M7⟩, ht7, hf⟩ := bnd hf
      replace hf := bp_s hf
      refine k_callVi C (As := [.int (-4 : Int32)]) (c_X11_refuse hap (-4 : Int32) M0 (t7, M7) ht7) ML_X11_refuse wd_421 shC_0 rfl rfl rfl ⟨Nat.le_of_ble_eq_true rfl, Nat.le_of_ble_eq_true rfl⟩ (Nat.le_of_ble_eq_true rfl) dX11_law_21 ?_
      exact k_iret C hr hlk (prf hf) (prs hf) dX11_law_24
theorem dX11_back_0 : decode cX11_back 0 = .ok (.aload_n 0, 1) := by decide +kernel
theorem dX11_back_1 : decode cX11_back 1 = .ok (.getfield 26, 3) := by decide +kernel
theorem dX11_back_4 : decode cX11_back 4 = .ok (.getfield 185, 3) := by decide +kernel
theorem dX11_back_7 : decode cX11_back 7 = .ok (.ifCond .gt 10, 3) := by decide +kernel
theorem dX11_back_10 : decode cX11_back 10 = .ok (.aload_n 0, 1) := by decide +kernel
theorem dX11_back_11 : decode cX11_back 11 = .ok (.bipush (-3), 2) := by decide +kernel
theorem dX11_back_13 : decode cX11_back 13 = .ok (.invokevirtual 103, 3) := by decide +kernel
theorem dX11_back_16 : decode cX11_back 16 = .ok (.ireturn, 1) := by decide +kernel
theorem dX11_back_17 : decode cX11_back 17 = .ok (.aload_n 0, 1) := by decide +kernel
theorem dX11_back_18 : decode cX11_back 18 = .ok (.getfield 26, 3) := by decide +kernel
theorem dX11_back_21 : decode cX11_back 21 = .ok (.aload_n 0, 1) := by decide +kernel
theorem dX11_back_22 : decode cX11_back 22 = .ok (.getfield 12, 3) := by decide +kernel
theorem dX11_back_25 : decode cX11_back 25 = .ok (.invokevirtual 186, 3) := by decide +kernel
theorem dX11_back_28 : decode cX11_back 28 = .ok (.ireturn, 1) := by decide +kernel
set_option maxRecDepth 100000 in
set_option maxHeartbeats 4000000 in
theorem c_X11_back {l : Launch} {G : Gx} (hap : k_ap G shC.length) (M0 : Mem) (r : Int32 × Mem) (hf : f_X11_back M0 = some r) : k_Met l yX11_back cX11_back 1 (some .int) 2 61 G shC [.ref (G.2.1 0)] M0 (k_Qi G shC r.1 r.2) := by
  refine k_Met_of (by decide) hap (Nat.le_of_ble_eq_true rfl) ?_
  intro p e s m args below meth c C hr hlk
  have C : Cx p s m args c cX11_back RX11 1 G shC := C
  unfold f_X11_back at hf
  refine k_lv (lv' := [(0, .ref (G.2.1 0))]) [0] rfl ?_
  refine k_aload_n C dX11_back_0 0 rfl ?_
  refine k_getr C shC_0 (j := 3) rfl FL_X11_26 dX11_back_1 ?_
  refine k_geti C shC_11 (j := 4) rfl FL_X11_185 dX11_back_4 ?_
  rcases ite_g hf with ⟨c1, hf⟩ | ⟨c1, hf⟩
  · refine k_if_gt_t C dX11_back_7 (tgt := 17) (by decide) c1 ?_
    refine k_aload_n C dX11_back_17 0 rfl ?_
    refine k_getr C shC_0 (j := 3) rfl FL_X11_26 dX11_back_18 ?_
    refine k_aload_n C dX11_back_21 0 rfl ?_
    refine k_getr C shC_0 (j := 0) rfl FL_X11_12 dX11_back_22 ?_
    obtain ⟨⟨t2, M2⟩, ht2, hf⟩ := bnd hf
    replace hf := bp_s hf
    refine k_callVi C (As := [.ref (G.2.1 1)]) (c_X10_undoLatest hap M0 (t2, M2) ht2) ML_X10_undoLatest wd_643 shC_11 rfl rfl rfl ⟨Nat.le_of_ble_eq_true rfl, Nat.le_of_ble_eq_true rfl⟩ (Nat.le_of_ble_eq_true rfl) dX11_back_25 ?_
    exact k_iret C hr hlk (prf hf) (prs hf) dX11_back_28
  · refine k_if_gt_f C dX11_back_7 (tgt := 17) (by decide) c1 ?_
    refine k_aload_n C dX11_back_10 0 rfl ?_
    refine k_bipush C dX11_back_11 (v := (-3 : Int32)) rfl ?_
    obtain ⟨⟨t3, M3⟩, ht3, hf⟩ := bnd hf
    replace hf := bp_s hf
    refine k_callVi C (As := [.int (-3 : Int32)]) (c_X11_refuse hap (-3 : Int32) M0 (t3, M3) ht3) ML_X11_refuse wd_421 shC_0 rfl rfl rfl ⟨Nat.le_of_ble_eq_true rfl, Nat.le_of_ble_eq_true rfl⟩ (Nat.le_of_ble_eq_true rfl) dX11_back_13 ?_
    exact k_iret C hr hlk (prf hf) (prs hf) dX11_back_16
theorem dX11_same_0 : decode cX11_same 0 = .ok (.aload_n 0, 1) := by decide +kernel
theorem dX11_same_1 : decode cX11_same 1 = .ok (.getfield 12, 3) := by decide +kernel
theorem dX11_same_4 : decode cX11_same 4 = .ok (.iload_n 1, 1) := by decide +kernel
theorem dX11_same_5 : decode cX11_same 5 = .ok (.invokevirtual 121, 3) := by decide +kernel
theorem dX11_same_8 : decode cX11_same 8 = .ok (.ifCond .eq 14, 3) := by decide +kernel
theorem dX11_same_11 : decode cX11_same 11 = .ok (.aload_n 0, 1) := by decide +kernel
theorem dX11_same_12 : decode cX11_same 12 = .ok (.getfield 12, 3) := by decide +kernel
theorem dX11_same_15 : decode cX11_same 15 = .ok (.iload_n 2, 1) := by decide +kernel
theorem dX11_same_16 : decode cX11_same 16 = .ok (.invokevirtual 121, 3) := by decide +kernel
theorem dX11_same_19 : decode cX11_same 19 = .ok (.ifCond .ne 9, 3) := by decide +kernel
theorem dX11_same_22 : decode cX11_same 22 = .ok (.aload_n 0, 1) := by decide +kernel
theorem dX11_same_23 : decode cX11_same 23 = .ok (.iconst (-1), 1) := by decide +kernel
theorem dX11_same_24 : decode cX11_same 24 = .ok (.invokevirtual 103, 3) := by decide +kernel
theorem dX11_same_27 : decode cX11_same 27 = .ok (.ireturn, 1) := by decide +kernel
theorem dX11_same_28 : decode cX11_same 28 = .ok (.aload_n 0, 1) := by decide +kernel
theorem dX11_same_29 : decode cX11_same 29 = .ok (.getfield 12, 3) := by decide +kernel
theorem dX11_same_32 : decode cX11_same 32 = .ok (.iload_n 1, 1) := by decide +kernel
theorem dX11_same_33 : decode cX11_same 33 = .ok (.iload_n 2, 1) := by decide +kernel
theorem dX11_same_34 : decode cX11_same 34 = .ok (.aload_n 0, 1) := by decide +kernel
theorem dX11_same_35 : decode cX11_same 35 = .ok (.getfield 12, 3) := by decide +kernel
theorem dX11_same_38 : decode cX11_same 38 = .ok (.getfield 176, 3) := by decide +kernel
theorem dX11_same_41 : decode cX11_same 41 = .ok (.aload_n 0, 1) := by decide +kernel
theorem dX11_same_42 : decode cX11_same 42 = .ok (.getfield 12, 3) := by decide +kernel
theorem dX11_same_45 : decode cX11_same 45 = .ok (.getfield 179, 3) := by decide +kernel
theorem dX11_same_48 : decode cX11_same 48 = .ok (.invokevirtual 189, 3) := by decide +kernel
theorem dX11_same_51 : decode cX11_same 51 = .ok (.ifCond .eq 7, 3) := by decide +kernel
theorem dX11_same_54 : decode cX11_same 54 = .ok (.iconst 1, 1) := by decide +kernel
theorem dX11_same_55 : decode cX11_same 55 = .ok (.goto 4, 3) := by decide +kernel
theorem dX11_same_58 : decode cX11_same 58 = .ok (.iconst 0, 1) := by decide +kernel
theorem dX11_same_59 : decode cX11_same 59 = .ok (.ireturn, 1) := by decide +kernel
set_option maxRecDepth 100000 in
set_option maxHeartbeats 4000000 in
theorem c_X11_same {l : Launch} {G : Gx} (hap : k_ap G shC.length) (v1 : Int32) (v2 : Int32) (M0 : Mem) (r : Int32 × Mem) (hf : f_X11_same v1 v2 M0 = some r) : k_Met l yX11_same cX11_same 3 (some .int) 2 44 G shC [.ref (G.2.1 0), .int v1, .int v2] M0 (k_Qi G shC r.1 r.2) := by
  refine k_Met_of (by decide) hap (Nat.le_of_ble_eq_true rfl) ?_
  intro p e s m args below meth c C hr hlk
  have C : Cx p s m args c cX11_same RX11 3 G shC := C
  unfold f_X11_same at hf
  refine k_lv (lv' := [(0, .ref (G.2.1 0)), (1, .int v1), (2, .int v2)]) [0, 1, 2] rfl ?_
  refine k_aload_n C dX11_same_0 0 rfl ?_
  refine k_getr C shC_0 (j := 0) rfl FL_X11_12 dX11_same_1 ?_
  refine k_iload_n C dX11_same_4 1 rfl ?_
  refine k_callVi C (As := [.int v1]) (c_X0_hasDoing hap 1 BD_1 v1 M0 _ rfl) ML_X0_hasDoing wd_542 shC_1 rfl rfl rfl ⟨Nat.le_of_ble_eq_true rfl, Nat.le_of_ble_eq_true rfl⟩ (Nat.le_of_ble_eq_true rfl) dX11_same_5 ?_
  rcases ite_g hf with ⟨c1, hf⟩ | ⟨c1, hf⟩
  · refine k_if_eq_t C dX11_same_8 (tgt := 22) (by decide) c1 ?_
    refine k_aload_n C dX11_same_22 0 rfl ?_
    refine k_iconst C dX11_same_23 (v := (-1 : Int32)) rfl ?_
    obtain ⟨⟨t2, M2⟩, ht2, hf⟩ := bnd hf
    replace hf := bp_s hf
    refine k_callVi C (As := [.int (-1 : Int32)]) (c_X11_refuse hap (-1 : Int32) M0 (t2, M2) ht2) ML_X11_refuse wd_421 shC_0 rfl rfl rfl ⟨Nat.le_of_ble_eq_true rfl, Nat.le_of_ble_eq_true rfl⟩ (Nat.le_of_ble_eq_true rfl) dX11_same_24 ?_
    exact k_iret C hr hlk (prf hf) (prs hf) dX11_same_27
  · refine k_if_eq_f C dX11_same_8 (tgt := 22) (by decide) c1 ?_
    refine k_aload_n C dX11_same_11 0 rfl ?_
    refine k_getr C shC_0 (j := 0) rfl FL_X11_12 dX11_same_12 ?_
    refine k_iload_n C dX11_same_15 2 rfl ?_
    refine k_callVi C (As := [.int v2]) (c_X0_hasDoing hap 1 BD_1 v2 M0 _ rfl) ML_X0_hasDoing wd_542 shC_1 rfl rfl rfl ⟨Nat.le_of_ble_eq_true rfl, Nat.le_of_ble_eq_true rfl⟩ (Nat.le_of_ble_eq_true rfl) dX11_same_16 ?_
    rcases ite_g hf with ⟨c3, hf⟩ | ⟨c3, hf⟩
    · refine k_if_ne_f C dX11_same_19 (tgt := 28) (by decide) c3 ?_
      refine k_aload_n C dX11_same_22 0 rfl ?_
      refine k_iconst C dX11_same_23 (v := (-1 : Int32)) rfl ?_
      obtain ⟨⟨t6, M6⟩, ht6, hf⟩ := bnd hf
      replace hf := bp_s hf
      refine k_callVi C (As := [.int (-1 : Int32)]) (c_X11_refuse hap (-1 : Int32) M0 (t6, M6) ht6) ML_X11_refuse wd_421 shC_0 rfl rfl rfl ⟨Nat.le_of_ble_eq_true rfl, Nat.le_of_ble_eq_true rfl⟩ (Nat.le_of_ble_eq_true rfl) dX11_same_24 ?_
      exact k_iret C hr hlk (prf hf) (prs hf) dX11_same_27
    · refine k_if_ne_t C dX11_same_19 (tgt := 28) (by decide) c3 ?_
      refine k_aload_n C dX11_same_28 0 rfl ?_
      refine k_getr C shC_0 (j := 0) rfl FL_X11_12 dX11_same_29 ?_
      refine k_iload_n C dX11_same_32 1 rfl ?_
      refine k_iload_n C dX11_same_33 2 rfl ?_
      refine k_aload_n C dX11_same_34 0 rfl ?_
      refine k_getr C shC_0 (j := 0) rfl FL_X11_12 dX11_same_35 ?_
      refine k_geti C shC_1 (j := 6) rfl FL_X11_176 dX11_same_38 ?_
      refine k_aload_n C dX11_same_41 0 rfl ?_
      refine k_getr C shC_0 (j := 0) rfl FL_X11_12 dX11_same_42 ?_
      refine k_geti C shC_1 (j := 7) rfl FL_X11_179 dX11_same_45 ?_
      obtain ⟨t4, ht4, hf⟩ := bnd hf
      refine k_callVi C (As := [.int v1, .int v2, .int (M0.1 1 6), .int (M0.1 1 7)]) (c_X0_areAlike hap 1 BD_1 v1 v2 (M0.1 1 6) (M0.1 1 7) M0 t4 ht4) ML_X0_areAlike wd_657 shC_1 rfl rfl rfl ⟨Nat.le_of_ble_eq_true rfl, Nat.le_of_ble_eq_true rfl⟩ (Nat.le_of_ble_eq_true rfl) dX11_same_48 ?_
      rcases ite_g hf with ⟨c5, hf⟩ | ⟨c5, hf⟩
      · refine k_if_eq_t C dX11_same_51 (tgt := 58) (by decide) c5 ?_
        refine k_iconst C dX11_same_58 (v := (0 : Int32)) rfl ?_
        exact k_iret C hr hlk (prf hf) (prs hf) dX11_same_59
      · refine k_if_eq_f C dX11_same_51 (tgt := 58) (by decide) c5 ?_
        refine k_iconst C dX11_same_54 (v := (1 : Int32)) rfl ?_
        refine k_goto C dX11_same_55 (tgt := 59) (by decide) ?_
        exact k_iret C hr hlk (prf hf) (prs hf) dX11_same_59
theorem dX11_place_0 : decode cX11_place 0 = .ok (.aload_n 0, 1) := by decide +kernel
theorem dX11_place_1 : decode cX11_place 1 = .ok (.getfield 12, 3) := by decide +kernel
theorem dX11_place_4 : decode cX11_place 4 = .ok (.iload_n 1, 1) := by decide +kernel
theorem dX11_place_5 : decode cX11_place 5 = .ok (.invokevirtual 193, 3) := by decide +kernel
theorem dX11_place_8 : decode cX11_place 8 = .ok (.ifCond .ne 9, 3) := by decide +kernel
theorem dX11_place_11 : decode cX11_place 11 = .ok (.aload_n 0, 1) := by decide +kernel
theorem dX11_place_12 : decode cX11_place 12 = .ok (.iconst (-1), 1) := by decide +kernel
theorem dX11_place_13 : decode cX11_place 13 = .ok (.invokevirtual 103, 3) := by decide +kernel
theorem dX11_place_16 : decode cX11_place 16 = .ok (.ireturn, 1) := by decide +kernel
theorem dX11_place_17 : decode cX11_place 17 = .ok (.iload_n 2, 1) := by decide +kernel
theorem dX11_place_18 : decode cX11_place 18 = .ok (.ifCond .lt 8, 3) := by decide +kernel
theorem dX11_place_21 : decode cX11_place 21 = .ok (.iload_n 2, 1) := by decide +kernel
theorem dX11_place_22 : decode cX11_place 22 = .ok (.iconst 2, 1) := by decide +kernel
theorem dX11_place_23 : decode cX11_place 23 = .ok (.if_icmp .le 10, 3) := by decide +kernel
theorem dX11_place_26 : decode cX11_place 26 = .ok (.aload_n 0, 1) := by decide +kernel
theorem dX11_place_27 : decode cX11_place 27 = .ok (.bipush (-2), 2) := by decide +kernel
theorem dX11_place_29 : decode cX11_place 29 = .ok (.invokevirtual 103, 3) := by decide +kernel
theorem dX11_place_32 : decode cX11_place 32 = .ok (.ireturn, 1) := by decide +kernel
theorem dX11_place_33 : decode cX11_place 33 = .ok (.iload_n 2, 1) := by decide +kernel
theorem dX11_place_34 : decode cX11_place 34 = .ok (.ifCond .ne 15, 3) := by decide +kernel
theorem dX11_place_37 : decode cX11_place 37 = .ok (.aload_n 0, 1) := by decide +kernel
theorem dX11_place_38 : decode cX11_place 38 = .ok (.getfield 12, 3) := by decide +kernel
theorem dX11_place_41 : decode cX11_place 41 = .ok (.getfield 196, 3) := by decide +kernel
theorem dX11_place_44 : decode cX11_place 44 = .ok (.iload_n 1, 1) := by decide +kernel
theorem dX11_place_45 : decode cX11_place 45 = .ok (.iaload, 1) := by decide +kernel
theorem dX11_place_46 : decode cX11_place 46 = .ok (.goto 12, 3) := by decide +kernel
theorem dX11_place_49 : decode cX11_place 49 = .ok (.aload_n 0, 1) := by decide +kernel
theorem dX11_place_50 : decode cX11_place 50 = .ok (.getfield 58, 3) := by decide +kernel
theorem dX11_place_53 : decode cX11_place 53 = .ok (.iload_n 1, 1) := by decide +kernel
theorem dX11_place_54 : decode cX11_place 54 = .ok (.iload_n 2, 1) := by decide +kernel
theorem dX11_place_55 : decode cX11_place 55 = .ok (.invokevirtual 199, 3) := by decide +kernel
theorem dX11_place_58 : decode cX11_place 58 = .ok (.ireturn, 1) := by decide +kernel
set_option maxRecDepth 100000 in
set_option maxHeartbeats 4000000 in
theorem c_X11_place {l : Launch} {G : Gx} (hap : k_ap G shC.length) (v1 : Int32) (v2 : Int32) (M0 : Mem) (r : Int32 × Mem) (hf : f_X11_place v1 v2 M0 = some r) : k_Met l yX11_place cX11_place 3 (some .int) 6 132 G shC [.ref (G.2.1 0), .int v1, .int v2] M0 (k_Qi G shC r.1 r.2) := by
  refine k_Met_of (by decide) hap (Nat.le_of_ble_eq_true rfl) ?_
  intro p e s m args below meth c C hr hlk
  have C : Cx p s m args c cX11_place RX11 3 G shC := C
  unfold f_X11_place at hf
  refine k_lv (lv' := [(0, .ref (G.2.1 0)), (1, .int v1), (2, .int v2)]) [0, 1, 2] rfl ?_
  refine k_aload_n C dX11_place_0 0 rfl ?_
  refine k_getr C shC_0 (j := 0) rfl FL_X11_12 dX11_place_1 ?_
  refine k_iload_n C dX11_place_4 1 rfl ?_
  refine k_callVi C (As := [.int v1]) (c_X0_hasPlace hap 1 BD_1 v1 M0 _ rfl) ML_X0_hasPlace wd_662 shC_1 rfl rfl rfl ⟨Nat.le_of_ble_eq_true rfl, Nat.le_of_ble_eq_true rfl⟩ (Nat.le_of_ble_eq_true rfl) dX11_place_5 ?_
  rcases ite_g hf with ⟨c1, hf⟩ | ⟨c1, hf⟩
  · refine k_if_ne_f C dX11_place_8 (tgt := 17) (by decide) c1 ?_
    refine k_aload_n C dX11_place_11 0 rfl ?_
    refine k_iconst C dX11_place_12 (v := (-1 : Int32)) rfl ?_
    obtain ⟨⟨t9, M9⟩, ht9, hf⟩ := bnd hf
    replace hf := bp_s hf
    refine k_callVi C (As := [.int (-1 : Int32)]) (c_X11_refuse hap (-1 : Int32) M0 (t9, M9) ht9) ML_X11_refuse wd_421 shC_0 rfl rfl rfl ⟨Nat.le_of_ble_eq_true rfl, Nat.le_of_ble_eq_true rfl⟩ (Nat.le_of_ble_eq_true rfl) dX11_place_13 ?_
    exact k_iret C hr hlk (prf hf) (prs hf) dX11_place_16
  · refine k_if_ne_t C dX11_place_8 (tgt := 17) (by decide) c1 ?_
    refine k_iload_n C dX11_place_17 2 rfl ?_
    rcases ite_g hf with ⟨c2, hf⟩ | ⟨c2, hf⟩
    · refine k_if_lt_t C dX11_place_18 (tgt := 26) (by decide) c2 ?_
      refine k_aload_n C dX11_place_26 0 rfl ?_
      refine k_bipush C dX11_place_27 (v := (-2 : Int32)) rfl ?_
      obtain ⟨⟨t3, M3⟩, ht3, hf⟩ := bnd hf
      replace hf := bp_s hf
      refine k_callVi C (As := [.int (-2 : Int32)]) (c_X11_refuse hap (-2 : Int32) M0 (t3, M3) ht3) ML_X11_refuse wd_421 shC_0 rfl rfl rfl ⟨Nat.le_of_ble_eq_true rfl, Nat.le_of_ble_eq_true rfl⟩ (Nat.le_of_ble_eq_true rfl) dX11_place_29 ?_
      exact k_iret C hr hlk (prf hf) (prs hf) dX11_place_32
    · refine k_if_lt_f C dX11_place_18 (tgt := 26) (by decide) c2 ?_
      refine k_iload_n C dX11_place_21 2 rfl ?_
      refine k_iconst C dX11_place_22 (v := (2 : Int32)) rfl ?_
      rcases ite_g hf with ⟨c4, hf⟩ | ⟨c4, hf⟩
      · refine k_icmp_le_t C dX11_place_23 (tgt := 33) (by decide) c4 ?_
        refine k_iload_n C dX11_place_33 2 rfl ?_
        rcases ite_g hf with ⟨c5, hf⟩ | ⟨c5, hf⟩
        · refine k_if_ne_f C dX11_place_34 (tgt := 49) (by decide) c5 ?_
          refine k_aload_n C dX11_place_37 0 rfl ?_
          refine k_getr C shC_0 (j := 0) rfl FL_X11_12 dX11_place_38 ?_
          refine k_getr C shC_1 (j := 3) rfl FL_X11_196 dX11_place_41 ?_
          refine k_iload_n C dX11_place_44 1 rfl ?_
          obtain ⟨t7, ht7, hf⟩ := bnd hf
          refine k_iald C shC_5 ht7 dX11_place_45 ?_
          refine k_goto C dX11_place_46 (tgt := 58) (by decide) ?_
          exact k_iret C hr hlk (prf hf) (prs hf) dX11_place_58
        · refine k_if_ne_t C dX11_place_34 (tgt := 49) (by decide) c5 ?_
          refine k_aload_n C dX11_place_49 0 rfl ?_
          refine k_getr C shC_0 (j := 7) rfl FL_X11_58 dX11_place_50 ?_
          refine k_iload_n C dX11_place_53 1 rfl ?_
          refine k_iload_n C dX11_place_54 2 rfl ?_
          obtain ⟨⟨t6, M6⟩, ht6, hf⟩ := bnd hf
          replace hf := bp_s hf
          refine k_callVi C (As := [.int v1, .int v2]) (c_X3_ofPlace hap v1 v2 M0 (t6, M6) ht6) ML_X3_ofPlace wd_666 shC_28 rfl rfl rfl ⟨Nat.le_of_ble_eq_true rfl, Nat.le_of_ble_eq_true rfl⟩ (Nat.le_of_ble_eq_true rfl) dX11_place_55 ?_
          exact k_iret C hr hlk (prf hf) (prs hf) dX11_place_58
      · refine k_icmp_le_f C dX11_place_23 (tgt := 33) (by decide) c4 ?_
        refine k_aload_n C dX11_place_26 0 rfl ?_
        refine k_bipush C dX11_place_27 (v := (-2 : Int32)) rfl ?_
        obtain ⟨⟨t8, M8⟩, ht8, hf⟩ := bnd hf
        replace hf := bp_s hf
        refine k_callVi C (As := [.int (-2 : Int32)]) (c_X11_refuse hap (-2 : Int32) M0 (t8, M8) ht8) ML_X11_refuse wd_421 shC_0 rfl rfl rfl ⟨Nat.le_of_ble_eq_true rfl, Nat.le_of_ble_eq_true rfl⟩ (Nat.le_of_ble_eq_true rfl) dX11_place_29 ?_
        exact k_iret C hr hlk (prf hf) (prs hf) dX11_place_32
theorem dX11_allDue_0 : decode cX11_allDue 0 = .ok (.aload_n 0, 1) := by decide +kernel
theorem dX11_allDue_1 : decode cX11_allDue 1 = .ok (.getfield 58, 3) := by decide +kernel
theorem dX11_allDue_4 : decode cX11_allDue 4 = .ok (.invokevirtual 203, 3) := by decide +kernel
theorem dX11_allDue_7 : decode cX11_allDue 7 = .ok (.ireturn, 1) := by decide +kernel
set_option maxRecDepth 100000 in
set_option maxHeartbeats 4000000 in
theorem c_X11_allDue {l : Launch} {G : Gx} (hap : k_ap G shC.length) (M0 : Mem) (r : Int32 × Mem) (hf : f_X11_allDue M0 = some r) : k_Met l yX11_allDue cX11_allDue 1 (some .int) 5 108 G shC [.ref (G.2.1 0)] M0 (k_Qi G shC r.1 r.2) := by
  refine k_Met_of (by decide) hap (Nat.le_of_ble_eq_true rfl) ?_
  intro p e s m args below meth c C hr hlk
  have C : Cx p s m args c cX11_allDue RX11 1 G shC := C
  unfold f_X11_allDue at hf
  refine k_lv (lv' := [(0, .ref (G.2.1 0))]) [0] rfl ?_
  refine k_aload_n C dX11_allDue_0 0 rfl ?_
  refine k_getr C shC_0 (j := 7) rfl FL_X11_58 dX11_allDue_1 ?_
  obtain ⟨⟨t1, M1⟩, ht1, hf⟩ := bnd hf
  replace hf := bp_s hf
  refine k_callVi C (As := []) (c_X3_total hap M0 (t1, M1) ht1) ML_X3_total wd_680 shC_28 rfl rfl rfl ⟨Nat.le_of_ble_eq_true rfl, Nat.le_of_ble_eq_true rfl⟩ (Nat.le_of_ble_eq_true rfl) dX11_allDue_4 ?_
  exact k_iret C hr hlk (prf hf) (prs hf) dX11_allDue_7
theorem dX11_next_0 : decode cX11_next 0 = .ok (.aload_n 0, 1) := by decide +kernel
theorem dX11_next_1 : decode cX11_next 1 = .ok (.getfield 12, 3) := by decide +kernel
theorem dX11_next_4 : decode cX11_next 4 = .ok (.iload_n 1, 1) := by decide +kernel
theorem dX11_next_5 : decode cX11_next 5 = .ok (.invokevirtual 121, 3) := by decide +kernel
theorem dX11_next_8 : decode cX11_next 8 = .ok (.ifCond .ne 9, 3) := by decide +kernel
theorem dX11_next_11 : decode cX11_next 11 = .ok (.aload_n 0, 1) := by decide +kernel
theorem dX11_next_12 : decode cX11_next 12 = .ok (.iconst (-1), 1) := by decide +kernel
theorem dX11_next_13 : decode cX11_next 13 = .ok (.invokevirtual 103, 3) := by decide +kernel
theorem dX11_next_16 : decode cX11_next 16 = .ok (.ireturn, 1) := by decide +kernel
theorem dX11_next_17 : decode cX11_next 17 = .ok (.aload_n 0, 1) := by decide +kernel
theorem dX11_next_18 : decode cX11_next 18 = .ok (.getfield 49, 3) := by decide +kernel
theorem dX11_next_21 : decode cX11_next 21 = .ok (.iload_n 1, 1) := by decide +kernel
theorem dX11_next_22 : decode cX11_next 22 = .ok (.invokevirtual 148, 3) := by decide +kernel
theorem dX11_next_25 : decode cX11_next 25 = .ok (.ireturn, 1) := by decide +kernel
set_option maxRecDepth 100000 in
set_option maxHeartbeats 4000000 in
theorem c_X11_next {l : Launch} {G : Gx} (hap : k_ap G shC.length) (v1 : Int32) (M0 : Mem) (r : Int32 × Mem) (hf : f_X11_next v1 M0 = some r) : k_Met l yX11_next cX11_next 2 (some .int) 6 129 G shC [.ref (G.2.1 0), .int v1] M0 (k_Qi G shC r.1 r.2) := by
  refine k_Met_of (by decide) hap (Nat.le_of_ble_eq_true rfl) ?_
  intro p e s m args below meth c C hr hlk
  have C : Cx p s m args c cX11_next RX11 2 G shC := C
  unfold f_X11_next at hf
  refine k_lv (lv' := [(0, .ref (G.2.1 0)), (1, .int v1)]) [0, 1] rfl ?_
  refine k_aload_n C dX11_next_0 0 rfl ?_
  refine k_getr C shC_0 (j := 0) rfl FL_X11_12 dX11_next_1 ?_
  refine k_iload_n C dX11_next_4 1 rfl ?_
  refine k_callVi C (As := [.int v1]) (c_X0_hasDoing hap 1 BD_1 v1 M0 _ rfl) ML_X0_hasDoing wd_542 shC_1 rfl rfl rfl ⟨Nat.le_of_ble_eq_true rfl, Nat.le_of_ble_eq_true rfl⟩ (Nat.le_of_ble_eq_true rfl) dX11_next_5 ?_
  rcases ite_g hf with ⟨c1, hf⟩ | ⟨c1, hf⟩
  · refine k_if_ne_f C dX11_next_8 (tgt := 17) (by decide) c1 ?_
    refine k_aload_n C dX11_next_11 0 rfl ?_
    refine k_iconst C dX11_next_12 (v := (-1 : Int32)) rfl ?_
    obtain ⟨⟨t3, M3⟩, ht3, hf⟩ := bnd hf
    replace hf := bp_s hf
    refine k_callVi C (As := [.int (-1 : Int32)]) (c_X11_refuse hap (-1 : Int32) M0 (t3, M3) ht3) ML_X11_refuse wd_421 shC_0 rfl rfl rfl ⟨Nat.le_of_ble_eq_true rfl, Nat.le_of_ble_eq_true rfl⟩ (Nat.le_of_ble_eq_true rfl) dX11_next_13 ?_
    exact k_iret C hr hlk (prf hf) (prs hf) dX11_next_16
  · refine k_if_ne_t C dX11_next_8 (tgt := 17) (by decide) c1 ?_
    refine k_aload_n C dX11_next_17 0 rfl ?_
    refine k_getr C shC_0 (j := 6) rfl FL_X11_49 dX11_next_18 ?_
    refine k_iload_n C dX11_next_21 1 rfl ?_
    obtain ⟨⟨t2, M2⟩, ht2, hf⟩ := bnd hf
    replace hf := bp_s hf
    refine k_callVi C (As := [.int v1]) (c_X8_nextDue hap v1 M0 (t2, M2) ht2) ML_X8_nextDue wd_555 shC_25 rfl rfl rfl ⟨Nat.le_of_ble_eq_true rfl, Nat.le_of_ble_eq_true rfl⟩ (Nat.le_of_ble_eq_true rfl) dX11_next_22 ?_
    exact k_iret C hr hlk (prf hf) (prs hf) dX11_next_25
theorem dX11_isEither_0 : decode cX11_isEither 0 = .ok (.iload_n 0, 1) := by decide +kernel
theorem dX11_isEither_1 : decode cX11_isEither 1 = .ok (.ifCond .eq 8, 3) := by decide +kernel
theorem dX11_isEither_4 : decode cX11_isEither 4 = .ok (.iload_n 0, 1) := by decide +kernel
theorem dX11_isEither_5 : decode cX11_isEither 5 = .ok (.iconst 1, 1) := by decide +kernel
theorem dX11_isEither_6 : decode cX11_isEither 6 = .ok (.if_icmp .ne 7, 3) := by decide +kernel
theorem dX11_isEither_9 : decode cX11_isEither 9 = .ok (.iconst 1, 1) := by decide +kernel
theorem dX11_isEither_10 : decode cX11_isEither 10 = .ok (.goto 4, 3) := by decide +kernel
theorem dX11_isEither_13 : decode cX11_isEither 13 = .ok (.iconst 0, 1) := by decide +kernel
theorem dX11_isEither_14 : decode cX11_isEither 14 = .ok (.ireturn, 1) := by decide +kernel
set_option maxRecDepth 100000 in
set_option maxHeartbeats 4000000 in
theorem c_X11_isEither {l : Launch} {G : Gx} (hap : k_ap G shC.length) (v0 : Int32) (M0 : Mem) (r : Int32) (hf : f_X11_isEither v0 = r) : k_Met l yX11_isEither cX11_isEither 1 (some .boolean) 0 0 G shC [.int v0] M0 (k_Qi G shC r M0) := by
  refine k_Met_of (by decide) hap (Nat.le_of_ble_eq_true rfl) ?_
  intro p e s m args below meth c C hr hlk
  have C : Cx p s m args c cX11_isEither RX11 1 G shC := C
  unfold f_X11_isEither at hf
  refine k_lv (lv' := [(0, .int v0)]) [0] rfl ?_
  refine k_iload_n C dX11_isEither_0 0 rfl ?_
  rcases ite_g hf with ⟨c1, hf⟩ | ⟨c1, hf⟩
  · refine k_if_eq_t C dX11_isEither_1 (tgt := 9) (by decide) c1 ?_
    refine k_iconst C dX11_isEither_9 (v := (1 : Int32)) rfl ?_
    refine k_goto C dX11_isEither_10 (tgt := 14) (by decide) ?_
    exact k_zret C hr hlk (gZ1.trans (congrArg some hf)) rfl dX11_isEither_14
  · refine k_if_eq_f C dX11_isEither_1 (tgt := 9) (by decide) c1 ?_
    refine k_iload_n C dX11_isEither_4 0 rfl ?_
    refine k_iconst C dX11_isEither_5 (v := (1 : Int32)) rfl ?_
    rcases ite_g hf with ⟨c2, hf⟩ | ⟨c2, hf⟩
    · refine k_icmp_ne_f C dX11_isEither_6 (tgt := 13) (by decide) c2 ?_
      refine k_iconst C dX11_isEither_9 (v := (1 : Int32)) rfl ?_
      refine k_goto C dX11_isEither_10 (tgt := 14) (by decide) ?_
      exact k_zret C hr hlk (gZ1.trans (congrArg some hf)) rfl dX11_isEither_14
    · refine k_icmp_ne_t C dX11_isEither_6 (tgt := 13) (by decide) c2 ?_
      refine k_iconst C dX11_isEither_13 (v := (0 : Int32)) rfl ?_
      exact k_zret C hr hlk (gZ0.trans (congrArg some hf)) rfl dX11_isEither_14
theorem dX11_best_0 : decode cX11_best 0 = .ok (.iload_n 1, 1) := by decide +kernel
theorem dX11_best_1 : decode cX11_best 1 = .ok (.invokestatic 207, 3) := by decide +kernel
theorem dX11_best_4 : decode cX11_best 4 = .ok (.ifCond .ne 10, 3) := by decide +kernel
theorem dX11_best_7 : decode cX11_best 7 = .ok (.aload_n 0, 1) := by decide +kernel
theorem dX11_best_8 : decode cX11_best 8 = .ok (.bipush (-2), 2) := by decide +kernel
theorem dX11_best_10 : decode cX11_best 10 = .ok (.invokevirtual 103, 3) := by decide +kernel
theorem dX11_best_13 : decode cX11_best 13 = .ok (.ireturn, 1) := by decide +kernel
theorem dX11_best_14 : decode cX11_best 14 = .ok (.aload_n 0, 1) := by decide +kernel
theorem dX11_best_15 : decode cX11_best 15 = .ok (.getfield 49, 3) := by decide +kernel
theorem dX11_best_18 : decode cX11_best 18 = .ok (.invokevirtual 210, 3) := by decide +kernel
theorem dX11_best_21 : decode cX11_best 21 = .ok (.iload_n 1, 1) := by decide +kernel
theorem dX11_best_22 : decode cX11_best 22 = .ok (.ifCond .ne 13, 3) := by decide +kernel
theorem dX11_best_25 : decode cX11_best 25 = .ok (.aload_n 0, 1) := by decide +kernel
theorem dX11_best_26 : decode cX11_best 26 = .ok (.getfield 49, 3) := by decide +kernel
theorem dX11_best_29 : decode cX11_best 29 = .ok (.invokevirtual 213, 3) := by decide +kernel
theorem dX11_best_32 : decode cX11_best 32 = .ok (.goto 10, 3) := by decide +kernel
theorem dX11_best_35 : decode cX11_best 35 = .ok (.aload_n 0, 1) := by decide +kernel
theorem dX11_best_36 : decode cX11_best 36 = .ok (.getfield 49, 3) := by decide +kernel
theorem dX11_best_39 : decode cX11_best 39 = .ok (.invokevirtual 216, 3) := by decide +kernel
theorem dX11_best_42 : decode cX11_best 42 = .ok (.ireturn, 1) := by decide +kernel
set_option maxRecDepth 100000 in
set_option maxHeartbeats 4000000 in
theorem c_X11_best {l : Launch} {G : Gx} (hap : k_ap G shC.length) (v1 : Int32) (M0 : Mem) (r : Int32 × Mem) (hf : f_X11_best v1 M0 = some r) : k_Met l yX11_best cX11_best 2 (some .int) 5 108 G shC [.ref (G.2.1 0), .int v1] M0 (k_Qi G shC r.1 r.2) := by
  refine k_Met_of (by decide) hap (Nat.le_of_ble_eq_true rfl) ?_
  intro p e s m args below meth c C hr hlk
  have C : Cx p s m args c cX11_best RX11 2 G shC := C
  unfold f_X11_best at hf
  refine k_lv (lv' := [(0, .ref (G.2.1 0)), (1, .int v1)]) [0, 1] rfl ?_
  refine k_iload_n C dX11_best_0 1 rfl ?_
  refine k_callSi C (As := [.int v1]) (c_X11_isEither hap v1 M0 _ rfl) MS_X11_isEither wd_696 rfl rfl ⟨Nat.le_of_ble_eq_true rfl, Nat.le_of_ble_eq_true rfl⟩ (Nat.le_of_ble_eq_true rfl) dX11_best_1 ?_
  rcases ite_g hf with ⟨c1, hf⟩ | ⟨c1, hf⟩
  · refine k_if_ne_f C dX11_best_4 (tgt := 14) (by decide) c1 ?_
    refine k_aload_n C dX11_best_7 0 rfl ?_
    refine k_bipush C dX11_best_8 (v := (-2 : Int32)) rfl ?_
    obtain ⟨⟨t6, M6⟩, ht6, hf⟩ := bnd hf
    replace hf := bp_s hf
    refine k_callVi C (As := [.int (-2 : Int32)]) (c_X11_refuse hap (-2 : Int32) M0 (t6, M6) ht6) ML_X11_refuse wd_421 shC_0 rfl rfl rfl ⟨Nat.le_of_ble_eq_true rfl, Nat.le_of_ble_eq_true rfl⟩ (Nat.le_of_ble_eq_true rfl) dX11_best_10 ?_
    exact k_iret C hr hlk (prf hf) (prs hf) dX11_best_13
  · refine k_if_ne_t C dX11_best_4 (tgt := 14) (by decide) c1 ?_
    refine k_aload_n C dX11_best_14 0 rfl ?_
    refine k_getr C shC_0 (j := 6) rfl FL_X11_49 dX11_best_15 ?_
    obtain ⟨M2, hM2, hf⟩ := bnd hf
    refine k_callVv C (As := []) (c_X8_openBehindLog hap M0 M2 hM2) ML_X8_openBehindLog wd_699 shC_25 rfl rfl rfl ⟨Nat.le_of_ble_eq_true rfl, Nat.le_of_ble_eq_true rfl⟩ (Nat.le_of_ble_eq_true rfl) dX11_best_18 ?_
    refine k_iload_n C dX11_best_21 1 rfl ?_
    rcases ite_g hf with ⟨c3, hf⟩ | ⟨c3, hf⟩
    · refine k_if_ne_f C dX11_best_22 (tgt := 35) (by decide) c3 ?_
      refine k_aload_n C dX11_best_25 0 rfl ?_
      refine k_getr C shC_0 (j := 6) rfl FL_X11_49 dX11_best_26 ?_
      obtain ⟨t5, ht5, hf⟩ := bnd hf
      refine k_callVi C (As := []) (c_X8_cheapestNext hap M2 t5 ht5) ML_X8_cheapestNext wd_700 shC_25 rfl rfl rfl ⟨Nat.le_of_ble_eq_true rfl, Nat.le_of_ble_eq_true rfl⟩ (Nat.le_of_ble_eq_true rfl) dX11_best_29 ?_
      refine k_goto C dX11_best_32 (tgt := 42) (by decide) ?_
      exact k_iret C hr hlk (prf hf) (prs hf) dX11_best_42
    · refine k_if_ne_t C dX11_best_22 (tgt := 35) (by decide) c3 ?_
      refine k_aload_n C dX11_best_35 0 rfl ?_
      refine k_getr C shC_0 (j := 6) rfl FL_X11_49 dX11_best_36 ?_
      obtain ⟨t4, ht4, hf⟩ := bnd hf
      refine k_callVi C (As := []) (c_X8_dearestNext hap M2 t4 ht4) ML_X8_dearestNext wd_705 shC_25 rfl rfl rfl ⟨Nat.le_of_ble_eq_true rfl, Nat.le_of_ble_eq_true rfl⟩ (Nat.le_of_ble_eq_true rfl) dX11_best_39 ?_
      exact k_iret C hr hlk (prf hf) (prs hf) dX11_best_42
theorem dX11_charged_0 : decode cX11_charged 0 = .ok (.iload_n 1, 1) := by decide +kernel
theorem dX11_charged_1 : decode cX11_charged 1 = .ok (.ifCond .ge 10, 3) := by decide +kernel
theorem dX11_charged_4 : decode cX11_charged 4 = .ok (.aload_n 0, 1) := by decide +kernel
theorem dX11_charged_5 : decode cX11_charged 5 = .ok (.bipush (-4), 2) := by decide +kernel
theorem dX11_charged_7 : decode cX11_charged 7 = .ok (.invokevirtual 103, 3) := by decide +kernel
theorem dX11_charged_10 : decode cX11_charged 10 = .ok (.ireturn, 1) := by decide +kernel
theorem dX11_charged_11 : decode cX11_charged 11 = .ok (.iload_n 1, 1) := by decide +kernel
theorem dX11_charged_12 : decode cX11_charged 12 = .ok (.sipush 999, 3) := by decide +kernel
theorem dX11_charged_15 : decode cX11_charged 15 = .ok (.if_icmp .le 10, 3) := by decide +kernel
theorem dX11_charged_18 : decode cX11_charged 18 = .ok (.aload_n 0, 1) := by decide +kernel
theorem dX11_charged_19 : decode cX11_charged 19 = .ok (.bipush (-6), 2) := by decide +kernel
theorem dX11_charged_21 : decode cX11_charged 21 = .ok (.invokevirtual 103, 3) := by decide +kernel
theorem dX11_charged_24 : decode cX11_charged 24 = .ok (.ireturn, 1) := by decide +kernel
theorem dX11_charged_25 : decode cX11_charged 25 = .ok (.aload_n 0, 1) := by decide +kernel
theorem dX11_charged_26 : decode cX11_charged 26 = .ok (.getfield 58, 3) := by decide +kernel
theorem dX11_charged_29 : decode cX11_charged 29 = .ok (.iload_n 1, 1) := by decide +kernel
theorem dX11_charged_30 : decode cX11_charged 30 = .ok (.invokevirtual 219, 3) := by decide +kernel
theorem dX11_charged_33 : decode cX11_charged 33 = .ok (.ireturn, 1) := by decide +kernel
set_option maxRecDepth 100000 in
set_option maxHeartbeats 4000000 in
theorem c_X11_charged {l : Launch} {G : Gx} (hap : k_ap G shC.length) (v1 : Int32) (M0 : Mem) (r : Int32 × Mem) (hf : f_X11_charged v1 M0 = some r) : k_Met l yX11_charged cX11_charged 2 (some .int) 6 132 G shC [.ref (G.2.1 0), .int v1] M0 (k_Qi G shC r.1 r.2) := by
  refine k_Met_of (by decide) hap (Nat.le_of_ble_eq_true rfl) ?_
  intro p e s m args below meth c C hr hlk
  have C : Cx p s m args c cX11_charged RX11 2 G shC := C
  unfold f_X11_charged at hf
  refine k_lv (lv' := [(0, .ref (G.2.1 0)), (1, .int v1)]) [0, 1] rfl ?_
  refine k_iload_n C dX11_charged_0 1 rfl ?_
  rcases ite_g hf with ⟨c1, hf⟩ | ⟨c1, hf⟩
  · refine k_if_ge_t C dX11_charged_1 (tgt := 11) (by decide) c1 ?_
    refine k_iload_n C dX11_charged_11 1 rfl ?_
    refine k_sipush C dX11_charged_12 (v := (999 : Int32)) rfl ?_
    rcases ite_g hf with ⟨c2, hf⟩ | ⟨c2, hf⟩
    · refine k_icmp_le_t C dX11_charged_15 (tgt := 25) (by decide) c2 ?_
      refine k_aload_n C dX11_charged_25 0 rfl ?_
      refine k_getr C shC_0 (j := 7) rfl FL_X11_58 dX11_charged_26 ?_
      refine k_iload_n C dX11_charged_29 1 rfl ?_
      obtain ⟨⟨t3, M3⟩, ht3, hf⟩ := bnd hf
      replace hf := bp_s hf
      refine k_callVi C (As := [.int v1]) (c_X3_firstAbove hap v1 M0 (t3, M3) ht3) ML_X3_firstAbove wd_713 shC_28 rfl rfl rfl ⟨Nat.le_of_ble_eq_true rfl, Nat.le_of_ble_eq_true rfl⟩ (Nat.le_of_ble_eq_true rfl) dX11_charged_30 ?_
      exact k_iret C hr hlk (prf hf) (prs hf) dX11_charged_33
    · refine k_icmp_le_f C dX11_charged_15 (tgt := 25) (by decide) c2 ?_
      refine k_aload_n C dX11_charged_18 0 rfl ?_
      refine k_bipush C dX11_charged_19 (v := (-6 : Int32)) rfl ?_
      obtain ⟨⟨t4, M4⟩, ht4, hf⟩ := bnd hf
      replace hf := bp_s hf
      refine k_callVi C (As := [.int (-6 : Int32)]) (c_X11_refuse hap (-6 : Int32) M0 (t4, M4) ht4) ML_X11_refuse wd_421 shC_0 rfl rfl rfl ⟨Nat.le_of_ble_eq_true rfl, Nat.le_of_ble_eq_true rfl⟩ (Nat.le_of_ble_eq_true rfl) dX11_charged_21 ?_
      exact k_iret C hr hlk (prf hf) (prs hf) dX11_charged_24
  · refine k_if_ge_f C dX11_charged_1 (tgt := 11) (by decide) c1 ?_
    refine k_aload_n C dX11_charged_4 0 rfl ?_
    refine k_bipush C dX11_charged_5 (v := (-4 : Int32)) rfl ?_
    obtain ⟨⟨t5, M5⟩, ht5, hf⟩ := bnd hf
    replace hf := bp_s hf
    refine k_callVi C (As := [.int (-4 : Int32)]) (c_X11_refuse hap (-4 : Int32) M0 (t5, M5) ht5) ML_X11_refuse wd_421 shC_0 rfl rfl rfl ⟨Nat.le_of_ble_eq_true rfl, Nat.le_of_ble_eq_true rfl⟩ (Nat.le_of_ble_eq_true rfl) dX11_charged_7 ?_
    exact k_iret C hr hlk (prf hf) (prs hf) dX11_charged_10
theorem dX11_order_0 : decode cX11_order 0 = .ok (.iload_n 1, 1) := by decide +kernel
theorem dX11_order_1 : decode cX11_order 1 = .ok (.ifCond .lt 8, 3) := by decide +kernel
theorem dX11_order_4 : decode cX11_order 4 = .ok (.iload_n 2, 1) := by decide +kernel
theorem dX11_order_5 : decode cX11_order 5 = .ok (.iconst (-1), 1) := by decide +kernel
theorem dX11_order_6 : decode cX11_order 6 = .ok (.if_icmp .ge 10, 3) := by decide +kernel
theorem dX11_order_9 : decode cX11_order 9 = .ok (.aload_n 0, 1) := by decide +kernel
theorem dX11_order_10 : decode cX11_order 10 = .ok (.bipush (-4), 2) := by decide +kernel
theorem dX11_order_12 : decode cX11_order 12 = .ok (.invokevirtual 103, 3) := by decide +kernel
theorem dX11_order_15 : decode cX11_order 15 = .ok (.ireturn, 1) := by decide +kernel
theorem dX11_order_16 : decode cX11_order 16 = .ok (.iload_n 1, 1) := by decide +kernel
theorem dX11_order_17 : decode cX11_order 17 = .ok (.aload_n 0, 1) := by decide +kernel
theorem dX11_order_18 : decode cX11_order 18 = .ok (.getfield 12, 3) := by decide +kernel
theorem dX11_order_21 : decode cX11_order 21 = .ok (.getfield 222, 3) := by decide +kernel
theorem dX11_order_24 : decode cX11_order 24 = .ok (.ishr, 1) := by decide +kernel
theorem dX11_order_25 : decode cX11_order 25 = .ok (.ifCond .eq 10, 3) := by decide +kernel
theorem dX11_order_28 : decode cX11_order 28 = .ok (.aload_n 0, 1) := by decide +kernel
theorem dX11_order_29 : decode cX11_order 29 = .ok (.bipush (-6), 2) := by decide +kernel
theorem dX11_order_31 : decode cX11_order 31 = .ok (.invokevirtual 103, 3) := by decide +kernel
theorem dX11_order_34 : decode cX11_order 34 = .ok (.ireturn, 1) := by decide +kernel
theorem dX11_order_35 : decode cX11_order 35 = .ok (.iload_n 1, 1) := by decide +kernel
theorem dX11_order_36 : decode cX11_order 36 = .ok (.invokestatic 225, 3) := by decide +kernel
theorem dX11_order_39 : decode cX11_order 39 = .ok (.bipush 6, 2) := by decide +kernel
theorem dX11_order_41 : decode cX11_order 41 = .ok (.if_icmp .le 10, 3) := by decide +kernel
theorem dX11_order_44 : decode cX11_order 44 = .ok (.aload_n 0, 1) := by decide +kernel
theorem dX11_order_45 : decode cX11_order 45 = .ok (.bipush (-3), 2) := by decide +kernel
theorem dX11_order_47 : decode cX11_order 47 = .ok (.invokevirtual 103, 3) := by decide +kernel
theorem dX11_order_50 : decode cX11_order 50 = .ok (.ireturn, 1) := by decide +kernel
theorem dX11_order_51 : decode cX11_order 51 = .ok (.aload_n 0, 1) := by decide +kernel
theorem dX11_order_52 : decode cX11_order 52 = .ok (.getfield 74, 3) := by decide +kernel
theorem dX11_order_55 : decode cX11_order 55 = .ok (.iload_n 1, 1) := by decide +kernel
theorem dX11_order_56 : decode cX11_order 56 = .ok (.iload_n 2, 1) := by decide +kernel
theorem dX11_order_57 : decode cX11_order 57 = .ok (.invokevirtual 230, 3) := by decide +kernel
theorem dX11_order_60 : decode cX11_order 60 = .ok (.ireturn, 1) := by decide +kernel
set_option maxRecDepth 100000 in
set_option maxHeartbeats 4000000 in
theorem c_X11_order {l : Launch} {G : Gx} (hap : k_ap G shC.length) (v1 : Int32) (v2 : Int32) (M0 : Mem) (r : Int32 × Mem) (hf : f_X11_order v1 v2 M0 = some r) : k_Met l yX11_order cX11_order 3 (some .int) 6 130 G shC [.ref (G.2.1 0), .int v1, .int v2] M0 (k_Qi G shC r.1 r.2) := by
  refine k_Met_of (by decide) hap (Nat.le_of_ble_eq_true rfl) ?_
  intro p e s m args below meth c C hr hlk
  have C : Cx p s m args c cX11_order RX11 3 G shC := C
  unfold f_X11_order at hf
  refine k_lv (lv' := [(0, .ref (G.2.1 0)), (1, .int v1), (2, .int v2)]) [0, 1, 2] rfl ?_
  refine k_iload_n C dX11_order_0 1 rfl ?_
  rcases ite_g hf with ⟨c1, hf⟩ | ⟨c1, hf⟩
  · refine k_if_lt_t C dX11_order_1 (tgt := 9) (by decide) c1 ?_
    refine k_aload_n C dX11_order_9 0 rfl ?_
    refine k_bipush C dX11_order_10 (v := (-4 : Int32)) rfl ?_
    obtain ⟨⟨t2, M2⟩, ht2, hf⟩ := bnd hf
    replace hf := bp_s hf
    refine k_callVi C (As := [.int (-4 : Int32)]) (c_X11_refuse hap (-4 : Int32) M0 (t2, M2) ht2) ML_X11_refuse wd_421 shC_0 rfl rfl rfl ⟨Nat.le_of_ble_eq_true rfl, Nat.le_of_ble_eq_true rfl⟩ (Nat.le_of_ble_eq_true rfl) dX11_order_12 ?_
    exact k_iret C hr hlk (prf hf) (prs hf) dX11_order_15
  · refine k_if_lt_f C dX11_order_1 (tgt := 9) (by decide) c1 ?_
    refine k_iload_n C dX11_order_4 2 rfl ?_
    refine k_iconst C dX11_order_5 (v := (-1 : Int32)) rfl ?_
    rcases ite_g hf with ⟨c3, hf⟩ | ⟨c3, hf⟩
    · refine k_icmp_ge_t C dX11_order_6 (tgt := 16) (by decide) c3 ?_
      refine k_iload_n C dX11_order_16 1 rfl ?_
      refine k_aload_n C dX11_order_17 0 rfl ?_
      refine k_getr C shC_0 (j := 0) rfl FL_X11_12 dX11_order_18 ?_
      refine k_geti C shC_1 (j := 4) rfl FL_X11_222 dX11_order_21 ?_
      refine k_ishrJ C dX11_order_24 ?_
      rcases ite_g hf with ⟨c4, hf⟩ | ⟨c4, hf⟩
      · refine k_if_eq_t C dX11_order_25 (tgt := 35) (by decide) c4 ?_
        refine k_iload_n C dX11_order_35 1 rfl ?_
        refine k_callSi C (As := [.int v1]) (c_J6_bitCount_0f7a4 hap v1 M0 _ rfl) MS_J6_bitCount_0f7a4 wd_721 rfl rfl ⟨Nat.le_of_ble_eq_true rfl, Nat.le_of_ble_eq_true rfl⟩ (Nat.le_of_ble_eq_true rfl) dX11_order_36 ?_
        refine k_bipush C dX11_order_39 (v := (6 : Int32)) rfl ?_
        rcases ite_g hf with ⟨c5, hf⟩ | ⟨c5, hf⟩
        · refine k_icmp_le_t C dX11_order_41 (tgt := 51) (by decide) c5 ?_
          refine k_aload_n C dX11_order_51 0 rfl ?_
          refine k_getr C shC_0 (j := 9) rfl FL_X11_74 dX11_order_52 ?_
          refine k_iload_n C dX11_order_55 1 rfl ?_
          refine k_iload_n C dX11_order_56 2 rfl ?_
          obtain ⟨⟨t6, M6⟩, ht6, hf⟩ := bnd hf
          replace hf := bp_s hf
          refine k_callVi C (As := [.int v1, .int v2]) (c_X6_inOrder hap v1 v2 M0 (t6, M6) ht6) ML_X6_inOrder wd_722 shC_34 rfl rfl rfl ⟨Nat.le_of_ble_eq_true rfl, Nat.le_of_ble_eq_true rfl⟩ (Nat.le_of_ble_eq_true rfl) dX11_order_57 ?_
          exact k_iret C hr hlk (prf hf) (prs hf) dX11_order_60
        · refine k_icmp_le_f C dX11_order_41 (tgt := 51) (by decide) c5 ?_
          refine k_aload_n C dX11_order_44 0 rfl ?_
          refine k_bipush C dX11_order_45 (v := (-3 : Int32)) rfl ?_
          obtain ⟨⟨t7, M7⟩, ht7, hf⟩ := bnd hf
          replace hf := bp_s hf
          refine k_callVi C (As := [.int (-3 : Int32)]) (c_X11_refuse hap (-3 : Int32) M0 (t7, M7) ht7) ML_X11_refuse wd_421 shC_0 rfl rfl rfl ⟨Nat.le_of_ble_eq_true rfl, Nat.le_of_ble_eq_true rfl⟩ (Nat.le_of_ble_eq_true rfl) dX11_order_47 ?_
          exact k_iret C hr hlk (prf hf) (prs hf) dX11_order_50
      · refine k_if_eq_f C dX11_order_25 (tgt := 35) (by decide) c4 ?_
        refine k_aload_n C dX11_order_28 0 rfl ?_
        refine k_bipush C dX11_order_29 (v := (-6 : Int32)) rfl ?_
        obtain ⟨⟨t8, M8⟩, ht8, hf⟩ := bnd hf
        replace hf := bp_s hf
        refine k_callVi C (As := [.int (-6 : Int32)]) (c_X11_refuse hap (-6 : Int32) M0 (t8, M8) ht8) ML_X11_refuse wd_421 shC_0 rfl rfl rfl ⟨Nat.le_of_ble_eq_true rfl, Nat.le_of_ble_eq_true rfl⟩ (Nat.le_of_ble_eq_true rfl) dX11_order_31 ?_
        exact k_iret C hr hlk (prf hf) (prs hf) dX11_order_34
    · refine k_icmp_ge_f C dX11_order_6 (tgt := 16) (by decide) c3 ?_
      refine k_aload_n C dX11_order_9 0 rfl ?_
      refine k_bipush C dX11_order_10 (v := (-4 : Int32)) rfl ?_
      obtain ⟨⟨t9, M9⟩, ht9, hf⟩ := bnd hf
      replace hf := bp_s hf
      refine k_callVi C (As := [.int (-4 : Int32)]) (c_X11_refuse hap (-4 : Int32) M0 (t9, M9) ht9) ML_X11_refuse wd_421 shC_0 rfl rfl rfl ⟨Nat.le_of_ble_eq_true rfl, Nat.le_of_ble_eq_true rfl⟩ (Nat.le_of_ble_eq_true rfl) dX11_order_12 ?_
      exact k_iret C hr hlk (prf hf) (prs hf) dX11_order_15
theorem dX11_unlike_0 : decode cX11_unlike 0 = .ok (.aload_n 0, 1) := by decide +kernel
theorem dX11_unlike_1 : decode cX11_unlike 1 = .ok (.getfield 81, 3) := by decide +kernel
theorem dX11_unlike_4 : decode cX11_unlike 4 = .ok (.invokevirtual 233, 3) := by decide +kernel
theorem dX11_unlike_7 : decode cX11_unlike 7 = .ok (.ireturn, 1) := by decide +kernel
set_option maxRecDepth 100000 in
set_option maxHeartbeats 4000000 in
theorem c_X11_unlike {l : Launch} {G : Gx} (hap : k_ap G shC.length) (M0 : Mem) (r : Int32 × Mem) (hf : f_X11_unlike M0 = some r) : k_Met l yX11_unlike cX11_unlike 1 (some .int) 5 110 G shC [.ref (G.2.1 0)] M0 (k_Qi G shC r.1 r.2) := by
  refine k_Met_of (by decide) hap (Nat.le_of_ble_eq_true rfl) ?_
  intro p e s m args below meth c C hr hlk
  have C : Cx p s m args c cX11_unlike RX11 1 G shC := C
  unfold f_X11_unlike at hf
  refine k_lv (lv' := [(0, .ref (G.2.1 0))]) [0] rfl ?_
  refine k_aload_n C dX11_unlike_0 0 rfl ?_
  refine k_getr C shC_0 (j := 10) rfl FL_X11_81 dX11_unlike_1 ?_
  obtain ⟨⟨t1, M1⟩, ht1, hf⟩ := bnd hf
  replace hf := bp_s hf
  refine k_callVi C (As := []) (c_X2_mostApart hap M0 (t1, M1) ht1) ML_X2_mostApart wd_757 shC_36 rfl rfl rfl ⟨Nat.le_of_ble_eq_true rfl, Nat.le_of_ble_eq_true rfl⟩ (Nat.le_of_ble_eq_true rfl) dX11_unlike_4 ?_
  exact k_iret C hr hlk (prf hf) (prs hf) dX11_unlike_7
theorem dX11_people_0 : decode cX11_people 0 = .ok (.aload_n 0, 1) := by decide +kernel
theorem dX11_people_1 : decode cX11_people 1 = .ok (.getfield 81, 3) := by decide +kernel
theorem dX11_people_4 : decode cX11_people 4 = .ok (.invokevirtual 236, 3) := by decide +kernel
theorem dX11_people_7 : decode cX11_people 7 = .ok (.ireturn, 1) := by decide +kernel
set_option maxRecDepth 100000 in
set_option maxHeartbeats 4000000 in
theorem c_X11_people {l : Launch} {G : Gx} (hap : k_ap G shC.length) (M0 : Mem) (r : Int32 × Mem) (hf : f_X11_people M0 = some r) : k_Met l yX11_people cX11_people 1 (some .int) 5 109 G shC [.ref (G.2.1 0)] M0 (k_Qi G shC r.1 r.2) := by
  refine k_Met_of (by decide) hap (Nat.le_of_ble_eq_true rfl) ?_
  intro p e s m args below meth c C hr hlk
  have C : Cx p s m args c cX11_people RX11 1 G shC := C
  unfold f_X11_people at hf
  refine k_lv (lv' := [(0, .ref (G.2.1 0))]) [0] rfl ?_
  refine k_aload_n C dX11_people_0 0 rfl ?_
  refine k_getr C shC_0 (j := 10) rfl FL_X11_81 dX11_people_1 ?_
  obtain ⟨⟨t1, M1⟩, ht1, hf⟩ := bnd hf
  replace hf := bp_s hf
  refine k_callVi C (As := []) (c_X2_fewestPeople hap M0 (t1, M1) ht1) ML_X2_fewestPeople wd_775 shC_36 rfl rfl rfl ⟨Nat.le_of_ble_eq_true rfl, Nat.le_of_ble_eq_true rfl⟩ (Nat.le_of_ble_eq_true rfl) dX11_people_4 ?_
  exact k_iret C hr hlk (prf hf) (prs hf) dX11_people_7
theorem dX11_like_0 : decode cX11_like 0 = .ok (.iload_n 1, 1) := by decide +kernel
theorem dX11_like_1 : decode cX11_like 1 = .ok (.iconst (-1), 1) := by decide +kernel
theorem dX11_like_2 : decode cX11_like 2 = .ok (.if_icmp .lt 14, 3) := by decide +kernel
theorem dX11_like_5 : decode cX11_like 5 = .ok (.iload_n 1, 1) := by decide +kernel
theorem dX11_like_6 : decode cX11_like 6 = .ok (.aload_n 0, 1) := by decide +kernel
theorem dX11_like_7 : decode cX11_like 7 = .ok (.getfield 12, 3) := by decide +kernel
theorem dX11_like_10 : decode cX11_like 10 = .ok (.getfield 222, 3) := by decide +kernel
theorem dX11_like_13 : decode cX11_like 13 = .ok (.if_icmp .lt 9, 3) := by decide +kernel
theorem dX11_like_16 : decode cX11_like 16 = .ok (.aload_n 0, 1) := by decide +kernel
theorem dX11_like_17 : decode cX11_like 17 = .ok (.iconst (-1), 1) := by decide +kernel
theorem dX11_like_18 : decode cX11_like 18 = .ok (.invokevirtual 103, 3) := by decide +kernel
theorem dX11_like_21 : decode cX11_like 21 = .ok (.ireturn, 1) := by decide +kernel
theorem dX11_like_22 : decode cX11_like 22 = .ok (.iload_n 1, 1) := by decide +kernel
theorem dX11_like_23 : decode cX11_like 23 = .ok (.ifCond .ge 13, 3) := by decide +kernel
theorem dX11_like_26 : decode cX11_like 26 = .ok (.aload_n 0, 1) := by decide +kernel
theorem dX11_like_27 : decode cX11_like 27 = .ok (.getfield 81, 3) := by decide +kernel
theorem dX11_like_30 : decode cX11_like 30 = .ok (.invokevirtual 239, 3) := by decide +kernel
theorem dX11_like_33 : decode cX11_like 33 = .ok (.goto 11, 3) := by decide +kernel
theorem dX11_like_36 : decode cX11_like 36 = .ok (.aload_n 0, 1) := by decide +kernel
theorem dX11_like_37 : decode cX11_like 37 = .ok (.getfield 81, 3) := by decide +kernel
theorem dX11_like_40 : decode cX11_like 40 = .ok (.iload_n 1, 1) := by decide +kernel
theorem dX11_like_41 : decode cX11_like 41 = .ok (.invokevirtual 242, 3) := by decide +kernel
theorem dX11_like_44 : decode cX11_like 44 = .ok (.ireturn, 1) := by decide +kernel
set_option maxRecDepth 100000 in
set_option maxHeartbeats 4000000 in
theorem c_X11_like {l : Launch} {G : Gx} (hap : k_ap G shC.length) (v1 : Int32) (M0 : Mem) (r : Int32 × Mem) (hf : f_X11_like v1 M0 = some r) : k_Met l yX11_like cX11_like 2 (some .int) 5 112 G shC [.ref (G.2.1 0), .int v1] M0 (k_Qi G shC r.1 r.2) := by
  refine k_Met_of (by decide) hap (Nat.le_of_ble_eq_true rfl) ?_
  intro p e s m args below meth c C hr hlk
  have C : Cx p s m args c cX11_like RX11 2 G shC := C
  unfold f_X11_like at hf
  refine k_lv (lv' := [(0, .ref (G.2.1 0)), (1, .int v1)]) [0, 1] rfl ?_
  refine k_iload_n C dX11_like_0 1 rfl ?_
  refine k_iconst C dX11_like_1 (v := (-1 : Int32)) rfl ?_
  rcases ite_g hf with ⟨c1, hf⟩ | ⟨c1, hf⟩
  · refine k_icmp_lt_t C dX11_like_2 (tgt := 16) (by decide) c1 ?_
    refine k_aload_n C dX11_like_16 0 rfl ?_
    refine k_iconst C dX11_like_17 (v := (-1 : Int32)) rfl ?_
    obtain ⟨⟨t2, M2⟩, ht2, hf⟩ := bnd hf
    replace hf := bp_s hf
    refine k_callVi C (As := [.int (-1 : Int32)]) (c_X11_refuse hap (-1 : Int32) M0 (t2, M2) ht2) ML_X11_refuse wd_421 shC_0 rfl rfl rfl ⟨Nat.le_of_ble_eq_true rfl, Nat.le_of_ble_eq_true rfl⟩ (Nat.le_of_ble_eq_true rfl) dX11_like_18 ?_
    exact k_iret C hr hlk (prf hf) (prs hf) dX11_like_21
  · refine k_icmp_lt_f C dX11_like_2 (tgt := 16) (by decide) c1 ?_
    refine k_iload_n C dX11_like_5 1 rfl ?_
    refine k_aload_n C dX11_like_6 0 rfl ?_
    refine k_getr C shC_0 (j := 0) rfl FL_X11_12 dX11_like_7 ?_
    refine k_geti C shC_1 (j := 4) rfl FL_X11_222 dX11_like_10 ?_
    rcases ite_g hf with ⟨c3, hf⟩ | ⟨c3, hf⟩
    · refine k_icmp_lt_t C dX11_like_13 (tgt := 22) (by decide) c3 ?_
      refine k_iload_n C dX11_like_22 1 rfl ?_
      rcases ite_g hf with ⟨c4, hf⟩ | ⟨c4, hf⟩
      · refine k_if_ge_t C dX11_like_23 (tgt := 36) (by decide) c4 ?_
        refine k_aload_n C dX11_like_36 0 rfl ?_
        refine k_getr C shC_0 (j := 10) rfl FL_X11_81 dX11_like_37 ?_
        refine k_iload_n C dX11_like_40 1 rfl ?_
        obtain ⟨⟨t5, M5⟩, ht5, hf⟩ := bnd hf
        replace hf := bp_s hf
        refine k_callVi C (As := [.int v1]) (c_X2_likesOf hap v1 M0 (t5, M5) ht5) ML_X2_likesOf wd_796 shC_36 rfl rfl rfl ⟨Nat.le_of_ble_eq_true rfl, Nat.le_of_ble_eq_true rfl⟩ (Nat.le_of_ble_eq_true rfl) dX11_like_41 ?_
        exact k_iret C hr hlk (prf hf) (prs hf) dX11_like_44
      · refine k_if_ge_f C dX11_like_23 (tgt := 36) (by decide) c4 ?_
        refine k_aload_n C dX11_like_26 0 rfl ?_
        refine k_getr C shC_0 (j := 10) rfl FL_X11_81 dX11_like_27 ?_
        obtain ⟨⟨t6, M6⟩, ht6, hf⟩ := bnd hf
        replace hf := bp_s hf
        refine k_callVi C (As := []) (c_X2_withMostLikes hap M0 (t6, M6) ht6) ML_X2_withMostLikes wd_788 shC_36 rfl rfl rfl ⟨Nat.le_of_ble_eq_true rfl, Nat.le_of_ble_eq_true rfl⟩ (Nat.le_of_ble_eq_true rfl) dX11_like_30 ?_
        refine k_goto C dX11_like_33 (tgt := 44) (by decide) ?_
        exact k_iret C hr hlk (prf hf) (prs hf) dX11_like_44
    · refine k_icmp_lt_f C dX11_like_13 (tgt := 22) (by decide) c3 ?_
      refine k_aload_n C dX11_like_16 0 rfl ?_
      refine k_iconst C dX11_like_17 (v := (-1 : Int32)) rfl ?_
      obtain ⟨⟨t7, M7⟩, ht7, hf⟩ := bnd hf
      replace hf := bp_s hf
      refine k_callVi C (As := [.int (-1 : Int32)]) (c_X11_refuse hap (-1 : Int32) M0 (t7, M7) ht7) ML_X11_refuse wd_421 shC_0 rfl rfl rfl ⟨Nat.le_of_ble_eq_true rfl, Nat.le_of_ble_eq_true rfl⟩ (Nat.le_of_ble_eq_true rfl) dX11_like_18 ?_
      exact k_iret C hr hlk (prf hf) (prs hf) dX11_like_21
theorem dX11_reading_0 : decode cX11_reading 0 = .ok (.iload_n 1, 1) := by decide +kernel
theorem dX11_reading_1 : decode cX11_reading 1 = .ok (.invokestatic 207, 3) := by decide +kernel
theorem dX11_reading_4 : decode cX11_reading 4 = .ok (.ifCond .ne 10, 3) := by decide +kernel
theorem dX11_reading_7 : decode cX11_reading 7 = .ok (.aload_n 0, 1) := by decide +kernel
theorem dX11_reading_8 : decode cX11_reading 8 = .ok (.bipush (-2), 2) := by decide +kernel
theorem dX11_reading_10 : decode cX11_reading 10 = .ok (.invokevirtual 103, 3) := by decide +kernel
theorem dX11_reading_13 : decode cX11_reading 13 = .ok (.ireturn, 1) := by decide +kernel
theorem dX11_reading_14 : decode cX11_reading 14 = .ok (.aload_n 0, 1) := by decide +kernel
theorem dX11_reading_15 : decode cX11_reading 15 = .ok (.getfield 67, 3) := by decide +kernel
theorem dX11_reading_18 : decode cX11_reading 18 = .ok (.iload_n 1, 1) := by decide +kernel
theorem dX11_reading_19 : decode cX11_reading 19 = .ok (.invokevirtual 245, 3) := by decide +kernel
theorem dX11_reading_22 : decode cX11_reading 22 = .ok (.ireturn, 1) := by decide +kernel
set_option maxRecDepth 100000 in
set_option maxHeartbeats 4000000 in
theorem c_X11_reading {l : Launch} {G : Gx} (hap : k_ap G shC.length) (v1 : Int32) (M0 : Mem) (r : Int32 × Mem) (hf : f_X11_reading v1 M0 = some r) : k_Met l yX11_reading cX11_reading 2 (some .int) 5 116 G shC [.ref (G.2.1 0), .int v1] M0 (k_Qi G shC r.1 r.2) := by
  refine k_Met_of (by decide) hap (Nat.le_of_ble_eq_true rfl) ?_
  intro p e s m args below meth c C hr hlk
  have C : Cx p s m args c cX11_reading RX11 2 G shC := C
  unfold f_X11_reading at hf
  refine k_lv (lv' := [(0, .ref (G.2.1 0)), (1, .int v1)]) [0, 1] rfl ?_
  refine k_iload_n C dX11_reading_0 1 rfl ?_
  refine k_callSi C (As := [.int v1]) (c_X11_isEither hap v1 M0 _ rfl) MS_X11_isEither wd_696 rfl rfl ⟨Nat.le_of_ble_eq_true rfl, Nat.le_of_ble_eq_true rfl⟩ (Nat.le_of_ble_eq_true rfl) dX11_reading_1 ?_
  rcases ite_g hf with ⟨c1, hf⟩ | ⟨c1, hf⟩
  · refine k_if_ne_f C dX11_reading_4 (tgt := 14) (by decide) c1 ?_
    refine k_aload_n C dX11_reading_7 0 rfl ?_
    refine k_bipush C dX11_reading_8 (v := (-2 : Int32)) rfl ?_
    obtain ⟨⟨t3, M3⟩, ht3, hf⟩ := bnd hf
    replace hf := bp_s hf
    refine k_callVi C (As := [.int (-2 : Int32)]) (c_X11_refuse hap (-2 : Int32) M0 (t3, M3) ht3) ML_X11_refuse wd_421 shC_0 rfl rfl rfl ⟨Nat.le_of_ble_eq_true rfl, Nat.le_of_ble_eq_true rfl⟩ (Nat.le_of_ble_eq_true rfl) dX11_reading_10 ?_
    exact k_iret C hr hlk (prf hf) (prs hf) dX11_reading_13
  · refine k_if_ne_t C dX11_reading_4 (tgt := 14) (by decide) c1 ?_
    refine k_aload_n C dX11_reading_14 0 rfl ?_
    refine k_getr C shC_0 (j := 8) rfl FL_X11_67 dX11_reading_15 ?_
    refine k_iload_n C dX11_reading_18 1 rfl ?_
    obtain ⟨⟨t2, M2⟩, ht2, hf⟩ := bnd hf
    replace hf := bp_s hf
    refine k_callVi C (As := [.int v1]) (c_X7_mildest hap v1 M0 (t2, M2) ht2) ML_X7_mildest wd_804 shC_32 rfl rfl rfl ⟨Nat.le_of_ble_eq_true rfl, Nat.le_of_ble_eq_true rfl⟩ (Nat.le_of_ble_eq_true rfl) dX11_reading_19 ?_
    exact k_iret C hr hlk (prf hf) (prs hf) dX11_reading_22
theorem dX11_fits_0 : decode cX11_fits 0 = .ok (.iload_n 1, 1) := by decide +kernel
theorem dX11_fits_1 : decode cX11_fits 1 = .ok (.invokestatic 207, 3) := by decide +kernel
theorem dX11_fits_4 : decode cX11_fits 4 = .ok (.ifCond .ne 10, 3) := by decide +kernel
theorem dX11_fits_7 : decode cX11_fits 7 = .ok (.aload_n 0, 1) := by decide +kernel
theorem dX11_fits_8 : decode cX11_fits 8 = .ok (.bipush (-2), 2) := by decide +kernel
theorem dX11_fits_10 : decode cX11_fits 10 = .ok (.invokevirtual 103, 3) := by decide +kernel
theorem dX11_fits_13 : decode cX11_fits 13 = .ok (.ireturn, 1) := by decide +kernel
theorem dX11_fits_14 : decode cX11_fits 14 = .ok (.aload_n 0, 1) := by decide +kernel
theorem dX11_fits_15 : decode cX11_fits 15 = .ok (.getfield 40, 3) := by decide +kernel
theorem dX11_fits_18 : decode cX11_fits 18 = .ok (.getfield 248, 3) := by decide +kernel
theorem dX11_fits_21 : decode cX11_fits 21 = .ok (.aload_n 0, 1) := by decide +kernel
theorem dX11_fits_22 : decode cX11_fits 22 = .ok (.getfield 12, 3) := by decide +kernel
theorem dX11_fits_25 : decode cX11_fits 25 = .ok (.getfield 159, 3) := by decide +kernel
theorem dX11_fits_28 : decode cX11_fits 28 = .ok (.if_icmp .le 10, 3) := by decide +kernel
theorem dX11_fits_31 : decode cX11_fits 31 = .ok (.aload_n 0, 1) := by decide +kernel
theorem dX11_fits_32 : decode cX11_fits 32 = .ok (.bipush (-3), 2) := by decide +kernel
theorem dX11_fits_34 : decode cX11_fits 34 = .ok (.invokevirtual 103, 3) := by decide +kernel
theorem dX11_fits_37 : decode cX11_fits 37 = .ok (.ireturn, 1) := by decide +kernel
theorem dX11_fits_38 : decode cX11_fits 38 = .ok (.iload_n 1, 1) := by decide +kernel
theorem dX11_fits_39 : decode cX11_fits 39 = .ok (.ifCond .ne 13, 3) := by decide +kernel
theorem dX11_fits_42 : decode cX11_fits 42 = .ok (.aload_n 0, 1) := by decide +kernel
theorem dX11_fits_43 : decode cX11_fits 43 = .ok (.getfield 67, 3) := by decide +kernel
theorem dX11_fits_46 : decode cX11_fits 46 = .ok (.invokevirtual 249, 3) := by decide +kernel
theorem dX11_fits_49 : decode cX11_fits 49 = .ok (.goto 10, 3) := by decide +kernel
theorem dX11_fits_52 : decode cX11_fits 52 = .ok (.aload_n 0, 1) := by decide +kernel
theorem dX11_fits_53 : decode cX11_fits 53 = .ok (.getfield 67, 3) := by decide +kernel
theorem dX11_fits_56 : decode cX11_fits 56 = .ok (.invokevirtual 252, 3) := by decide +kernel
theorem dX11_fits_59 : decode cX11_fits 59 = .ok (.ireturn, 1) := by decide +kernel
set_option maxRecDepth 100000 in
set_option maxHeartbeats 4000000 in
theorem c_X11_fits {l : Launch} {G : Gx} (hap : k_ap G shC.length) (v1 : Int32) (M0 : Mem) (r : Int32 × Mem) (hf : f_X11_fits v1 M0 = some r) : k_Met l yX11_fits cX11_fits 2 (some .int) 5 114 G shC [.ref (G.2.1 0), .int v1] M0 (k_Qi G shC r.1 r.2) := by
  refine k_Met_of (by decide) hap (Nat.le_of_ble_eq_true rfl) ?_
  intro p e s m args below meth c C hr hlk
  have C : Cx p s m args c cX11_fits RX11 2 G shC := C
  unfold f_X11_fits at hf
  refine k_lv (lv' := [(0, .ref (G.2.1 0)), (1, .int v1)]) [0, 1] rfl ?_
  refine k_iload_n C dX11_fits_0 1 rfl ?_
  refine k_callSi C (As := [.int v1]) (c_X11_isEither hap v1 M0 _ rfl) MS_X11_isEither wd_696 rfl rfl ⟨Nat.le_of_ble_eq_true rfl, Nat.le_of_ble_eq_true rfl⟩ (Nat.le_of_ble_eq_true rfl) dX11_fits_1 ?_
  rcases ite_g hf with ⟨c1, hf⟩ | ⟨c1, hf⟩
  · refine k_if_ne_f C dX11_fits_4 (tgt := 14) (by decide) c1 ?_
    refine k_aload_n C dX11_fits_7 0 rfl ?_
    refine k_bipush C dX11_fits_8 (v := (-2 : Int32)) rfl ?_
    obtain ⟨⟨t7, M7⟩, ht7, hf⟩ := bnd hf
    replace hf := bp_s hf
    refine k_callVi C (As := [.int (-2 : Int32)]) (c_X11_refuse hap (-2 : Int32) M0 (t7, M7) ht7) ML_X11_refuse wd_421 shC_0 rfl rfl rfl ⟨Nat.le_of_ble_eq_true rfl, Nat.le_of_ble_eq_true rfl⟩ (Nat.le_of_ble_eq_true rfl) dX11_fits_10 ?_
    exact k_iret C hr hlk (prf hf) (prs hf) dX11_fits_13
  · refine k_if_ne_t C dX11_fits_4 (tgt := 14) (by decide) c1 ?_
    refine k_aload_n C dX11_fits_14 0 rfl ?_
    refine k_getr C shC_0 (j := 5) rfl FL_X11_40 dX11_fits_15 ?_
    refine k_geti C shC_23 (j := 1) rfl FL_X11_248 dX11_fits_18 ?_
    refine k_aload_n C dX11_fits_21 0 rfl ?_
    refine k_getr C shC_0 (j := 0) rfl FL_X11_12 dX11_fits_22 ?_
    refine k_geti C shC_1 (j := 5) rfl FL_X11_159 dX11_fits_25 ?_
    rcases ite_g hf with ⟨c2, hf⟩ | ⟨c2, hf⟩
    · refine k_icmp_le_t C dX11_fits_28 (tgt := 38) (by decide) c2 ?_
      refine k_iload_n C dX11_fits_38 1 rfl ?_
      rcases ite_g hf with ⟨c3, hf⟩ | ⟨c3, hf⟩
      · refine k_if_ne_f C dX11_fits_39 (tgt := 52) (by decide) c3 ?_
        refine k_aload_n C dX11_fits_42 0 rfl ?_
        refine k_getr C shC_0 (j := 8) rfl FL_X11_67 dX11_fits_43 ?_
        obtain ⟨⟨t5, M5⟩, ht5, hf⟩ := bnd hf
        replace hf := bp_s hf
        refine k_callVi C (As := []) (c_X7_howManyFit hap M0 (t5, M5) ht5) ML_X7_howManyFit wd_817 shC_32 rfl rfl rfl ⟨Nat.le_of_ble_eq_true rfl, Nat.le_of_ble_eq_true rfl⟩ (Nat.le_of_ble_eq_true rfl) dX11_fits_46 ?_
        refine k_goto C dX11_fits_49 (tgt := 59) (by decide) ?_
        exact k_iret C hr hlk (prf hf) (prs hf) dX11_fits_59
      · refine k_if_ne_t C dX11_fits_39 (tgt := 52) (by decide) c3 ?_
        refine k_aload_n C dX11_fits_52 0 rfl ?_
        refine k_getr C shC_0 (j := 8) rfl FL_X11_67 dX11_fits_53 ?_
        obtain ⟨⟨t4, M4⟩, ht4, hf⟩ := bnd hf
        replace hf := bp_s hf
        refine k_callVi C (As := []) (c_X7_firstFitting hap M0 (t4, M4) ht4) ML_X7_firstFitting wd_828 shC_32 rfl rfl rfl ⟨Nat.le_of_ble_eq_true rfl, Nat.le_of_ble_eq_true rfl⟩ (Nat.le_of_ble_eq_true rfl) dX11_fits_56 ?_
        exact k_iret C hr hlk (prf hf) (prs hf) dX11_fits_59
    · refine k_icmp_le_f C dX11_fits_28 (tgt := 38) (by decide) c2 ?_
      refine k_aload_n C dX11_fits_31 0 rfl ?_
      refine k_bipush C dX11_fits_32 (v := (-3 : Int32)) rfl ?_
      obtain ⟨⟨t6, M6⟩, ht6, hf⟩ := bnd hf
      replace hf := bp_s hf
      refine k_callVi C (As := [.int (-3 : Int32)]) (c_X11_refuse hap (-3 : Int32) M0 (t6, M6) ht6) ML_X11_refuse wd_421 shC_0 rfl rfl rfl ⟨Nat.le_of_ble_eq_true rfl, Nat.le_of_ble_eq_true rfl⟩ (Nat.le_of_ble_eq_true rfl) dX11_fits_34 ?_
      exact k_iret C hr hlk (prf hf) (prs hf) dX11_fits_37
theorem dX11_tellsMost_0 : decode cX11_tellsMost 0 = .ok (.iload_n 1, 1) := by decide +kernel
theorem dX11_tellsMost_1 : decode cX11_tellsMost 1 = .ok (.invokestatic 207, 3) := by decide +kernel
theorem dX11_tellsMost_4 : decode cX11_tellsMost 4 = .ok (.ifCond .ne 10, 3) := by decide +kernel
theorem dX11_tellsMost_7 : decode cX11_tellsMost 7 = .ok (.aload_n 0, 1) := by decide +kernel
theorem dX11_tellsMost_8 : decode cX11_tellsMost 8 = .ok (.bipush (-2), 2) := by decide +kernel
theorem dX11_tellsMost_10 : decode cX11_tellsMost 10 = .ok (.invokevirtual 103, 3) := by decide +kernel
theorem dX11_tellsMost_13 : decode cX11_tellsMost 13 = .ok (.ireturn, 1) := by decide +kernel
theorem dX11_tellsMost_14 : decode cX11_tellsMost 14 = .ok (.aload_n 0, 1) := by decide +kernel
theorem dX11_tellsMost_15 : decode cX11_tellsMost 15 = .ok (.getfield 40, 3) := by decide +kernel
theorem dX11_tellsMost_18 : decode cX11_tellsMost 18 = .ok (.getfield 248, 3) := by decide +kernel
theorem dX11_tellsMost_21 : decode cX11_tellsMost 21 = .ok (.aload_n 0, 1) := by decide +kernel
theorem dX11_tellsMost_22 : decode cX11_tellsMost 22 = .ok (.getfield 12, 3) := by decide +kernel
theorem dX11_tellsMost_25 : decode cX11_tellsMost 25 = .ok (.getfield 159, 3) := by decide +kernel
theorem dX11_tellsMost_28 : decode cX11_tellsMost 28 = .ok (.if_icmp .le 10, 3) := by decide +kernel
theorem dX11_tellsMost_31 : decode cX11_tellsMost 31 = .ok (.aload_n 0, 1) := by decide +kernel
theorem dX11_tellsMost_32 : decode cX11_tellsMost 32 = .ok (.bipush (-3), 2) := by decide +kernel
theorem dX11_tellsMost_34 : decode cX11_tellsMost 34 = .ok (.invokevirtual 103, 3) := by decide +kernel
theorem dX11_tellsMost_37 : decode cX11_tellsMost 37 = .ok (.ireturn, 1) := by decide +kernel
theorem dX11_tellsMost_38 : decode cX11_tellsMost 38 = .ok (.aload_n 0, 1) := by decide +kernel
theorem dX11_tellsMost_39 : decode cX11_tellsMost 39 = .ok (.getfield 67, 3) := by decide +kernel
theorem dX11_tellsMost_42 : decode cX11_tellsMost 42 = .ok (.iload_n 1, 1) := by decide +kernel
theorem dX11_tellsMost_43 : decode cX11_tellsMost 43 = .ok (.invokevirtual 255, 3) := by decide +kernel
theorem dX11_tellsMost_46 : decode cX11_tellsMost 46 = .ok (.ireturn, 1) := by decide +kernel
set_option maxRecDepth 100000 in
set_option maxHeartbeats 4000000 in
theorem c_X11_tellsMost {l : Launch} {G : Gx} (hap : k_ap G shC.length) (v1 : Int32) (M0 : Mem) (r : Int32 × Mem) (hf : f_X11_tellsMost v1 M0 = some r) : k_Met l yX11_tellsMost cX11_tellsMost 2 (some .int) 6 140 G shC [.ref (G.2.1 0), .int v1] M0 (k_Qi G shC r.1 r.2) := by
  refine k_Met_of (by decide) hap (Nat.le_of_ble_eq_true rfl) ?_
  intro p e s m args below meth c C hr hlk
  have C : Cx p s m args c cX11_tellsMost RX11 2 G shC := C
  unfold f_X11_tellsMost at hf
  refine k_lv (lv' := [(0, .ref (G.2.1 0)), (1, .int v1)]) [0, 1] rfl ?_
  refine k_iload_n C dX11_tellsMost_0 1 rfl ?_
  refine k_callSi C (As := [.int v1]) (c_X11_isEither hap v1 M0 _ rfl) MS_X11_isEither wd_696 rfl rfl ⟨Nat.le_of_ble_eq_true rfl, Nat.le_of_ble_eq_true rfl⟩ (Nat.le_of_ble_eq_true rfl) dX11_tellsMost_1 ?_
  rcases ite_g hf with ⟨c1, hf⟩ | ⟨c1, hf⟩
  · refine k_if_ne_f C dX11_tellsMost_4 (tgt := 14) (by decide) c1 ?_
    refine k_aload_n C dX11_tellsMost_7 0 rfl ?_
    refine k_bipush C dX11_tellsMost_8 (v := (-2 : Int32)) rfl ?_
    obtain ⟨⟨t5, M5⟩, ht5, hf⟩ := bnd hf
    replace hf := bp_s hf
    refine k_callVi C (As := [.int (-2 : Int32)]) (c_X11_refuse hap (-2 : Int32) M0 (t5, M5) ht5) ML_X11_refuse wd_421 shC_0 rfl rfl rfl ⟨Nat.le_of_ble_eq_true rfl, Nat.le_of_ble_eq_true rfl⟩ (Nat.le_of_ble_eq_true rfl) dX11_tellsMost_10 ?_
    exact k_iret C hr hlk (prf hf) (prs hf) dX11_tellsMost_13
  · refine k_if_ne_t C dX11_tellsMost_4 (tgt := 14) (by decide) c1 ?_
    refine k_aload_n C dX11_tellsMost_14 0 rfl ?_
    refine k_getr C shC_0 (j := 5) rfl FL_X11_40 dX11_tellsMost_15 ?_
    refine k_geti C shC_23 (j := 1) rfl FL_X11_248 dX11_tellsMost_18 ?_
    refine k_aload_n C dX11_tellsMost_21 0 rfl ?_
    refine k_getr C shC_0 (j := 0) rfl FL_X11_12 dX11_tellsMost_22 ?_
    refine k_geti C shC_1 (j := 5) rfl FL_X11_159 dX11_tellsMost_25 ?_
    rcases ite_g hf with ⟨c2, hf⟩ | ⟨c2, hf⟩
    · refine k_icmp_le_t C dX11_tellsMost_28 (tgt := 38) (by decide) c2 ?_
      refine k_aload_n C dX11_tellsMost_38 0 rfl ?_
      refine k_getr C shC_0 (j := 8) rfl FL_X11_67 dX11_tellsMost_39 ?_
      refine k_iload_n C dX11_tellsMost_42 1 rfl ?_
      obtain ⟨⟨t3, M3⟩, ht3, hf⟩ := bnd hf
      replace hf := bp_s hf
      refine k_callVi C (As := [.int v1]) (c_X7_mostTelling hap v1 M0 (t3, M3) ht3) ML_X7_mostTelling wd_836 shC_32 rfl rfl rfl ⟨Nat.le_of_ble_eq_true rfl, Nat.le_of_ble_eq_true rfl⟩ (Nat.le_of_ble_eq_true rfl) dX11_tellsMost_43 ?_
      exact k_iret C hr hlk (prf hf) (prs hf) dX11_tellsMost_46
    · refine k_icmp_le_f C dX11_tellsMost_28 (tgt := 38) (by decide) c2 ?_
      refine k_aload_n C dX11_tellsMost_31 0 rfl ?_
      refine k_bipush C dX11_tellsMost_32 (v := (-3 : Int32)) rfl ?_
      obtain ⟨⟨t4, M4⟩, ht4, hf⟩ := bnd hf
      replace hf := bp_s hf
      refine k_callVi C (As := [.int (-3 : Int32)]) (c_X11_refuse hap (-3 : Int32) M0 (t4, M4) ht4) ML_X11_refuse wd_421 shC_0 rfl rfl rfl ⟨Nat.le_of_ble_eq_true rfl, Nat.le_of_ble_eq_true rfl⟩ (Nat.le_of_ble_eq_true rfl) dX11_tellsMost_34 ?_
      exact k_iret C hr hlk (prf hf) (prs hf) dX11_tellsMost_37
theorem dX11_loophole_0 : decode cX11_loophole 0 = .ok (.aload_n 0, 1) := by decide +kernel
theorem dX11_loophole_1 : decode cX11_loophole 1 = .ok (.getfield 88, 3) := by decide +kernel
theorem dX11_loophole_4 : decode cX11_loophole 4 = .ok (.invokevirtual 258, 3) := by decide +kernel
theorem dX11_loophole_7 : decode cX11_loophole 7 = .ok (.ireturn, 1) := by decide +kernel
set_option maxRecDepth 100000 in
set_option maxHeartbeats 4000000 in
theorem c_X11_loophole {l : Launch} {G : Gx} (hap : k_ap G shC.length) (M0 : Mem) (r : Int32 × Mem) (hf : f_X11_loophole M0 = some r) : k_Met l yX11_loophole cX11_loophole 1 (some .int) 6 136 G shC [.ref (G.2.1 0)] M0 (k_Qi G shC r.1 r.2) := by
  refine k_Met_of (by decide) hap (Nat.le_of_ble_eq_true rfl) ?_
  intro p e s m args below meth c C hr hlk
  have C : Cx p s m args c cX11_loophole RX11 1 G shC := C
  unfold f_X11_loophole at hf
  refine k_lv (lv' := [(0, .ref (G.2.1 0))]) [0] rfl ?_
  refine k_aload_n C dX11_loophole_0 0 rfl ?_
  refine k_getr C shC_0 (j := 11) rfl FL_X11_88 dX11_loophole_1 ?_
  obtain ⟨⟨t1, M1⟩, ht1, hf⟩ := bnd hf
  replace hf := bp_s hf
  refine k_callVi C (As := []) (c_X5_bestFlip hap M0 (t1, M1) ht1) ML_X5_bestFlip wd_861 shC_41 rfl rfl rfl ⟨Nat.le_of_ble_eq_true rfl, Nat.le_of_ble_eq_true rfl⟩ (Nat.le_of_ble_eq_true rfl) dX11_loophole_4 ?_
  exact k_iret C hr hlk (prf hf) (prs hf) dX11_loophole_7
theorem dX11_shared_0 : decode cX11_shared 0 = .ok (.iload_n 1, 1) := by decide +kernel
theorem dX11_shared_1 : decode cX11_shared 1 = .ok (.invokestatic 207, 3) := by decide +kernel
theorem dX11_shared_4 : decode cX11_shared 4 = .ok (.ifCond .ne 10, 3) := by decide +kernel
theorem dX11_shared_7 : decode cX11_shared 7 = .ok (.aload_n 0, 1) := by decide +kernel
theorem dX11_shared_8 : decode cX11_shared 8 = .ok (.bipush (-2), 2) := by decide +kernel
theorem dX11_shared_10 : decode cX11_shared 10 = .ok (.invokevirtual 103, 3) := by decide +kernel
theorem dX11_shared_13 : decode cX11_shared 13 = .ok (.ireturn, 1) := by decide +kernel
theorem dX11_shared_14 : decode cX11_shared 14 = .ok (.aload_n 0, 1) := by decide +kernel
theorem dX11_shared_15 : decode cX11_shared 15 = .ok (.getfield 58, 3) := by decide +kernel
theorem dX11_shared_18 : decode cX11_shared 18 = .ok (.iload_n 1, 1) := by decide +kernel
theorem dX11_shared_19 : decode cX11_shared 19 = .ok (.invokevirtual 261, 3) := by decide +kernel
theorem dX11_shared_22 : decode cX11_shared 22 = .ok (.ireturn, 1) := by decide +kernel
set_option maxRecDepth 100000 in
set_option maxHeartbeats 4000000 in
theorem c_X11_shared {l : Launch} {G : Gx} (hap : k_ap G shC.length) (v1 : Int32) (M0 : Mem) (r : Int32 × Mem) (hf : f_X11_shared v1 M0 = some r) : k_Met l yX11_shared cX11_shared 2 (some .int) 6 135 G shC [.ref (G.2.1 0), .int v1] M0 (k_Qi G shC r.1 r.2) := by
  refine k_Met_of (by decide) hap (Nat.le_of_ble_eq_true rfl) ?_
  intro p e s m args below meth c C hr hlk
  have C : Cx p s m args c cX11_shared RX11 2 G shC := C
  unfold f_X11_shared at hf
  refine k_lv (lv' := [(0, .ref (G.2.1 0)), (1, .int v1)]) [0, 1] rfl ?_
  refine k_iload_n C dX11_shared_0 1 rfl ?_
  refine k_callSi C (As := [.int v1]) (c_X11_isEither hap v1 M0 _ rfl) MS_X11_isEither wd_696 rfl rfl ⟨Nat.le_of_ble_eq_true rfl, Nat.le_of_ble_eq_true rfl⟩ (Nat.le_of_ble_eq_true rfl) dX11_shared_1 ?_
  rcases ite_g hf with ⟨c1, hf⟩ | ⟨c1, hf⟩
  · refine k_if_ne_f C dX11_shared_4 (tgt := 14) (by decide) c1 ?_
    refine k_aload_n C dX11_shared_7 0 rfl ?_
    refine k_bipush C dX11_shared_8 (v := (-2 : Int32)) rfl ?_
    obtain ⟨⟨t3, M3⟩, ht3, hf⟩ := bnd hf
    replace hf := bp_s hf
    refine k_callVi C (As := [.int (-2 : Int32)]) (c_X11_refuse hap (-2 : Int32) M0 (t3, M3) ht3) ML_X11_refuse wd_421 shC_0 rfl rfl rfl ⟨Nat.le_of_ble_eq_true rfl, Nat.le_of_ble_eq_true rfl⟩ (Nat.le_of_ble_eq_true rfl) dX11_shared_10 ?_
    exact k_iret C hr hlk (prf hf) (prs hf) dX11_shared_13
  · refine k_if_ne_t C dX11_shared_4 (tgt := 14) (by decide) c1 ?_
    refine k_aload_n C dX11_shared_14 0 rfl ?_
    refine k_getr C shC_0 (j := 7) rfl FL_X11_58 dX11_shared_15 ?_
    refine k_iload_n C dX11_shared_18 1 rfl ?_
    obtain ⟨⟨t2, M2⟩, ht2, hf⟩ := bnd hf
    replace hf := bp_s hf
    refine k_callVi C (As := [.int v1]) (c_X3_splitInTwo hap v1 M0 (t2, M2) ht2) ML_X3_splitInTwo wd_875 shC_28 rfl rfl rfl ⟨Nat.le_of_ble_eq_true rfl, Nat.le_of_ble_eq_true rfl⟩ (Nat.le_of_ble_eq_true rfl) dX11_shared_19 ?_
    exact k_iret C hr hlk (prf hf) (prs hf) dX11_shared_22
theorem dX11_saves_0 : decode cX11_saves 0 = .ok (.iload_n 1, 1) := by decide +kernel
theorem dX11_saves_1 : decode cX11_saves 1 = .ok (.iconst (-1), 1) := by decide +kernel
theorem dX11_saves_2 : decode cX11_saves 2 = .ok (.if_icmp .lt 14, 3) := by decide +kernel
theorem dX11_saves_5 : decode cX11_saves 5 = .ok (.iload_n 1, 1) := by decide +kernel
theorem dX11_saves_6 : decode cX11_saves 6 = .ok (.aload_n 0, 1) := by decide +kernel
theorem dX11_saves_7 : decode cX11_saves 7 = .ok (.getfield 12, 3) := by decide +kernel
theorem dX11_saves_10 : decode cX11_saves 10 = .ok (.getfield 159, 3) := by decide +kernel
theorem dX11_saves_13 : decode cX11_saves 13 = .ok (.if_icmp .lt 9, 3) := by decide +kernel
theorem dX11_saves_16 : decode cX11_saves 16 = .ok (.aload_n 0, 1) := by decide +kernel
theorem dX11_saves_17 : decode cX11_saves 17 = .ok (.iconst (-1), 1) := by decide +kernel
theorem dX11_saves_18 : decode cX11_saves 18 = .ok (.invokevirtual 103, 3) := by decide +kernel
theorem dX11_saves_21 : decode cX11_saves 21 = .ok (.ireturn, 1) := by decide +kernel
theorem dX11_saves_22 : decode cX11_saves 22 = .ok (.iload_n 1, 1) := by decide +kernel
theorem dX11_saves_23 : decode cX11_saves 23 = .ok (.ifCond .ge 13, 3) := by decide +kernel
theorem dX11_saves_26 : decode cX11_saves 26 = .ok (.aload_n 0, 1) := by decide +kernel
theorem dX11_saves_27 : decode cX11_saves 27 = .ok (.getfield 58, 3) := by decide +kernel
theorem dX11_saves_30 : decode cX11_saves 30 = .ok (.invokevirtual 264, 3) := by decide +kernel
theorem dX11_saves_33 : decode cX11_saves 33 = .ok (.goto 11, 3) := by decide +kernel
theorem dX11_saves_36 : decode cX11_saves 36 = .ok (.aload_n 0, 1) := by decide +kernel
theorem dX11_saves_37 : decode cX11_saves 37 = .ok (.getfield 58, 3) := by decide +kernel
theorem dX11_saves_40 : decode cX11_saves 40 = .ok (.iload_n 1, 1) := by decide +kernel
theorem dX11_saves_41 : decode cX11_saves 41 = .ok (.invokevirtual 267, 3) := by decide +kernel
theorem dX11_saves_44 : decode cX11_saves 44 = .ok (.ireturn, 1) := by decide +kernel
set_option maxRecDepth 100000 in
set_option maxHeartbeats 4000000 in
theorem c_X11_saves {l : Launch} {G : Gx} (hap : k_ap G shC.length) (v1 : Int32) (M0 : Mem) (r : Int32 × Mem) (hf : f_X11_saves v1 M0 = some r) : k_Met l yX11_saves cX11_saves 2 (some .int) 5 112 G shC [.ref (G.2.1 0), .int v1] M0 (k_Qi G shC r.1 r.2) := by
  refine k_Met_of (by decide) hap (Nat.le_of_ble_eq_true rfl) ?_
  intro p e s m args below meth c C hr hlk
  have C : Cx p s m args c cX11_saves RX11 2 G shC := C
  unfold f_X11_saves at hf
  refine k_lv (lv' := [(0, .ref (G.2.1 0)), (1, .int v1)]) [0, 1] rfl ?_
  refine k_iload_n C dX11_saves_0 1 rfl ?_
  refine k_iconst C dX11_saves_1 (v := (-1 : Int32)) rfl ?_
  rcases ite_g hf with ⟨c1, hf⟩ | ⟨c1, hf⟩
  · refine k_icmp_lt_t C dX11_saves_2 (tgt := 16) (by decide) c1 ?_
    refine k_aload_n C dX11_saves_16 0 rfl ?_
    refine k_iconst C dX11_saves_17 (v := (-1 : Int32)) rfl ?_
    obtain ⟨⟨t2, M2⟩, ht2, hf⟩ := bnd hf
    replace hf := bp_s hf
    refine k_callVi C (As := [.int (-1 : Int32)]) (c_X11_refuse hap (-1 : Int32) M0 (t2, M2) ht2) ML_X11_refuse wd_421 shC_0 rfl rfl rfl ⟨Nat.le_of_ble_eq_true rfl, Nat.le_of_ble_eq_true rfl⟩ (Nat.le_of_ble_eq_true rfl) dX11_saves_18 ?_
    exact k_iret C hr hlk (prf hf) (prs hf) dX11_saves_21
  · refine k_icmp_lt_f C dX11_saves_2 (tgt := 16) (by decide) c1 ?_
    refine k_iload_n C dX11_saves_5 1 rfl ?_
    refine k_aload_n C dX11_saves_6 0 rfl ?_
    refine k_getr C shC_0 (j := 0) rfl FL_X11_12 dX11_saves_7 ?_
    refine k_geti C shC_1 (j := 5) rfl FL_X11_159 dX11_saves_10 ?_
    rcases ite_g hf with ⟨c3, hf⟩ | ⟨c3, hf⟩
    · refine k_icmp_lt_t C dX11_saves_13 (tgt := 22) (by decide) c3 ?_
      refine k_iload_n C dX11_saves_22 1 rfl ?_
      rcases ite_g hf with ⟨c4, hf⟩ | ⟨c4, hf⟩
      · refine k_if_ge_t C dX11_saves_23 (tgt := 36) (by decide) c4 ?_
        refine k_aload_n C dX11_saves_36 0 rfl ?_
        refine k_getr C shC_0 (j := 7) rfl FL_X11_58 dX11_saves_37 ?_
        refine k_iload_n C dX11_saves_40 1 rfl ?_
        obtain ⟨⟨t5, M5⟩, ht5, hf⟩ := bnd hf
        replace hf := bp_s hf
        refine k_callVi C (As := [.int v1]) (c_X3_savingOf hap v1 M0 (t5, M5) ht5) ML_X3_savingOf wd_909 shC_28 rfl rfl rfl ⟨Nat.le_of_ble_eq_true rfl, Nat.le_of_ble_eq_true rfl⟩ (Nat.le_of_ble_eq_true rfl) dX11_saves_41 ?_
        exact k_iret C hr hlk (prf hf) (prs hf) dX11_saves_44
      · refine k_if_ge_f C dX11_saves_23 (tgt := 36) (by decide) c4 ?_
        refine k_aload_n C dX11_saves_26 0 rfl ?_
        refine k_getr C shC_0 (j := 7) rfl FL_X11_58 dX11_saves_27 ?_
        obtain ⟨⟨t6, M6⟩, ht6, hf⟩ := bnd hf
        replace hf := bp_s hf
        refine k_callVi C (As := []) (c_X3_bestSaving hap M0 (t6, M6) ht6) ML_X3_bestSaving wd_899 shC_28 rfl rfl rfl ⟨Nat.le_of_ble_eq_true rfl, Nat.le_of_ble_eq_true rfl⟩ (Nat.le_of_ble_eq_true rfl) dX11_saves_30 ?_
        refine k_goto C dX11_saves_33 (tgt := 44) (by decide) ?_
        exact k_iret C hr hlk (prf hf) (prs hf) dX11_saves_44
    · refine k_icmp_lt_f C dX11_saves_13 (tgt := 22) (by decide) c3 ?_
      refine k_aload_n C dX11_saves_16 0 rfl ?_
      refine k_iconst C dX11_saves_17 (v := (-1 : Int32)) rfl ?_
      obtain ⟨⟨t7, M7⟩, ht7, hf⟩ := bnd hf
      replace hf := bp_s hf
      refine k_callVi C (As := [.int (-1 : Int32)]) (c_X11_refuse hap (-1 : Int32) M0 (t7, M7) ht7) ML_X11_refuse wd_421 shC_0 rfl rfl rfl ⟨Nat.le_of_ble_eq_true rfl, Nat.le_of_ble_eq_true rfl⟩ (Nat.le_of_ble_eq_true rfl) dX11_saves_18 ?_
      exact k_iret C hr hlk (prf hf) (prs hf) dX11_saves_21
theorem dX11_turned_0 : decode cX11_turned 0 = .ok (.aload_n 0, 1) := by decide +kernel
theorem dX11_turned_1 : decode cX11_turned 1 = .ok (.getfield 58, 3) := by decide +kernel
theorem dX11_turned_4 : decode cX11_turned 4 = .ok (.invokevirtual 270, 3) := by decide +kernel
theorem dX11_turned_7 : decode cX11_turned 7 = .ok (.ireturn, 1) := by decide +kernel
set_option maxRecDepth 100000 in
set_option maxHeartbeats 4000000 in
theorem c_X11_turned {l : Launch} {G : Gx} (hap : k_ap G shC.length) (M0 : Mem) (r : Int32 × Mem) (hf : f_X11_turned M0 = some r) : k_Met l yX11_turned cX11_turned 1 (some .int) 5 110 G shC [.ref (G.2.1 0)] M0 (k_Qi G shC r.1 r.2) := by
  refine k_Met_of (by decide) hap (Nat.le_of_ble_eq_true rfl) ?_
  intro p e s m args below meth c C hr hlk
  have C : Cx p s m args c cX11_turned RX11 1 G shC := C
  unfold f_X11_turned at hf
  refine k_lv (lv' := [(0, .ref (G.2.1 0))]) [0] rfl ?_
  refine k_aload_n C dX11_turned_0 0 rfl ?_
  refine k_getr C shC_0 (j := 7) rfl FL_X11_58 dX11_turned_1 ?_
  obtain ⟨⟨t1, M1⟩, ht1, hf⟩ := bnd hf
  replace hf := bp_s hf
  refine k_callVi C (As := []) (c_X3_totalFromBehind hap M0 (t1, M1) ht1) ML_X3_totalFromBehind wd_917 shC_28 rfl rfl rfl ⟨Nat.le_of_ble_eq_true rfl, Nat.le_of_ble_eq_true rfl⟩ (Nat.le_of_ble_eq_true rfl) dX11_turned_4 ?_
  exact k_iret C hr hlk (prf hf) (prs hf) dX11_turned_7
theorem dX11_changed_0 : decode cX11_changed 0 = .ok (.aload_n 0, 1) := by decide +kernel
theorem dX11_changed_1 : decode cX11_changed 1 = .ok (.getfield 58, 3) := by decide +kernel
theorem dX11_changed_4 : decode cX11_changed 4 = .ok (.invokevirtual 273, 3) := by decide +kernel
theorem dX11_changed_7 : decode cX11_changed 7 = .ok (.ireturn, 1) := by decide +kernel
set_option maxRecDepth 100000 in
set_option maxHeartbeats 4000000 in
theorem c_X11_changed {l : Launch} {G : Gx} (hap : k_ap G shC.length) (M0 : Mem) (r : Int32 × Mem) (hf : f_X11_changed M0 = some r) : k_Met l yX11_changed cX11_changed 1 (some .int) 5 113 G shC [.ref (G.2.1 0)] M0 (k_Qi G shC r.1 r.2) := by
  refine k_Met_of (by decide) hap (Nat.le_of_ble_eq_true rfl) ?_
  intro p e s m args below meth c C hr hlk
  have C : Cx p s m args c cX11_changed RX11 1 G shC := C
  unfold f_X11_changed at hf
  refine k_lv (lv' := [(0, .ref (G.2.1 0))]) [0] rfl ?_
  refine k_aload_n C dX11_changed_0 0 rfl ?_
  refine k_getr C shC_0 (j := 7) rfl FL_X11_58 dX11_changed_1 ?_
  obtain ⟨⟨t1, M1⟩, ht1, hf⟩ := bnd hf
  replace hf := bp_s hf
  refine k_callVi C (As := []) (c_X3_bestExchange hap M0 (t1, M1) ht1) ML_X3_bestExchange wd_925 shC_28 rfl rfl rfl ⟨Nat.le_of_ble_eq_true rfl, Nat.le_of_ble_eq_true rfl⟩ (Nat.le_of_ble_eq_true rfl) dX11_changed_4 ?_
  exact k_iret C hr hlk (prf hf) (prs hf) dX11_changed_7
theorem dX11_wants_0 : decode cX11_wants 0 = .ok (.iload_n 1, 1) := by decide +kernel
theorem dX11_wants_1 : decode cX11_wants 1 = .ok (.ifCond .ge 10, 3) := by decide +kernel
theorem dX11_wants_4 : decode cX11_wants 4 = .ok (.aload_n 0, 1) := by decide +kernel
theorem dX11_wants_5 : decode cX11_wants 5 = .ok (.bipush (-4), 2) := by decide +kernel
theorem dX11_wants_7 : decode cX11_wants 7 = .ok (.invokevirtual 103, 3) := by decide +kernel
theorem dX11_wants_10 : decode cX11_wants 10 = .ok (.ireturn, 1) := by decide +kernel
theorem dX11_wants_11 : decode cX11_wants 11 = .ok (.iload_n 1, 1) := by decide +kernel
theorem dX11_wants_12 : decode cX11_wants 12 = .ok (.sipush 255, 3) := by decide +kernel
theorem dX11_wants_15 : decode cX11_wants 15 = .ok (.if_icmp .le 10, 3) := by decide +kernel
theorem dX11_wants_18 : decode cX11_wants 18 = .ok (.aload_n 0, 1) := by decide +kernel
theorem dX11_wants_19 : decode cX11_wants 19 = .ok (.bipush (-6), 2) := by decide +kernel
theorem dX11_wants_21 : decode cX11_wants 21 = .ok (.invokevirtual 103, 3) := by decide +kernel
theorem dX11_wants_24 : decode cX11_wants 24 = .ok (.ireturn, 1) := by decide +kernel
theorem dX11_wants_25 : decode cX11_wants 25 = .ok (.iload_n 2, 1) := by decide +kernel
theorem dX11_wants_26 : decode cX11_wants 26 = .ok (.ifCond .lt 8, 3) := by decide +kernel
theorem dX11_wants_29 : decode cX11_wants 29 = .ok (.iload_n 2, 1) := by decide +kernel
theorem dX11_wants_30 : decode cX11_wants 30 = .ok (.iconst 2, 1) := by decide +kernel
theorem dX11_wants_31 : decode cX11_wants 31 = .ok (.if_icmp .le 10, 3) := by decide +kernel
theorem dX11_wants_34 : decode cX11_wants 34 = .ok (.aload_n 0, 1) := by decide +kernel
theorem dX11_wants_35 : decode cX11_wants 35 = .ok (.bipush (-2), 2) := by decide +kernel
theorem dX11_wants_37 : decode cX11_wants 37 = .ok (.invokevirtual 103, 3) := by decide +kernel
theorem dX11_wants_40 : decode cX11_wants 40 = .ok (.ireturn, 1) := by decide +kernel
theorem dX11_wants_41 : decode cX11_wants 41 = .ok (.aload_n 0, 1) := by decide +kernel
theorem dX11_wants_42 : decode cX11_wants 42 = .ok (.getfield 88, 3) := by decide +kernel
theorem dX11_wants_45 : decode cX11_wants 45 = .ok (.iload_n 1, 1) := by decide +kernel
theorem dX11_wants_46 : decode cX11_wants 46 = .ok (.iload_n 2, 1) := by decide +kernel
theorem dX11_wants_47 : decode cX11_wants 47 = .ok (.invokevirtual 276, 3) := by decide +kernel
theorem dX11_wants_50 : decode cX11_wants 50 = .ok (.ireturn, 1) := by decide +kernel
set_option maxRecDepth 100000 in
set_option maxHeartbeats 4000000 in
theorem c_X11_wants {l : Launch} {G : Gx} (hap : k_ap G shC.length) (v1 : Int32) (v2 : Int32) (M0 : Mem) (r : Int32 × Mem) (hf : f_X11_wants v1 v2 M0 = some r) : k_Met l yX11_wants cX11_wants 3 (some .int) 6 136 G shC [.ref (G.2.1 0), .int v1, .int v2] M0 (k_Qi G shC r.1 r.2) := by
  refine k_Met_of (by decide) hap (Nat.le_of_ble_eq_true rfl) ?_
  intro p e s m args below meth c C hr hlk
  have C : Cx p s m args c cX11_wants RX11 3 G shC := C
  unfold f_X11_wants at hf
  refine k_lv (lv' := [(0, .ref (G.2.1 0)), (1, .int v1), (2, .int v2)]) [0, 1, 2] rfl ?_
  refine k_iload_n C dX11_wants_0 1 rfl ?_
  rcases ite_g hf with ⟨c1, hf⟩ | ⟨c1, hf⟩
  · refine k_if_ge_t C dX11_wants_1 (tgt := 11) (by decide) c1 ?_
    refine k_iload_n C dX11_wants_11 1 rfl ?_
    refine k_sipush C dX11_wants_12 (v := (255 : Int32)) rfl ?_
    rcases ite_g hf with ⟨c2, hf⟩ | ⟨c2, hf⟩
    · refine k_icmp_le_t C dX11_wants_15 (tgt := 25) (by decide) c2 ?_
      refine k_iload_n C dX11_wants_25 2 rfl ?_
      rcases ite_g hf with ⟨c3, hf⟩ | ⟨c3, hf⟩
      · refine k_if_lt_t C dX11_wants_26 (tgt := 34) (by decide) c3 ?_
        refine k_aload_n C dX11_wants_34 0 rfl ?_
        refine k_bipush C dX11_wants_35 (v := (-2 : Int32)) rfl ?_
        obtain ⟨⟨t4, M4⟩, ht4, hf⟩ := bnd hf
        replace hf := bp_s hf
        refine k_callVi C (As := [.int (-2 : Int32)]) (c_X11_refuse hap (-2 : Int32) M0 (t4, M4) ht4) ML_X11_refuse wd_421 shC_0 rfl rfl rfl ⟨Nat.le_of_ble_eq_true rfl, Nat.le_of_ble_eq_true rfl⟩ (Nat.le_of_ble_eq_true rfl) dX11_wants_37 ?_
        exact k_iret C hr hlk (prf hf) (prs hf) dX11_wants_40
      · refine k_if_lt_f C dX11_wants_26 (tgt := 34) (by decide) c3 ?_
        refine k_iload_n C dX11_wants_29 2 rfl ?_
        refine k_iconst C dX11_wants_30 (v := (2 : Int32)) rfl ?_
        rcases ite_g hf with ⟨c5, hf⟩ | ⟨c5, hf⟩
        · refine k_icmp_le_t C dX11_wants_31 (tgt := 41) (by decide) c5 ?_
          refine k_aload_n C dX11_wants_41 0 rfl ?_
          refine k_getr C shC_0 (j := 11) rfl FL_X11_88 dX11_wants_42 ?_
          refine k_iload_n C dX11_wants_45 1 rfl ?_
          refine k_iload_n C dX11_wants_46 2 rfl ?_
          obtain ⟨⟨t6, M6⟩, ht6, hf⟩ := bnd hf
          replace hf := bp_s hf
          refine k_callVi C (As := [.int v1, .int v2]) (c_X5_covering hap v1 v2 M0 (t6, M6) ht6) ML_X5_covering wd_937 shC_41 rfl rfl rfl ⟨Nat.le_of_ble_eq_true rfl, Nat.le_of_ble_eq_true rfl⟩ (Nat.le_of_ble_eq_true rfl) dX11_wants_47 ?_
          exact k_iret C hr hlk (prf hf) (prs hf) dX11_wants_50
        · refine k_icmp_le_f C dX11_wants_31 (tgt := 41) (by decide) c5 ?_
          refine k_aload_n C dX11_wants_34 0 rfl ?_
          refine k_bipush C dX11_wants_35 (v := (-2 : Int32)) rfl ?_
          obtain ⟨⟨t7, M7⟩, ht7, hf⟩ := bnd hf
          replace hf := bp_s hf
          refine k_callVi C (As := [.int (-2 : Int32)]) (c_X11_refuse hap (-2 : Int32) M0 (t7, M7) ht7) ML_X11_refuse wd_421 shC_0 rfl rfl rfl ⟨Nat.le_of_ble_eq_true rfl, Nat.le_of_ble_eq_true rfl⟩ (Nat.le_of_ble_eq_true rfl) dX11_wants_37 ?_
          exact k_iret C hr hlk (prf hf) (prs hf) dX11_wants_40
    · refine k_icmp_le_f C dX11_wants_15 (tgt := 25) (by decide) c2 ?_
      refine k_aload_n C dX11_wants_18 0 rfl ?_
      refine k_bipush C dX11_wants_19 (v := (-6 : Int32)) rfl ?_
      obtain ⟨⟨t8, M8⟩, ht8, hf⟩ := bnd hf
      replace hf := bp_s hf
      refine k_callVi C (As := [.int (-6 : Int32)]) (c_X11_refuse hap (-6 : Int32) M0 (t8, M8) ht8) ML_X11_refuse wd_421 shC_0 rfl rfl rfl ⟨Nat.le_of_ble_eq_true rfl, Nat.le_of_ble_eq_true rfl⟩ (Nat.le_of_ble_eq_true rfl) dX11_wants_21 ?_
      exact k_iret C hr hlk (prf hf) (prs hf) dX11_wants_24
  · refine k_if_ge_f C dX11_wants_1 (tgt := 11) (by decide) c1 ?_
    refine k_aload_n C dX11_wants_4 0 rfl ?_
    refine k_bipush C dX11_wants_5 (v := (-4 : Int32)) rfl ?_
    obtain ⟨⟨t9, M9⟩, ht9, hf⟩ := bnd hf
    replace hf := bp_s hf
    refine k_callVi C (As := [.int (-4 : Int32)]) (c_X11_refuse hap (-4 : Int32) M0 (t9, M9) ht9) ML_X11_refuse wd_421 shC_0 rfl rfl rfl ⟨Nat.le_of_ble_eq_true rfl, Nat.le_of_ble_eq_true rfl⟩ (Nat.le_of_ble_eq_true rfl) dX11_wants_7 ?_
    exact k_iret C hr hlk (prf hf) (prs hf) dX11_wants_10
theorem dX11_refuseLong_0 : decode cX11_refuseLong 0 = .ok (.ldc2_w 372, 3) := by decide +kernel
theorem dX11_refuseLong_3 : decode cX11_refuseLong 3 = .ok (.aload_n 0, 1) := by decide +kernel
theorem dX11_refuseLong_4 : decode cX11_refuseLong 4 = .ok (.iload_n 1, 1) := by decide +kernel
theorem dX11_refuseLong_5 : decode cX11_refuseLong 5 = .ok (.invokevirtual 103, 3) := by decide +kernel
theorem dX11_refuseLong_8 : decode cX11_refuseLong 8 = .ok (.i2l, 1) := by decide +kernel
theorem dX11_refuseLong_9 : decode cX11_refuseLong 9 = .ok (.lsub, 1) := by decide +kernel
theorem dX11_refuseLong_10 : decode cX11_refuseLong 10 = .ok (.lreturn, 1) := by decide +kernel
set_option maxRecDepth 100000 in
set_option maxHeartbeats 4000000 in
theorem c_X11_refuseLong {l : Launch} {G : Gx} (hap : k_ap G shC.length) (v1 : Int32) (M0 : Mem) (r : Int64 × Mem) (hf : f_X11_refuseLong v1 M0 = some r) : k_Met l yX11_refuseLong cX11_refuseLong 2 (some .long) 1 22 G shC [.ref (G.2.1 0), .int v1] M0 (k_Ql G shC r.1 r.2) := by
  refine k_Met_of (by decide) hap (Nat.le_of_ble_eq_true rfl) ?_
  intro p e s m args below meth c C hr hlk
  have C : Cx p s m args c cX11_refuseLong RX11 2 G shC := C
  unfold f_X11_refuseLong at hf
  refine k_lv (lv' := [(0, .ref (G.2.1 0)), (1, .int v1)]) [0, 1] rfl ?_
  refine k_ldc2 C dX11_refuseLong_0 wd_961 ?_
  refine k_aload_n C dX11_refuseLong_3 0 rfl ?_
  refine k_iload_n C dX11_refuseLong_4 1 rfl ?_
  obtain ⟨⟨t1, M1⟩, ht1, hf⟩ := bnd hf
  replace hf := bp_s hf
  refine k_callVi C (As := [.int v1]) (c_X11_refuse hap v1 M0 (t1, M1) ht1) ML_X11_refuse wd_421 shC_0 rfl rfl rfl ⟨Nat.le_of_ble_eq_true rfl, Nat.le_of_ble_eq_true rfl⟩ (Nat.le_of_ble_eq_true rfl) dX11_refuseLong_5 ?_
  refine k_i2l C dX11_refuseLong_8 ?_
  refine k_lsub C dX11_refuseLong_9 ?_
  exact k_lret C hr hlk (prf hf) (prs hf) dX11_refuseLong_10
theorem dX11_songs_0 : decode cX11_songs 0 = .ok (.iload_n 1, 1) := by decide +kernel
theorem dX11_songs_1 : decode cX11_songs 1 = .ok (.ifCond .lt 7, 3) := by decide +kernel
theorem dX11_songs_4 : decode cX11_songs 4 = .ok (.iload_n 2, 1) := by decide +kernel
theorem dX11_songs_5 : decode cX11_songs 5 = .ok (.ifCond .ge 10, 3) := by decide +kernel
theorem dX11_songs_8 : decode cX11_songs 8 = .ok (.aload_n 0, 1) := by decide +kernel
theorem dX11_songs_9 : decode cX11_songs 9 = .ok (.bipush (-4), 2) := by decide +kernel
theorem dX11_songs_11 : decode cX11_songs 11 = .ok (.invokevirtual 279, 3) := by decide +kernel
theorem dX11_songs_14 : decode cX11_songs 14 = .ok (.lreturn, 1) := by decide +kernel
theorem dX11_songs_15 : decode cX11_songs 15 = .ok (.iload_n 1, 1) := by decide +kernel
theorem dX11_songs_16 : decode cX11_songs 16 = .ok (.bipush 8, 2) := by decide +kernel
theorem dX11_songs_18 : decode cX11_songs 18 = .ok (.if_icmp .gt 8, 3) := by decide +kernel
theorem dX11_songs_21 : decode cX11_songs 21 = .ok (.iload_n 2, 1) := by decide +kernel
theorem dX11_songs_22 : decode cX11_songs 22 = .ok (.iconst 2, 1) := by decide +kernel
theorem dX11_songs_23 : decode cX11_songs 23 = .ok (.if_icmp .le 10, 3) := by decide +kernel
theorem dX11_songs_26 : decode cX11_songs 26 = .ok (.aload_n 0, 1) := by decide +kernel
theorem dX11_songs_27 : decode cX11_songs 27 = .ok (.bipush (-6), 2) := by decide +kernel
theorem dX11_songs_29 : decode cX11_songs 29 = .ok (.invokevirtual 279, 3) := by decide +kernel
theorem dX11_songs_32 : decode cX11_songs 32 = .ok (.lreturn, 1) := by decide +kernel
theorem dX11_songs_33 : decode cX11_songs 33 = .ok (.aload_n 0, 1) := by decide +kernel
theorem dX11_songs_34 : decode cX11_songs 34 = .ok (.getfield 81, 3) := by decide +kernel
theorem dX11_songs_37 : decode cX11_songs 37 = .ok (.iload_n 1, 1) := by decide +kernel
theorem dX11_songs_38 : decode cX11_songs 38 = .ok (.iload_n 2, 1) := by decide +kernel
theorem dX11_songs_39 : decode cX11_songs 39 = .ok (.invokevirtual 283, 3) := by decide +kernel
theorem dX11_songs_42 : decode cX11_songs 42 = .ok (.lreturn, 1) := by decide +kernel
set_option maxRecDepth 100000 in
set_option maxHeartbeats 4000000 in
theorem c_X11_songs {l : Launch} {G : Gx} (hap : k_ap G shC.length) (v1 : Int32) (v2 : Int32) (M0 : Mem) (r : Int64 × Mem) (hf : f_X11_songs v1 v2 M0 = some r) : k_Met l yX11_songs cX11_songs 3 (some .long) 5 113 G shC [.ref (G.2.1 0), .int v1, .int v2] M0 (k_Ql G shC r.1 r.2) := by
  refine k_Met_of (by decide) hap (Nat.le_of_ble_eq_true rfl) ?_
  intro p e s m args below meth c C hr hlk
  have C : Cx p s m args c cX11_songs RX11 3 G shC := C
  unfold f_X11_songs at hf
  refine k_lv (lv' := [(0, .ref (G.2.1 0)), (1, .int v1), (2, .int v2)]) [0, 1, 2] rfl ?_
  refine k_iload_n C dX11_songs_0 1 rfl ?_
  rcases ite_g hf with ⟨c1, hf⟩ | ⟨c1, hf⟩
  · refine k_if_lt_t C dX11_songs_1 (tgt := 8) (by decide) c1 ?_
    refine k_aload_n C dX11_songs_8 0 rfl ?_
    refine k_bipush C dX11_songs_9 (v := (-4 : Int32)) rfl ?_
    obtain ⟨⟨t2, M2⟩, ht2, hf⟩ := bnd hf
    replace hf := bp_s hf
    refine k_callVl C (As := [.int (-4 : Int32)]) (c_X11_refuseLong hap (-4 : Int32) M0 (t2, M2) ht2) ML_X11_refuseLong wd_957 shC_0 rfl rfl rfl ⟨Nat.le_of_ble_eq_true rfl, Nat.le_of_ble_eq_true rfl⟩ (Nat.le_of_ble_eq_true rfl) dX11_songs_11 ?_
    exact k_lret C hr hlk (prf hf) (prs hf) dX11_songs_14
  · refine k_if_lt_f C dX11_songs_1 (tgt := 8) (by decide) c1 ?_
    refine k_iload_n C dX11_songs_4 2 rfl ?_
    rcases ite_g hf with ⟨c3, hf⟩ | ⟨c3, hf⟩
    · refine k_if_ge_t C dX11_songs_5 (tgt := 15) (by decide) c3 ?_
      refine k_iload_n C dX11_songs_15 1 rfl ?_
      refine k_bipush C dX11_songs_16 (v := (8 : Int32)) rfl ?_
      rcases ite_g hf with ⟨c4, hf⟩ | ⟨c4, hf⟩
      · refine k_icmp_gt_t C dX11_songs_18 (tgt := 26) (by decide) c4 ?_
        refine k_aload_n C dX11_songs_26 0 rfl ?_
        refine k_bipush C dX11_songs_27 (v := (-6 : Int32)) rfl ?_
        obtain ⟨⟨t5, M5⟩, ht5, hf⟩ := bnd hf
        replace hf := bp_s hf
        refine k_callVl C (As := [.int (-6 : Int32)]) (c_X11_refuseLong hap (-6 : Int32) M0 (t5, M5) ht5) ML_X11_refuseLong wd_957 shC_0 rfl rfl rfl ⟨Nat.le_of_ble_eq_true rfl, Nat.le_of_ble_eq_true rfl⟩ (Nat.le_of_ble_eq_true rfl) dX11_songs_29 ?_
        exact k_lret C hr hlk (prf hf) (prs hf) dX11_songs_32
      · refine k_icmp_gt_f C dX11_songs_18 (tgt := 26) (by decide) c4 ?_
        refine k_iload_n C dX11_songs_21 2 rfl ?_
        refine k_iconst C dX11_songs_22 (v := (2 : Int32)) rfl ?_
        rcases ite_g hf with ⟨c6, hf⟩ | ⟨c6, hf⟩
        · refine k_icmp_le_t C dX11_songs_23 (tgt := 33) (by decide) c6 ?_
          refine k_aload_n C dX11_songs_33 0 rfl ?_
          refine k_getr C shC_0 (j := 10) rfl FL_X11_81 dX11_songs_34 ?_
          refine k_iload_n C dX11_songs_37 1 rfl ?_
          refine k_iload_n C dX11_songs_38 2 rfl ?_
          obtain ⟨⟨t7, M7⟩, ht7, hf⟩ := bnd hf
          replace hf := bp_s hf
          refine k_callVl C (As := [.int v1, .int v2]) (c_X2_songRows hap v1 v2 M0 (t7, M7) ht7) ML_X2_songRows wd_962 shC_36 rfl rfl rfl ⟨Nat.le_of_ble_eq_true rfl, Nat.le_of_ble_eq_true rfl⟩ (Nat.le_of_ble_eq_true rfl) dX11_songs_39 ?_
          exact k_lret C hr hlk (prf hf) (prs hf) dX11_songs_42
        · refine k_icmp_le_f C dX11_songs_23 (tgt := 33) (by decide) c6 ?_
          refine k_aload_n C dX11_songs_26 0 rfl ?_
          refine k_bipush C dX11_songs_27 (v := (-6 : Int32)) rfl ?_
          obtain ⟨⟨t8, M8⟩, ht8, hf⟩ := bnd hf
          replace hf := bp_s hf
          refine k_callVl C (As := [.int (-6 : Int32)]) (c_X11_refuseLong hap (-6 : Int32) M0 (t8, M8) ht8) ML_X11_refuseLong wd_957 shC_0 rfl rfl rfl ⟨Nat.le_of_ble_eq_true rfl, Nat.le_of_ble_eq_true rfl⟩ (Nat.le_of_ble_eq_true rfl) dX11_songs_29 ?_
          exact k_lret C hr hlk (prf hf) (prs hf) dX11_songs_32
    · refine k_if_ge_f C dX11_songs_5 (tgt := 15) (by decide) c3 ?_
      refine k_aload_n C dX11_songs_8 0 rfl ?_
      refine k_bipush C dX11_songs_9 (v := (-4 : Int32)) rfl ?_
      obtain ⟨⟨t9, M9⟩, ht9, hf⟩ := bnd hf
      replace hf := bp_s hf
      refine k_callVl C (As := [.int (-4 : Int32)]) (c_X11_refuseLong hap (-4 : Int32) M0 (t9, M9) ht9) ML_X11_refuseLong wd_957 shC_0 rfl rfl rfl ⟨Nat.le_of_ble_eq_true rfl, Nat.le_of_ble_eq_true rfl⟩ (Nat.le_of_ble_eq_true rfl) dX11_songs_11 ?_
      exact k_lret C hr hlk (prf hf) (prs hf) dX11_songs_14
theorem dX11_inspectors_0 : decode cX11_inspectors 0 = .ok (.iload_n 1, 1) := by decide +kernel
theorem dX11_inspectors_1 : decode cX11_inspectors 1 = .ok (.iconst 1, 1) := by decide +kernel
theorem dX11_inspectors_2 : decode cX11_inspectors 2 = .ok (.if_icmp .ge 10, 3) := by decide +kernel
theorem dX11_inspectors_5 : decode cX11_inspectors 5 = .ok (.aload_n 0, 1) := by decide +kernel
theorem dX11_inspectors_6 : decode cX11_inspectors 6 = .ok (.bipush (-4), 2) := by decide +kernel
theorem dX11_inspectors_8 : decode cX11_inspectors 8 = .ok (.invokevirtual 103, 3) := by decide +kernel
theorem dX11_inspectors_11 : decode cX11_inspectors 11 = .ok (.ireturn, 1) := by decide +kernel
theorem dX11_inspectors_12 : decode cX11_inspectors 12 = .ok (.iload_n 1, 1) := by decide +kernel
theorem dX11_inspectors_13 : decode cX11_inspectors 13 = .ok (.bipush 9, 2) := by decide +kernel
theorem dX11_inspectors_15 : decode cX11_inspectors 15 = .ok (.if_icmp .le 10, 3) := by decide +kernel
theorem dX11_inspectors_18 : decode cX11_inspectors 18 = .ok (.aload_n 0, 1) := by decide +kernel
theorem dX11_inspectors_19 : decode cX11_inspectors 19 = .ok (.bipush (-6), 2) := by decide +kernel
theorem dX11_inspectors_21 : decode cX11_inspectors 21 = .ok (.invokevirtual 103, 3) := by decide +kernel
theorem dX11_inspectors_24 : decode cX11_inspectors 24 = .ok (.ireturn, 1) := by decide +kernel
theorem dX11_inspectors_25 : decode cX11_inspectors 25 = .ok (.aload_n 0, 1) := by decide +kernel
theorem dX11_inspectors_26 : decode cX11_inspectors 26 = .ok (.getfield 81, 3) := by decide +kernel
theorem dX11_inspectors_29 : decode cX11_inspectors 29 = .ok (.iload_n 1, 1) := by decide +kernel
theorem dX11_inspectors_30 : decode cX11_inspectors 30 = .ok (.invokevirtual 287, 3) := by decide +kernel
theorem dX11_inspectors_33 : decode cX11_inspectors 33 = .ok (.ireturn, 1) := by decide +kernel
set_option maxRecDepth 100000 in
set_option maxHeartbeats 4000000 in
theorem c_X11_inspectors {l : Launch} {G : Gx} (hap : k_ap G shC.length) (v1 : Int32) (M0 : Mem) (r : Int32 × Mem) (hf : f_X11_inspectors v1 M0 = some r) : k_Met l yX11_inspectors cX11_inspectors 2 (some .int) 5 112 G shC [.ref (G.2.1 0), .int v1] M0 (k_Qi G shC r.1 r.2) := by
  refine k_Met_of (by decide) hap (Nat.le_of_ble_eq_true rfl) ?_
  intro p e s m args below meth c C hr hlk
  have C : Cx p s m args c cX11_inspectors RX11 2 G shC := C
  unfold f_X11_inspectors at hf
  refine k_lv (lv' := [(0, .ref (G.2.1 0)), (1, .int v1)]) [0, 1] rfl ?_
  refine k_iload_n C dX11_inspectors_0 1 rfl ?_
  refine k_iconst C dX11_inspectors_1 (v := (1 : Int32)) rfl ?_
  rcases ite_g hf with ⟨c1, hf⟩ | ⟨c1, hf⟩
  · refine k_icmp_ge_t C dX11_inspectors_2 (tgt := 12) (by decide) c1 ?_
    refine k_iload_n C dX11_inspectors_12 1 rfl ?_
    refine k_bipush C dX11_inspectors_13 (v := (9 : Int32)) rfl ?_
    rcases ite_g hf with ⟨c2, hf⟩ | ⟨c2, hf⟩
    · refine k_icmp_le_t C dX11_inspectors_15 (tgt := 25) (by decide) c2 ?_
      refine k_aload_n C dX11_inspectors_25 0 rfl ?_
      refine k_getr C shC_0 (j := 10) rfl FL_X11_81 dX11_inspectors_26 ?_
      refine k_iload_n C dX11_inspectors_29 1 rfl ?_
      obtain ⟨⟨t3, M3⟩, ht3, hf⟩ := bnd hf
      replace hf := bp_s hf
      refine k_callVi C (As := [.int v1]) (c_X2_firstCaught hap v1 M0 (t3, M3) ht3) ML_X2_firstCaught wd_982 shC_36 rfl rfl rfl ⟨Nat.le_of_ble_eq_true rfl, Nat.le_of_ble_eq_true rfl⟩ (Nat.le_of_ble_eq_true rfl) dX11_inspectors_30 ?_
      exact k_iret C hr hlk (prf hf) (prs hf) dX11_inspectors_33
    · refine k_icmp_le_f C dX11_inspectors_15 (tgt := 25) (by decide) c2 ?_
      refine k_aload_n C dX11_inspectors_18 0 rfl ?_
      refine k_bipush C dX11_inspectors_19 (v := (-6 : Int32)) rfl ?_
      obtain ⟨⟨t4, M4⟩, ht4, hf⟩ := bnd hf
      replace hf := bp_s hf
      refine k_callVi C (As := [.int (-6 : Int32)]) (c_X11_refuse hap (-6 : Int32) M0 (t4, M4) ht4) ML_X11_refuse wd_421 shC_0 rfl rfl rfl ⟨Nat.le_of_ble_eq_true rfl, Nat.le_of_ble_eq_true rfl⟩ (Nat.le_of_ble_eq_true rfl) dX11_inspectors_21 ?_
      exact k_iret C hr hlk (prf hf) (prs hf) dX11_inspectors_24
  · refine k_icmp_ge_f C dX11_inspectors_2 (tgt := 12) (by decide) c1 ?_
    refine k_aload_n C dX11_inspectors_5 0 rfl ?_
    refine k_bipush C dX11_inspectors_6 (v := (-4 : Int32)) rfl ?_
    obtain ⟨⟨t5, M5⟩, ht5, hf⟩ := bnd hf
    replace hf := bp_s hf
    refine k_callVi C (As := [.int (-4 : Int32)]) (c_X11_refuse hap (-4 : Int32) M0 (t5, M5) ht5) ML_X11_refuse wd_421 shC_0 rfl rfl rfl ⟨Nat.le_of_ble_eq_true rfl, Nat.le_of_ble_eq_true rfl⟩ (Nat.le_of_ble_eq_true rfl) dX11_inspectors_8 ?_
    exact k_iret C hr hlk (prf hf) (prs hf) dX11_inspectors_11
