/-! walks, printed by a program of mine: each method meets its function -/
theorem dX0_setLaw_0 : decode cX0_setLaw 0 = .ok (.aload_n 0, 1) := by decide +kernel
theorem dX0_setLaw_1 : decode cX0_setLaw 1 = .ok (.iload_n 1, 1) := by decide +kernel
theorem dX0_setLaw_2 : decode cX0_setLaw 2 = .ok (.putfield 31, 3) := by decide +kernel
theorem dX0_setLaw_5 : decode cX0_setLaw 5 = .ok (.aload_n 0, 1) := by decide +kernel
theorem dX0_setLaw_6 : decode cX0_setLaw 6 = .ok (.iload_n 2, 1) := by decide +kernel
theorem dX0_setLaw_7 : decode cX0_setLaw 7 = .ok (.putfield 34, 3) := by decide +kernel
theorem dX0_setLaw_10 : decode cX0_setLaw 10 = .ok (.return_, 1) := by decide +kernel
set_option maxRecDepth 100000 in
set_option maxHeartbeats 4000000 in
theorem c_X0_setLaw {l : Launch} {G : Gx} (hap : k_ap G shC.length) (b : Nat) (hb : BD b) (v1 : Int32) (v2 : Int32) (M0 : Mem) (r : Mem) (hf : f_X0_setLaw b v1 v2 M0 = some r) : k_Met l yX0_setLaw cX0_setLaw 3 none 0 0 G shC [.ref (G.2.1 b), .int v1, .int v2] M0 (k_Qv G shC r) := by
  refine k_Met_of (by decide) hap (Nat.le_of_ble_eq_true rfl) ?_
  intro p e s m args below meth c C hr hlk
  have C : Cx p s m args c cX0_setLaw RX0 3 G shC := C
  unfold f_X0_setLaw at hf
  refine k_lv (lv' := [(0, .ref (G.2.1 b)), (1, .int v1), (2, .int v2)]) [0, 1, 2] rfl ?_
  refine k_aload_n C dX0_setLaw_0 0 rfl ?_
  refine k_iload_n C dX0_setLaw_1 1 rfl ?_
  refine k_put C hb.1 (j := 6) rfl FL_X0_31 FW_X0_6 dX0_setLaw_2 ?_
  refine k_aload_n C dX0_setLaw_5 0 rfl ?_
  refine k_iload_n C dX0_setLaw_6 2 rfl ?_
  refine k_put C hb.1 (j := 7) rfl FL_X0_34 FW_X0_7 dX0_setLaw_7 ?_
  exact k_vret C hr hlk (Option.some.inj hf) dX0_setLaw_10
theorem dX0_become_0 : decode cX0_become 0 = .ok (.aload_n 1, 1) := by decide +kernel
theorem dX0_become_1 : decode cX0_become 1 = .ok (.getfield 9, 3) := by decide +kernel
theorem dX0_become_4 : decode cX0_become 4 = .ok (.iconst 0, 1) := by decide +kernel
theorem dX0_become_5 : decode cX0_become 5 = .ok (.aload_n 0, 1) := by decide +kernel
theorem dX0_become_6 : decode cX0_become 6 = .ok (.getfield 9, 3) := by decide +kernel
theorem dX0_become_9 : decode cX0_become 9 = .ok (.iconst 0, 1) := by decide +kernel
theorem dX0_become_10 : decode cX0_become 10 = .ok (.bipush 8, 2) := by decide +kernel
theorem dX0_become_12 : decode cX0_become 12 = .ok (.invokestatic 37, 3) := by decide +kernel
theorem dX0_become_15 : decode cX0_become 15 = .ok (.aload_n 1, 1) := by decide +kernel
theorem dX0_become_16 : decode cX0_become 16 = .ok (.getfield 15, 3) := by decide +kernel
theorem dX0_become_19 : decode cX0_become 19 = .ok (.iconst 0, 1) := by decide +kernel
theorem dX0_become_20 : decode cX0_become 20 = .ok (.aload_n 0, 1) := by decide +kernel
theorem dX0_become_21 : decode cX0_become 21 = .ok (.getfield 15, 3) := by decide +kernel
theorem dX0_become_24 : decode cX0_become 24 = .ok (.iconst 0, 1) := by decide +kernel
theorem dX0_become_25 : decode cX0_become 25 = .ok (.bipush 8, 2) := by decide +kernel
theorem dX0_become_27 : decode cX0_become 27 = .ok (.invokestatic 37, 3) := by decide +kernel
theorem dX0_become_30 : decode cX0_become 30 = .ok (.aload_n 1, 1) := by decide +kernel
theorem dX0_become_31 : decode cX0_become 31 = .ok (.getfield 18, 3) := by decide +kernel
theorem dX0_become_34 : decode cX0_become 34 = .ok (.iconst 0, 1) := by decide +kernel
theorem dX0_become_35 : decode cX0_become 35 = .ok (.aload_n 0, 1) := by decide +kernel
theorem dX0_become_36 : decode cX0_become 36 = .ok (.getfield 18, 3) := by decide +kernel
theorem dX0_become_39 : decode cX0_become 39 = .ok (.iconst 0, 1) := by decide +kernel
theorem dX0_become_40 : decode cX0_become 40 = .ok (.bipush 8, 2) := by decide +kernel
theorem dX0_become_42 : decode cX0_become 42 = .ok (.invokestatic 37, 3) := by decide +kernel
theorem dX0_become_45 : decode cX0_become 45 = .ok (.aload_n 1, 1) := by decide +kernel
theorem dX0_become_46 : decode cX0_become 46 = .ok (.getfield 21, 3) := by decide +kernel
theorem dX0_become_49 : decode cX0_become 49 = .ok (.iconst 0, 1) := by decide +kernel
theorem dX0_become_50 : decode cX0_become 50 = .ok (.aload_n 0, 1) := by decide +kernel
theorem dX0_become_51 : decode cX0_become 51 = .ok (.getfield 21, 3) := by decide +kernel
theorem dX0_become_54 : decode cX0_become 54 = .ok (.iconst 0, 1) := by decide +kernel
theorem dX0_become_55 : decode cX0_become 55 = .ok (.bipush 12, 2) := by decide +kernel
theorem dX0_become_57 : decode cX0_become 57 = .ok (.invokestatic 37, 3) := by decide +kernel
theorem dX0_become_60 : decode cX0_become 60 = .ok (.aload_n 0, 1) := by decide +kernel
theorem dX0_become_61 : decode cX0_become 61 = .ok (.aload_n 1, 1) := by decide +kernel
theorem dX0_become_62 : decode cX0_become 62 = .ok (.getfield 24, 3) := by decide +kernel
theorem dX0_become_65 : decode cX0_become 65 = .ok (.putfield 24, 3) := by decide +kernel
theorem dX0_become_68 : decode cX0_become 68 = .ok (.aload_n 0, 1) := by decide +kernel
theorem dX0_become_69 : decode cX0_become 69 = .ok (.aload_n 1, 1) := by decide +kernel
theorem dX0_become_70 : decode cX0_become 70 = .ok (.getfield 28, 3) := by decide +kernel
theorem dX0_become_73 : decode cX0_become 73 = .ok (.putfield 28, 3) := by decide +kernel
theorem dX0_become_76 : decode cX0_become 76 = .ok (.aload_n 0, 1) := by decide +kernel
theorem dX0_become_77 : decode cX0_become 77 = .ok (.aload_n 1, 1) := by decide +kernel
theorem dX0_become_78 : decode cX0_become 78 = .ok (.getfield 31, 3) := by decide +kernel
theorem dX0_become_81 : decode cX0_become 81 = .ok (.aload_n 1, 1) := by decide +kernel
theorem dX0_become_82 : decode cX0_become 82 = .ok (.getfield 34, 3) := by decide +kernel
theorem dX0_become_85 : decode cX0_become 85 = .ok (.invokevirtual 43, 3) := by decide +kernel
theorem dX0_become_88 : decode cX0_become 88 = .ok (.return_, 1) := by decide +kernel
set_option maxRecDepth 100000 in
set_option maxHeartbeats 4000000 in
theorem c_X0_become {l : Launch} {G : Gx} (hap : k_ap G shC.length) (b : Nat) (b2 : Nat) (hb : BD b) (hb2 : BD b2) (M0 : Mem) (r : Mem) (hf : f_X0_become b b2 M0 = some r) : k_Met l yX0_become cX0_become 2 none 1 40 G shC [.ref (G.2.1 b), .ref (G.2.1 b2)] M0 (k_Qv G shC r) := by
  refine k_Met_of (by decide) hap (Nat.le_of_ble_eq_true rfl) ?_
  intro p e s m args below meth c C hr hlk
  have C : Cx p s m args c cX0_become RX0 2 G shC := C
  unfold f_X0_become at hf
  refine k_lv (lv' := [(0, .ref (G.2.1 b)), (1, .ref (G.2.1 b2))]) [0, 1] rfl ?_
  refine k_aload_n C dX0_become_0 1 rfl ?_
  refine k_getr C hb2.1 (j := 0) rfl FL_X0_9 dX0_become_1 ?_
  refine k_iconst C dX0_become_4 (v := (0 : Int32)) rfl ?_
  refine k_aload_n C dX0_become_5 0 rfl ?_
  refine k_getr C hb.1 (j := 0) rfl FL_X0_9 dX0_become_6 ?_
  refine k_iconst C dX0_become_9 (v := (0 : Int32)) rfl ?_
  refine k_bipush C dX0_become_10 (v := (8 : Int32)) rfl ?_
  obtain ⟨M1, hM1, hf⟩ := bnd hf
  refine k_cpy C W_cpy wd_459 ⟨Nat.le_of_ble_eq_true rfl, Nat.le_of_ble_eq_true rfl⟩ hb2.2.1 hb.2.1 hM1 dX0_become_12 ?_
  refine k_aload_n C dX0_become_15 1 rfl ?_
  refine k_getr C hb2.1 (j := 1) rfl FL_X0_15 dX0_become_16 ?_
  refine k_iconst C dX0_become_19 (v := (0 : Int32)) rfl ?_
  refine k_aload_n C dX0_become_20 0 rfl ?_
  refine k_getr C hb.1 (j := 1) rfl FL_X0_15 dX0_become_21 ?_
  refine k_iconst C dX0_become_24 (v := (0 : Int32)) rfl ?_
  refine k_bipush C dX0_become_25 (v := (8 : Int32)) rfl ?_
  obtain ⟨M2, hM2, hf⟩ := bnd hf
  refine k_cpy C W_cpy wd_459 ⟨Nat.le_of_ble_eq_true rfl, Nat.le_of_ble_eq_true rfl⟩ hb2.2.2.1 hb.2.2.1 hM2 dX0_become_27 ?_
  refine k_aload_n C dX0_become_30 1 rfl ?_
  refine k_getr C hb2.1 (j := 2) rfl FL_X0_18 dX0_become_31 ?_
  refine k_iconst C dX0_become_34 (v := (0 : Int32)) rfl ?_
  refine k_aload_n C dX0_become_35 0 rfl ?_
  refine k_getr C hb.1 (j := 2) rfl FL_X0_18 dX0_become_36 ?_
  refine k_iconst C dX0_become_39 (v := (0 : Int32)) rfl ?_
  refine k_bipush C dX0_become_40 (v := (8 : Int32)) rfl ?_
  obtain ⟨M3, hM3, hf⟩ := bnd hf
  refine k_cpy C W_cpy wd_459 ⟨Nat.le_of_ble_eq_true rfl, Nat.le_of_ble_eq_true rfl⟩ hb2.2.2.2.1 hb.2.2.2.1 hM3 dX0_become_42 ?_
  refine k_aload_n C dX0_become_45 1 rfl ?_
  refine k_getr C hb2.1 (j := 3) rfl FL_X0_21 dX0_become_46 ?_
  refine k_iconst C dX0_become_49 (v := (0 : Int32)) rfl ?_
  refine k_aload_n C dX0_become_50 0 rfl ?_
  refine k_getr C hb.1 (j := 3) rfl FL_X0_21 dX0_become_51 ?_
  refine k_iconst C dX0_become_54 (v := (0 : Int32)) rfl ?_
  refine k_bipush C dX0_become_55 (v := (12 : Int32)) rfl ?_
  obtain ⟨M4, hM4, hf⟩ := bnd hf
  refine k_cpy C W_cpy wd_459 ⟨Nat.le_of_ble_eq_true rfl, Nat.le_of_ble_eq_true rfl⟩ hb2.2.2.2.2 hb.2.2.2.2 hM4 dX0_become_57 ?_
  refine k_aload_n C dX0_become_60 0 rfl ?_
  refine k_aload_n C dX0_become_61 1 rfl ?_
  refine k_geti C hb2.1 (j := 4) rfl FL_X0_24 dX0_become_62 ?_
  refine k_put C hb.1 (j := 4) rfl FL_X0_24 FW_X0_4 dX0_become_65 ?_
  refine k_aload_n C dX0_become_68 0 rfl ?_
  refine k_aload_n C dX0_become_69 1 rfl ?_
  refine k_geti C hb2.1 (j := 5) rfl FL_X0_28 dX0_become_70 ?_
  refine k_put C hb.1 (j := 5) rfl FL_X0_28 FW_X0_5 dX0_become_73 ?_
  refine k_aload_n C dX0_become_76 0 rfl ?_
  refine k_aload_n C dX0_become_77 1 rfl ?_
  refine k_geti C hb2.1 (j := 6) rfl FL_X0_31 dX0_become_78 ?_
  refine k_aload_n C dX0_become_81 1 rfl ?_
  refine k_geti C hb2.1 (j := 7) rfl FL_X0_34 dX0_become_82 ?_
  obtain ⟨M5, hM5, hf⟩ := bnd hf
  refine k_callVv C (As := [.int ((wI (wI M4 b 4 (M4.1 b2 4)) b 5 ((wI M4 b 4 (M4.1 b2 4)).1 b2 5)).1 b2 6), .int ((wI (wI M4 b 4 (M4.1 b2 4)) b 5 ((wI M4 b 4 (M4.1 b2 4)).1 b2 5)).1 b2 7)]) (c_X0_setLaw hap b hb ((wI (wI M4 b 4 (M4.1 b2 4)) b 5 ((wI M4 b 4 (M4.1 b2 4)).1 b2 5)).1 b2 6) ((wI (wI M4 b 4 (M4.1 b2 4)) b 5 ((wI M4 b 4 (M4.1 b2 4)).1 b2 5)).1 b2 7) (wI (wI M4 b 4 (M4.1 b2 4)) b 5 ((wI M4 b 4 (M4.1 b2 4)).1 b2 5)) M5 hM5) ML_X0_setLaw wd_462 hb.1 rfl rfl rfl ⟨Nat.le_of_ble_eq_true rfl, Nat.le_of_ble_eq_true rfl⟩ (Nat.le_of_ble_eq_true rfl) dX0_become_85 ?_
  exact k_vret C hr hlk (Option.some.inj hf) dX0_become_88
theorem dX0_hasDoing_0 : decode cX0_hasDoing 0 = .ok (.iload_n 1, 1) := by decide +kernel
theorem dX0_hasDoing_1 : decode cX0_hasDoing 1 = .ok (.ifCond .lt 15, 3) := by decide +kernel
theorem dX0_hasDoing_4 : decode cX0_hasDoing 4 = .ok (.iload_n 1, 1) := by decide +kernel
theorem dX0_hasDoing_5 : decode cX0_hasDoing 5 = .ok (.aload_n 0, 1) := by decide +kernel
theorem dX0_hasDoing_6 : decode cX0_hasDoing 6 = .ok (.getfield 24, 3) := by decide +kernel
theorem dX0_hasDoing_9 : decode cX0_hasDoing 9 = .ok (.if_icmp .ge 7, 3) := by decide +kernel
theorem dX0_hasDoing_12 : decode cX0_hasDoing 12 = .ok (.iconst 1, 1) := by decide +kernel
theorem dX0_hasDoing_13 : decode cX0_hasDoing 13 = .ok (.goto 4, 3) := by decide +kernel
theorem dX0_hasDoing_16 : decode cX0_hasDoing 16 = .ok (.iconst 0, 1) := by decide +kernel
theorem dX0_hasDoing_17 : decode cX0_hasDoing 17 = .ok (.ireturn, 1) := by decide +kernel
set_option maxRecDepth 100000 in
set_option maxHeartbeats 4000000 in
theorem c_X0_hasDoing {l : Launch} {G : Gx} (hap : k_ap G shC.length) (b : Nat) (hb : BD b) (v1 : Int32) (M0 : Mem) (r : Int32) (hf : f_X0_hasDoing b v1 M0 = r) : k_Met l yX0_hasDoing cX0_hasDoing 2 (some .boolean) 0 0 G shC [.ref (G.2.1 b), .int v1] M0 (k_Qi G shC r M0) := by
  refine k_Met_of (by decide) hap (Nat.le_of_ble_eq_true rfl) ?_
  intro p e s m args below meth c C hr hlk
  have C : Cx p s m args c cX0_hasDoing RX0 2 G shC := C
  unfold f_X0_hasDoing at hf
  refine k_lv (lv' := [(0, .ref (G.2.1 b)), (1, .int v1)]) [0, 1] rfl ?_
  refine k_iload_n C dX0_hasDoing_0 1 rfl ?_
  rcases ite_g hf with ⟨c1, hf⟩ | ⟨c1, hf⟩
  · refine k_if_lt_t C dX0_hasDoing_1 (tgt := 16) (by decide) c1 ?_
    refine k_iconst C dX0_hasDoing_16 (v := (0 : Int32)) rfl ?_
    exact k_zret C hr hlk (gZ0.trans (congrArg some hf)) rfl dX0_hasDoing_17
  · refine k_if_lt_f C dX0_hasDoing_1 (tgt := 16) (by decide) c1 ?_
    refine k_iload_n C dX0_hasDoing_4 1 rfl ?_
    refine k_aload_n C dX0_hasDoing_5 0 rfl ?_
    refine k_geti C hb.1 (j := 4) rfl FL_X0_24 dX0_hasDoing_6 ?_
    rcases ite_g hf with ⟨c2, hf⟩ | ⟨c2, hf⟩
    · refine k_icmp_ge_t C dX0_hasDoing_9 (tgt := 16) (by decide) c2 ?_
      refine k_iconst C dX0_hasDoing_16 (v := (0 : Int32)) rfl ?_
      exact k_zret C hr hlk (gZ0.trans (congrArg some hf)) rfl dX0_hasDoing_17
    · refine k_icmp_ge_f C dX0_hasDoing_9 (tgt := 16) (by decide) c2 ?_
      refine k_iconst C dX0_hasDoing_12 (v := (1 : Int32)) rfl ?_
      refine k_goto C dX0_hasDoing_13 (tgt := 17) (by decide) ?_
      exact k_zret C hr hlk (gZ1.trans (congrArg some hf)) rfl dX0_hasDoing_17
theorem dX0_hasPlace_0 : decode cX0_hasPlace 0 = .ok (.iload_n 1, 1) := by decide +kernel
theorem dX0_hasPlace_1 : decode cX0_hasPlace 1 = .ok (.ifCond .lt 15, 3) := by decide +kernel
theorem dX0_hasPlace_4 : decode cX0_hasPlace 4 = .ok (.iload_n 1, 1) := by decide +kernel
theorem dX0_hasPlace_5 : decode cX0_hasPlace 5 = .ok (.aload_n 0, 1) := by decide +kernel
theorem dX0_hasPlace_6 : decode cX0_hasPlace 6 = .ok (.getfield 28, 3) := by decide +kernel
theorem dX0_hasPlace_9 : decode cX0_hasPlace 9 = .ok (.if_icmp .ge 7, 3) := by decide +kernel
theorem dX0_hasPlace_12 : decode cX0_hasPlace 12 = .ok (.iconst 1, 1) := by decide +kernel
theorem dX0_hasPlace_13 : decode cX0_hasPlace 13 = .ok (.goto 4, 3) := by decide +kernel
theorem dX0_hasPlace_16 : decode cX0_hasPlace 16 = .ok (.iconst 0, 1) := by decide +kernel
theorem dX0_hasPlace_17 : decode cX0_hasPlace 17 = .ok (.ireturn, 1) := by decide +kernel
set_option maxRecDepth 100000 in
set_option maxHeartbeats 4000000 in
theorem c_X0_hasPlace {l : Launch} {G : Gx} (hap : k_ap G shC.length) (b : Nat) (hb : BD b) (v1 : Int32) (M0 : Mem) (r : Int32) (hf : f_X0_hasPlace b v1 M0 = r) : k_Met l yX0_hasPlace cX0_hasPlace 2 (some .boolean) 0 0 G shC [.ref (G.2.1 b), .int v1] M0 (k_Qi G shC r M0) := by
  refine k_Met_of (by decide) hap (Nat.le_of_ble_eq_true rfl) ?_
  intro p e s m args below meth c C hr hlk
  have C : Cx p s m args c cX0_hasPlace RX0 2 G shC := C
  unfold f_X0_hasPlace at hf
  refine k_lv (lv' := [(0, .ref (G.2.1 b)), (1, .int v1)]) [0, 1] rfl ?_
  refine k_iload_n C dX0_hasPlace_0 1 rfl ?_
  rcases ite_g hf with ⟨c1, hf⟩ | ⟨c1, hf⟩
  · refine k_if_lt_t C dX0_hasPlace_1 (tgt := 16) (by decide) c1 ?_
    refine k_iconst C dX0_hasPlace_16 (v := (0 : Int32)) rfl ?_
    exact k_zret C hr hlk (gZ0.trans (congrArg some hf)) rfl dX0_hasPlace_17
  · refine k_if_lt_f C dX0_hasPlace_1 (tgt := 16) (by decide) c1 ?_
    refine k_iload_n C dX0_hasPlace_4 1 rfl ?_
    refine k_aload_n C dX0_hasPlace_5 0 rfl ?_
    refine k_geti C hb.1 (j := 5) rfl FL_X0_28 dX0_hasPlace_6 ?_
    rcases ite_g hf with ⟨c2, hf⟩ | ⟨c2, hf⟩
    · refine k_icmp_ge_t C dX0_hasPlace_9 (tgt := 16) (by decide) c2 ?_
      refine k_iconst C dX0_hasPlace_16 (v := (0 : Int32)) rfl ?_
      exact k_zret C hr hlk (gZ0.trans (congrArg some hf)) rfl dX0_hasPlace_17
    · refine k_icmp_ge_f C dX0_hasPlace_9 (tgt := 16) (by decide) c2 ?_
      refine k_iconst C dX0_hasPlace_12 (v := (1 : Int32)) rfl ?_
      refine k_goto C dX0_hasPlace_13 (tgt := 17) (by decide) ?_
      exact k_zret C hr hlk (gZ1.trans (congrArg some hf)) rfl dX0_hasPlace_17
theorem dX0_hasRoomForDoing_0 : decode cX0_hasRoomForDoing 0 = .ok (.aload_n 0, 1) := by decide +kernel
theorem dX0_hasRoomForDoing_1 : decode cX0_hasRoomForDoing 1 = .ok (.getfield 24, 3) := by decide +kernel
theorem dX0_hasRoomForDoing_4 : decode cX0_hasRoomForDoing 4 = .ok (.bipush 8, 2) := by decide +kernel
theorem dX0_hasRoomForDoing_6 : decode cX0_hasRoomForDoing 6 = .ok (.if_icmp .ge 7, 3) := by decide +kernel
theorem dX0_hasRoomForDoing_9 : decode cX0_hasRoomForDoing 9 = .ok (.iconst 1, 1) := by decide +kernel
theorem dX0_hasRoomForDoing_10 : decode cX0_hasRoomForDoing 10 = .ok (.goto 4, 3) := by decide +kernel
theorem dX0_hasRoomForDoing_13 : decode cX0_hasRoomForDoing 13 = .ok (.iconst 0, 1) := by decide +kernel
theorem dX0_hasRoomForDoing_14 : decode cX0_hasRoomForDoing 14 = .ok (.ireturn, 1) := by decide +kernel
set_option maxRecDepth 100000 in
set_option maxHeartbeats 4000000 in
theorem c_X0_hasRoomForDoing {l : Launch} {G : Gx} (hap : k_ap G shC.length) (b : Nat) (hb : BD b) (M0 : Mem) (r : Int32) (hf : f_X0_hasRoomForDoing b M0 = r) : k_Met l yX0_hasRoomForDoing cX0_hasRoomForDoing 1 (some .boolean) 0 0 G shC [.ref (G.2.1 b)] M0 (k_Qi G shC r M0) := by
  refine k_Met_of (by decide) hap (Nat.le_of_ble_eq_true rfl) ?_
  intro p e s m args below meth c C hr hlk
  have C : Cx p s m args c cX0_hasRoomForDoing RX0 1 G shC := C
  unfold f_X0_hasRoomForDoing at hf
  refine k_lv (lv' := [(0, .ref (G.2.1 b))]) [0] rfl ?_
  refine k_aload_n C dX0_hasRoomForDoing_0 0 rfl ?_
  refine k_geti C hb.1 (j := 4) rfl FL_X0_24 dX0_hasRoomForDoing_1 ?_
  refine k_bipush C dX0_hasRoomForDoing_4 (v := (8 : Int32)) rfl ?_
  rcases ite_g hf with ⟨c1, hf⟩ | ⟨c1, hf⟩
  · refine k_icmp_ge_t C dX0_hasRoomForDoing_6 (tgt := 13) (by decide) c1 ?_
    refine k_iconst C dX0_hasRoomForDoing_13 (v := (0 : Int32)) rfl ?_
    exact k_zret C hr hlk (gZ0.trans (congrArg some hf)) rfl dX0_hasRoomForDoing_14
  · refine k_icmp_ge_f C dX0_hasRoomForDoing_6 (tgt := 13) (by decide) c1 ?_
    refine k_iconst C dX0_hasRoomForDoing_9 (v := (1 : Int32)) rfl ?_
    refine k_goto C dX0_hasRoomForDoing_10 (tgt := 14) (by decide) ?_
    exact k_zret C hr hlk (gZ1.trans (congrArg some hf)) rfl dX0_hasRoomForDoing_14
theorem dX0_hasRoomForPlace_0 : decode cX0_hasRoomForPlace 0 = .ok (.aload_n 0, 1) := by decide +kernel
theorem dX0_hasRoomForPlace_1 : decode cX0_hasRoomForPlace 1 = .ok (.getfield 28, 3) := by decide +kernel
theorem dX0_hasRoomForPlace_4 : decode cX0_hasRoomForPlace 4 = .ok (.bipush 12, 2) := by decide +kernel
theorem dX0_hasRoomForPlace_6 : decode cX0_hasRoomForPlace 6 = .ok (.if_icmp .ge 7, 3) := by decide +kernel
theorem dX0_hasRoomForPlace_9 : decode cX0_hasRoomForPlace 9 = .ok (.iconst 1, 1) := by decide +kernel
theorem dX0_hasRoomForPlace_10 : decode cX0_hasRoomForPlace 10 = .ok (.goto 4, 3) := by decide +kernel
theorem dX0_hasRoomForPlace_13 : decode cX0_hasRoomForPlace 13 = .ok (.iconst 0, 1) := by decide +kernel
theorem dX0_hasRoomForPlace_14 : decode cX0_hasRoomForPlace 14 = .ok (.ireturn, 1) := by decide +kernel
set_option maxRecDepth 100000 in
set_option maxHeartbeats 4000000 in
theorem c_X0_hasRoomForPlace {l : Launch} {G : Gx} (hap : k_ap G shC.length) (b : Nat) (hb : BD b) (M0 : Mem) (r : Int32) (hf : f_X0_hasRoomForPlace b M0 = r) : k_Met l yX0_hasRoomForPlace cX0_hasRoomForPlace 1 (some .boolean) 0 0 G shC [.ref (G.2.1 b)] M0 (k_Qi G shC r M0) := by
  refine k_Met_of (by decide) hap (Nat.le_of_ble_eq_true rfl) ?_
  intro p e s m args below meth c C hr hlk
  have C : Cx p s m args c cX0_hasRoomForPlace RX0 1 G shC := C
  unfold f_X0_hasRoomForPlace at hf
  refine k_lv (lv' := [(0, .ref (G.2.1 b))]) [0] rfl ?_
  refine k_aload_n C dX0_hasRoomForPlace_0 0 rfl ?_
  refine k_geti C hb.1 (j := 5) rfl FL_X0_28 dX0_hasRoomForPlace_1 ?_
  refine k_bipush C dX0_hasRoomForPlace_4 (v := (12 : Int32)) rfl ?_
  rcases ite_g hf with ⟨c1, hf⟩ | ⟨c1, hf⟩
  · refine k_icmp_ge_t C dX0_hasRoomForPlace_6 (tgt := 13) (by decide) c1 ?_
    refine k_iconst C dX0_hasRoomForPlace_13 (v := (0 : Int32)) rfl ?_
    exact k_zret C hr hlk (gZ0.trans (congrArg some hf)) rfl dX0_hasRoomForPlace_14
  · refine k_icmp_ge_f C dX0_hasRoomForPlace_6 (tgt := 13) (by decide) c1 ?_
    refine k_iconst C dX0_hasRoomForPlace_9 (v := (1 : Int32)) rfl ?_
    refine k_goto C dX0_hasRoomForPlace_10 (tgt := 14) (by decide) ?_
    exact k_zret C hr hlk (gZ1.trans (congrArg some hf)) rfl dX0_hasRoomForPlace_14
theorem dX0_setKind_0 : decode cX0_setKind 0 = .ok (.aload_n 0, 1) := by decide +kernel
theorem dX0_setKind_1 : decode cX0_setKind 1 = .ok (.getfield 9, 3) := by decide +kernel
theorem dX0_setKind_4 : decode cX0_setKind 4 = .ok (.iload_n 1, 1) := by decide +kernel
theorem dX0_setKind_5 : decode cX0_setKind 5 = .ok (.iload_n 2, 1) := by decide +kernel
theorem dX0_setKind_6 : decode cX0_setKind 6 = .ok (.iastore, 1) := by decide +kernel
theorem dX0_setKind_7 : decode cX0_setKind 7 = .ok (.aload_n 0, 1) := by decide +kernel
theorem dX0_setKind_8 : decode cX0_setKind 8 = .ok (.getfield 15, 3) := by decide +kernel
theorem dX0_setKind_11 : decode cX0_setKind 11 = .ok (.iload_n 1, 1) := by decide +kernel
theorem dX0_setKind_12 : decode cX0_setKind 12 = .ok (.iload_n 3, 1) := by decide +kernel
theorem dX0_setKind_13 : decode cX0_setKind 13 = .ok (.iastore, 1) := by decide +kernel
theorem dX0_setKind_14 : decode cX0_setKind 14 = .ok (.return_, 1) := by decide +kernel
set_option maxRecDepth 100000 in
set_option maxHeartbeats 4000000 in
theorem c_X0_setKind {l : Launch} {G : Gx} (hap : k_ap G shC.length) (b : Nat) (hb : BD b) (v1 : Int32) (v2 : Int32) (v3 : Int32) (M0 : Mem) (r : Mem) (hf : f_X0_setKind b v1 v2 v3 M0 = some r) : k_Met l yX0_setKind cX0_setKind 4 none 0 0 G shC [.ref (G.2.1 b), .int v1, .int v2, .int v3] M0 (k_Qv G shC r) := by
  refine k_Met_of (by decide) hap (Nat.le_of_ble_eq_true rfl) ?_
  intro p e s m args below meth c C hr hlk
  have C : Cx p s m args c cX0_setKind RX0 4 G shC := C
  unfold f_X0_setKind at hf
  refine k_lv (lv' := [(0, .ref (G.2.1 b)), (1, .int v1), (2, .int v2), (3, .int v3)]) [0, 1, 2, 3] rfl ?_
  refine k_aload_n C dX0_setKind_0 0 rfl ?_
  refine k_getr C hb.1 (j := 0) rfl FL_X0_9 dX0_setKind_1 ?_
  refine k_iload_n C dX0_setKind_4 1 rfl ?_
  refine k_iload_n C dX0_setKind_5 2 rfl ?_
  obtain ⟨M1, hM1, hf⟩ := bnd hf
  refine k_iast C hb.2.1 hM1 dX0_setKind_6 ?_
  refine k_aload_n C dX0_setKind_7 0 rfl ?_
  refine k_getr C hb.1 (j := 1) rfl FL_X0_15 dX0_setKind_8 ?_
  refine k_iload_n C dX0_setKind_11 1 rfl ?_
  refine k_iload_n C dX0_setKind_12 3 rfl ?_
  obtain ⟨M2, hM2, hf⟩ := bnd hf
  refine k_iast C hb.2.2.1 hM2 dX0_setKind_13 ?_
  exact k_vret C hr hlk (Option.some.inj hf) dX0_setKind_14
theorem dX0_addDoing_0 : decode cX0_addDoing 0 = .ok (.aload_n 0, 1) := by decide +kernel
theorem dX0_addDoing_1 : decode cX0_addDoing 1 = .ok (.invokevirtual 47, 3) := by decide +kernel
theorem dX0_addDoing_4 : decode cX0_addDoing 4 = .ok (.ifCond .ne 6, 3) := by decide +kernel
theorem dX0_addDoing_7 : decode cX0_addDoing 7 = .ok (.bipush (-6), 2) := by decide +kernel
theorem dX0_addDoing_9 : decode cX0_addDoing 9 = .ok (.ireturn, 1) := by decide +kernel
theorem dX0_addDoing_10 : decode cX0_addDoing 10 = .ok (.aload_n 0, 1) := by decide +kernel
theorem dX0_addDoing_11 : decode cX0_addDoing 11 = .ok (.dup, 1) := by decide +kernel
theorem dX0_addDoing_12 : decode cX0_addDoing 12 = .ok (.getfield 24, 3) := by decide +kernel
theorem dX0_addDoing_15 : decode cX0_addDoing 15 = .ok (.dup_x1, 1) := by decide +kernel
theorem dX0_addDoing_16 : decode cX0_addDoing 16 = .ok (.iconst 1, 1) := by decide +kernel
theorem dX0_addDoing_17 : decode cX0_addDoing 17 = .ok (.iadd, 1) := by decide +kernel
theorem dX0_addDoing_18 : decode cX0_addDoing 18 = .ok (.putfield 24, 3) := by decide +kernel
theorem dX0_addDoing_21 : decode cX0_addDoing 21 = .ok (.istore 4, 2) := by decide +kernel
theorem dX0_addDoing_23 : decode cX0_addDoing 23 = .ok (.aload_n 0, 1) := by decide +kernel
theorem dX0_addDoing_24 : decode cX0_addDoing 24 = .ok (.iload 4, 2) := by decide +kernel
theorem dX0_addDoing_26 : decode cX0_addDoing 26 = .ok (.iload_n 1, 1) := by decide +kernel
theorem dX0_addDoing_27 : decode cX0_addDoing 27 = .ok (.iload_n 2, 1) := by decide +kernel
theorem dX0_addDoing_28 : decode cX0_addDoing 28 = .ok (.invokevirtual 51, 3) := by decide +kernel
theorem dX0_addDoing_31 : decode cX0_addDoing 31 = .ok (.aload_n 0, 1) := by decide +kernel
theorem dX0_addDoing_32 : decode cX0_addDoing 32 = .ok (.getfield 18, 3) := by decide +kernel
theorem dX0_addDoing_35 : decode cX0_addDoing 35 = .ok (.iload 4, 2) := by decide +kernel
theorem dX0_addDoing_37 : decode cX0_addDoing 37 = .ok (.iload_n 3, 1) := by decide +kernel
theorem dX0_addDoing_38 : decode cX0_addDoing 38 = .ok (.iastore, 1) := by decide +kernel
theorem dX0_addDoing_39 : decode cX0_addDoing 39 = .ok (.iload 4, 2) := by decide +kernel
theorem dX0_addDoing_41 : decode cX0_addDoing 41 = .ok (.ireturn, 1) := by decide +kernel
set_option maxRecDepth 100000 in
set_option maxHeartbeats 4000000 in
theorem c_X0_addDoing {l : Launch} {G : Gx} (hap : k_ap G shC.length) (b : Nat) (hb : BD b) (v1 : Int32) (v2 : Int32) (v3 : Int32) (M0 : Mem) (r : Int32 × Mem) (hf : f_X0_addDoing b v1 v2 v3 M0 = some r) : k_Met l yX0_addDoing cX0_addDoing 5 (some .int) 1 23 G shC [.ref (G.2.1 b), .int v1, .int v2, .int v3] M0 (k_Qi G shC r.1 r.2) := by
  refine k_Met_of (by decide) hap (Nat.le_of_ble_eq_true rfl) ?_
  intro p e s m args below meth c C hr hlk
  have C : Cx p s m args c cX0_addDoing RX0 5 G shC := C
  unfold f_X0_addDoing at hf
  refine k_lv (lv' := [(0, .ref (G.2.1 b)), (1, .int v1), (2, .int v2), (3, .int v3)]) [0, 1, 2, 3] rfl ?_
  refine k_aload_n C dX0_addDoing_0 0 rfl ?_
  refine k_callVi C (As := []) (c_X0_hasRoomForDoing hap b hb M0 _ rfl) ML_X0_hasRoomForDoing wd_493 hb.1 rfl rfl rfl ⟨Nat.le_of_ble_eq_true rfl, Nat.le_of_ble_eq_true rfl⟩ (Nat.le_of_ble_eq_true rfl) dX0_addDoing_1 ?_
  rcases ite_g hf with ⟨c1, hf⟩ | ⟨c1, hf⟩
  · refine k_if_ne_f C dX0_addDoing_4 (tgt := 10) (by decide) c1 ?_
    refine k_bipush C dX0_addDoing_7 (v := (-6 : Int32)) rfl ?_
    exact k_iret C hr hlk (prf hf) (prs hf) dX0_addDoing_9
  · refine k_if_ne_t C dX0_addDoing_4 (tgt := 10) (by decide) c1 ?_
    refine k_aload_n C dX0_addDoing_10 0 rfl ?_
    refine k_dup C dX0_addDoing_11 rfl ?_
    refine k_geti C hb.1 (j := 4) rfl FL_X0_24 dX0_addDoing_12 ?_
    refine k_dup_x1 C dX0_addDoing_15 rfl rfl ?_
    refine k_iconst C dX0_addDoing_16 (v := (1 : Int32)) rfl ?_
    refine k_iadd C dX0_addDoing_17 ?_
    refine k_put C hb.1 (j := 4) rfl FL_X0_24 FW_X0_4 dX0_addDoing_18 ?_
    refine k_istore C dX0_addDoing_21 (by decide) [1, 2, 3, 4, 0] (lv' := [(0, .ref (G.2.1 b)), (1, .int v1), (2, .int v2), (3, .int v3), (4, .int (M0.1 b 4))]) rfl ?_
    refine k_aload_n C dX0_addDoing_23 0 rfl ?_
    refine k_iload C dX0_addDoing_24 4 rfl ?_
    refine k_iload_n C dX0_addDoing_26 1 rfl ?_
    refine k_iload_n C dX0_addDoing_27 2 rfl ?_
    obtain ⟨M2, hM2, hf⟩ := bnd hf
    refine k_callVv C (As := [.int (M0.1 b 4), .int v1, .int v2]) (c_X0_setKind hap b hb (M0.1 b 4) v1 v2 (wI M0 b 4 ((M0.1 b 4) + (1 : Int32))) M2 hM2) ML_X0_setKind wd_494 hb.1 rfl rfl rfl ⟨Nat.le_of_ble_eq_true rfl, Nat.le_of_ble_eq_true rfl⟩ (Nat.le_of_ble_eq_true rfl) dX0_addDoing_28 ?_
    refine k_aload_n C dX0_addDoing_31 0 rfl ?_
    refine k_getr C hb.1 (j := 2) rfl FL_X0_18 dX0_addDoing_32 ?_
    refine k_iload C dX0_addDoing_35 4 rfl ?_
    refine k_iload_n C dX0_addDoing_37 3 rfl ?_
    obtain ⟨M3, hM3, hf⟩ := bnd hf
    refine k_iast C hb.2.2.2.1 hM3 dX0_addDoing_38 ?_
    refine k_iload C dX0_addDoing_39 4 rfl ?_
    exact k_iret C hr hlk (prf hf) (prs hf) dX0_addDoing_41
theorem dX0_addPlace_0 : decode cX0_addPlace 0 = .ok (.aload_n 0, 1) := by decide +kernel
theorem dX0_addPlace_1 : decode cX0_addPlace 1 = .ok (.invokevirtual 55, 3) := by decide +kernel
theorem dX0_addPlace_4 : decode cX0_addPlace 4 = .ok (.ifCond .eq 20, 3) := by decide +kernel
theorem dX0_addPlace_7 : decode cX0_addPlace 7 = .ok (.aload_n 0, 1) := by decide +kernel
theorem dX0_addPlace_8 : decode cX0_addPlace 8 = .ok (.getfield 21, 3) := by decide +kernel
theorem dX0_addPlace_11 : decode cX0_addPlace 11 = .ok (.aload_n 0, 1) := by decide +kernel
theorem dX0_addPlace_12 : decode cX0_addPlace 12 = .ok (.dup, 1) := by decide +kernel
theorem dX0_addPlace_13 : decode cX0_addPlace 13 = .ok (.getfield 28, 3) := by decide +kernel
theorem dX0_addPlace_16 : decode cX0_addPlace 16 = .ok (.dup_x1, 1) := by decide +kernel
theorem dX0_addPlace_17 : decode cX0_addPlace 17 = .ok (.iconst 1, 1) := by decide +kernel
theorem dX0_addPlace_18 : decode cX0_addPlace 18 = .ok (.iadd, 1) := by decide +kernel
theorem dX0_addPlace_19 : decode cX0_addPlace 19 = .ok (.putfield 28, 3) := by decide +kernel
theorem dX0_addPlace_22 : decode cX0_addPlace 22 = .ok (.iload_n 1, 1) := by decide +kernel
theorem dX0_addPlace_23 : decode cX0_addPlace 23 = .ok (.iastore, 1) := by decide +kernel
theorem dX0_addPlace_24 : decode cX0_addPlace 24 = .ok (.return_, 1) := by decide +kernel
set_option maxRecDepth 100000 in
set_option maxHeartbeats 4000000 in
theorem c_X0_addPlace {l : Launch} {G : Gx} (hap : k_ap G shC.length) (b : Nat) (hb : BD b) (v1 : Int32) (M0 : Mem) (r : Mem) (hf : f_X0_addPlace b v1 M0 = some r) : k_Met l yX0_addPlace cX0_addPlace 2 none 1 20 G shC [.ref (G.2.1 b), .int v1] M0 (k_Qv G shC r) := by
  refine k_Met_of (by decide) hap (Nat.le_of_ble_eq_true rfl) ?_
  intro p e s m args below meth c C hr hlk
  have C : Cx p s m args c cX0_addPlace RX0 2 G shC := C
  unfold f_X0_addPlace at hf
  refine k_lv (lv' := [(0, .ref (G.2.1 b)), (1, .int v1)]) [0, 1] rfl ?_
  refine k_aload_n C dX0_addPlace_0 0 rfl ?_
  refine k_callVi C (As := []) (c_X0_hasRoomForPlace hap b hb M0 _ rfl) ML_X0_hasRoomForPlace wd_514 hb.1 rfl rfl rfl ⟨Nat.le_of_ble_eq_true rfl, Nat.le_of_ble_eq_true rfl⟩ (Nat.le_of_ble_eq_true rfl) dX0_addPlace_1 ?_
  rcases ite_g hf with ⟨c1, hf⟩ | ⟨c1, hf⟩
  · refine k_if_eq_t C dX0_addPlace_4 (tgt := 24) (by decide) c1 ?_
    exact k_vret C hr hlk (Option.some.inj hf) dX0_addPlace_24
  · refine k_if_eq_f C dX0_addPlace_4 (tgt := 24) (by decide) c1 ?_
    refine k_aload_n C dX0_addPlace_7 0 rfl ?_
    refine k_getr C hb.1 (j := 3) rfl FL_X0_21 dX0_addPlace_8 ?_
    refine k_aload_n C dX0_addPlace_11 0 rfl ?_
    refine k_dup C dX0_addPlace_12 rfl ?_
    refine k_geti C hb.1 (j := 5) rfl FL_X0_28 dX0_addPlace_13 ?_
    refine k_dup_x1 C dX0_addPlace_16 rfl rfl ?_
    refine k_iconst C dX0_addPlace_17 (v := (1 : Int32)) rfl ?_
    refine k_iadd C dX0_addPlace_18 ?_
    refine k_put C hb.1 (j := 5) rfl FL_X0_28 FW_X0_5 dX0_addPlace_19 ?_
    refine k_iload_n C dX0_addPlace_22 1 rfl ?_
    obtain ⟨M2, hM2, hf⟩ := bnd hf
    refine k_iast C hb.2.2.2.2 hM2 dX0_addPlace_23 ?_
    exact k_vret C hr hlk (Option.some.inj hf) dX0_addPlace_24
theorem dX0_flipMark_0 : decode cX0_flipMark 0 = .ok (.aload_n 0, 1) := by decide +kernel
theorem dX0_flipMark_1 : decode cX0_flipMark 1 = .ok (.getfield 18, 3) := by decide +kernel
theorem dX0_flipMark_4 : decode cX0_flipMark 4 = .ok (.iload_n 1, 1) := by decide +kernel
theorem dX0_flipMark_5 : decode cX0_flipMark 5 = .ok (.dup2, 1) := by decide +kernel
theorem dX0_flipMark_6 : decode cX0_flipMark 6 = .ok (.iaload, 1) := by decide +kernel
theorem dX0_flipMark_7 : decode cX0_flipMark 7 = .ok (.iconst 1, 1) := by decide +kernel
theorem dX0_flipMark_8 : decode cX0_flipMark 8 = .ok (.iload_n 2, 1) := by decide +kernel
theorem dX0_flipMark_9 : decode cX0_flipMark 9 = .ok (.ishl, 1) := by decide +kernel
theorem dX0_flipMark_10 : decode cX0_flipMark 10 = .ok (.ixor, 1) := by decide +kernel
theorem dX0_flipMark_11 : decode cX0_flipMark 11 = .ok (.iastore, 1) := by decide +kernel
theorem dX0_flipMark_12 : decode cX0_flipMark 12 = .ok (.return_, 1) := by decide +kernel
set_option maxRecDepth 100000 in
set_option maxHeartbeats 4000000 in
theorem c_X0_flipMark {l : Launch} {G : Gx} (hap : k_ap G shC.length) (b : Nat) (hb : BD b) (v1 : Int32) (v2 : Int32) (M0 : Mem) (r : Mem) (hf : f_X0_flipMark b v1 v2 M0 = some r) : k_Met l yX0_flipMark cX0_flipMark 3 none 0 0 G shC [.ref (G.2.1 b), .int v1, .int v2] M0 (k_Qv G shC r) := by
  refine k_Met_of (by decide) hap (Nat.le_of_ble_eq_true rfl) ?_
  intro p e s m args below meth c C hr hlk
  have C : Cx p s m args c cX0_flipMark RX0 3 G shC := C
  unfold f_X0_flipMark at hf
  refine k_lv (lv' := [(0, .ref (G.2.1 b)), (1, .int v1), (2, .int v2)]) [0, 1, 2] rfl ?_
  refine k_aload_n C dX0_flipMark_0 0 rfl ?_
  refine k_getr C hb.1 (j := 2) rfl FL_X0_18 dX0_flipMark_1 ?_
  refine k_iload_n C dX0_flipMark_4 1 rfl ?_
  refine k_dup2 C dX0_flipMark_5 rfl rfl ?_
  obtain ⟨t1, ht1, hf⟩ := bnd hf
  refine k_iald C hb.2.2.2.1 ht1 dX0_flipMark_6 ?_
  refine k_iconst C dX0_flipMark_7 (v := (1 : Int32)) rfl ?_
  refine k_iload_n C dX0_flipMark_8 2 rfl ?_
  refine k_ishlJ C dX0_flipMark_9 ?_
  refine k_ixor C dX0_flipMark_10 ?_
  obtain ⟨M2, hM2, hf⟩ := bnd hf
  refine k_iast C hb.2.2.2.1 hM2 dX0_flipMark_11 ?_
  exact k_vret C hr hlk (Option.some.inj hf) dX0_flipMark_12
theorem dJ6_bitCount_0f7a4_0 : decode cJ6_bitCount_0f7a4 0 = .ok (.iload_n 0, 1) := by decide +kernel
theorem dJ6_bitCount_0f7a4_1 : decode cJ6_bitCount_0f7a4 1 = .ok (.iload_n 0, 1) := by decide +kernel
theorem dJ6_bitCount_0f7a4_2 : decode cJ6_bitCount_0f7a4 2 = .ok (.iconst 1, 1) := by decide +kernel
theorem dJ6_bitCount_0f7a4_3 : decode cJ6_bitCount_0f7a4 3 = .ok (.iushr, 1) := by decide +kernel
theorem dJ6_bitCount_0f7a4_4 : decode cJ6_bitCount_0f7a4 4 = .ok (.ldc_w 265, 3) := by decide +kernel
theorem dJ6_bitCount_0f7a4_7 : decode cJ6_bitCount_0f7a4 7 = .ok (.iand, 1) := by decide +kernel
theorem dJ6_bitCount_0f7a4_8 : decode cJ6_bitCount_0f7a4 8 = .ok (.isub, 1) := by decide +kernel
theorem dJ6_bitCount_0f7a4_9 : decode cJ6_bitCount_0f7a4 9 = .ok (.istore_n 0, 1) := by decide +kernel
theorem dJ6_bitCount_0f7a4_10 : decode cJ6_bitCount_0f7a4 10 = .ok (.iload_n 0, 1) := by decide +kernel
theorem dJ6_bitCount_0f7a4_11 : decode cJ6_bitCount_0f7a4 11 = .ok (.ldc_w 266, 3) := by decide +kernel
theorem dJ6_bitCount_0f7a4_14 : decode cJ6_bitCount_0f7a4 14 = .ok (.iand, 1) := by decide +kernel
theorem dJ6_bitCount_0f7a4_15 : decode cJ6_bitCount_0f7a4 15 = .ok (.iload_n 0, 1) := by decide +kernel
theorem dJ6_bitCount_0f7a4_16 : decode cJ6_bitCount_0f7a4 16 = .ok (.iconst 2, 1) := by decide +kernel
theorem dJ6_bitCount_0f7a4_17 : decode cJ6_bitCount_0f7a4 17 = .ok (.iushr, 1) := by decide +kernel
theorem dJ6_bitCount_0f7a4_18 : decode cJ6_bitCount_0f7a4 18 = .ok (.ldc_w 266, 3) := by decide +kernel
theorem dJ6_bitCount_0f7a4_21 : decode cJ6_bitCount_0f7a4 21 = .ok (.iand, 1) := by decide +kernel
theorem dJ6_bitCount_0f7a4_22 : decode cJ6_bitCount_0f7a4 22 = .ok (.iadd, 1) := by decide +kernel
theorem dJ6_bitCount_0f7a4_23 : decode cJ6_bitCount_0f7a4 23 = .ok (.istore_n 0, 1) := by decide +kernel
theorem dJ6_bitCount_0f7a4_24 : decode cJ6_bitCount_0f7a4 24 = .ok (.iload_n 0, 1) := by decide +kernel
theorem dJ6_bitCount_0f7a4_25 : decode cJ6_bitCount_0f7a4 25 = .ok (.iload_n 0, 1) := by decide +kernel
theorem dJ6_bitCount_0f7a4_26 : decode cJ6_bitCount_0f7a4 26 = .ok (.iconst 4, 1) := by decide +kernel
theorem dJ6_bitCount_0f7a4_27 : decode cJ6_bitCount_0f7a4 27 = .ok (.iushr, 1) := by decide +kernel
theorem dJ6_bitCount_0f7a4_28 : decode cJ6_bitCount_0f7a4 28 = .ok (.iadd, 1) := by decide +kernel
theorem dJ6_bitCount_0f7a4_29 : decode cJ6_bitCount_0f7a4 29 = .ok (.ldc_w 267, 3) := by decide +kernel
theorem dJ6_bitCount_0f7a4_32 : decode cJ6_bitCount_0f7a4 32 = .ok (.iand, 1) := by decide +kernel
theorem dJ6_bitCount_0f7a4_33 : decode cJ6_bitCount_0f7a4 33 = .ok (.istore_n 0, 1) := by decide +kernel
theorem dJ6_bitCount_0f7a4_34 : decode cJ6_bitCount_0f7a4 34 = .ok (.iload_n 0, 1) := by decide +kernel
theorem dJ6_bitCount_0f7a4_35 : decode cJ6_bitCount_0f7a4 35 = .ok (.iload_n 0, 1) := by decide +kernel
theorem dJ6_bitCount_0f7a4_36 : decode cJ6_bitCount_0f7a4 36 = .ok (.bipush 8, 2) := by decide +kernel
theorem dJ6_bitCount_0f7a4_38 : decode cJ6_bitCount_0f7a4 38 = .ok (.iushr, 1) := by decide +kernel
theorem dJ6_bitCount_0f7a4_39 : decode cJ6_bitCount_0f7a4 39 = .ok (.iadd, 1) := by decide +kernel
theorem dJ6_bitCount_0f7a4_40 : decode cJ6_bitCount_0f7a4 40 = .ok (.istore_n 0, 1) := by decide +kernel
theorem dJ6_bitCount_0f7a4_41 : decode cJ6_bitCount_0f7a4 41 = .ok (.iload_n 0, 1) := by decide +kernel
theorem dJ6_bitCount_0f7a4_42 : decode cJ6_bitCount_0f7a4 42 = .ok (.iload_n 0, 1) := by decide +kernel
theorem dJ6_bitCount_0f7a4_43 : decode cJ6_bitCount_0f7a4 43 = .ok (.bipush 16, 2) := by decide +kernel
theorem dJ6_bitCount_0f7a4_45 : decode cJ6_bitCount_0f7a4 45 = .ok (.iushr, 1) := by decide +kernel
theorem dJ6_bitCount_0f7a4_46 : decode cJ6_bitCount_0f7a4 46 = .ok (.iadd, 1) := by decide +kernel
theorem dJ6_bitCount_0f7a4_47 : decode cJ6_bitCount_0f7a4 47 = .ok (.istore_n 0, 1) := by decide +kernel
theorem dJ6_bitCount_0f7a4_48 : decode cJ6_bitCount_0f7a4 48 = .ok (.iload_n 0, 1) := by decide +kernel
theorem dJ6_bitCount_0f7a4_49 : decode cJ6_bitCount_0f7a4 49 = .ok (.bipush 63, 2) := by decide +kernel
theorem dJ6_bitCount_0f7a4_51 : decode cJ6_bitCount_0f7a4 51 = .ok (.iand, 1) := by decide +kernel
theorem dJ6_bitCount_0f7a4_52 : decode cJ6_bitCount_0f7a4 52 = .ok (.ireturn, 1) := by decide +kernel
set_option maxRecDepth 100000 in
set_option maxHeartbeats 4000000 in
theorem c_J6_bitCount_0f7a4 {l : Launch} {G : Gx} (hap : k_ap G shC.length) (v0 : Int32) (M0 : Mem) (r : Int32) (hf : f_J6_bitCount_0f7a4 v0 = r) : k_Met l yJ6_bitCount_0f7a4 cJ6_bitCount_0f7a4 1 (some .int) 0 0 G shC [.int v0] M0 (k_Qi G shC r M0) := by
  refine k_Met_of (by decide) hap (Nat.le_of_ble_eq_true rfl) ?_
  intro p e s m args below meth c C hr hlk
  have C : Cx p s m args c cJ6_bitCount_0f7a4 RJ6 1 G shC := C
  unfold f_J6_bitCount_0f7a4 at hf
  refine k_lv (lv' := [(0, .int v0)]) [0] rfl ?_
  refine k_iload_n C dJ6_bitCount_0f7a4_0 0 rfl ?_
  refine k_iload_n C dJ6_bitCount_0f7a4_1 0 rfl ?_
  refine k_iconst C dJ6_bitCount_0f7a4_2 (v := (1 : Int32)) rfl ?_
  refine k_iushrJ C dJ6_bitCount_0f7a4_3 ?_
  refine k_ldcw C dJ6_bitCount_0f7a4_4 wd_578 ?_
  refine k_iand C dJ6_bitCount_0f7a4_7 ?_
  refine k_isub C dJ6_bitCount_0f7a4_8 ?_
  refine k_istore_n C dJ6_bitCount_0f7a4_9 (by decide) [0] (lv' := [(0, .int (v0 - ((jushr v0 (1 : Int32)) &&& (1431655765 : Int32))))]) rfl ?_
  refine k_iload_n C dJ6_bitCount_0f7a4_10 0 rfl ?_
  refine k_ldcw C dJ6_bitCount_0f7a4_11 wd_579 ?_
  refine k_iand C dJ6_bitCount_0f7a4_14 ?_
  refine k_iload_n C dJ6_bitCount_0f7a4_15 0 rfl ?_
  refine k_iconst C dJ6_bitCount_0f7a4_16 (v := (2 : Int32)) rfl ?_
  refine k_iushrJ C dJ6_bitCount_0f7a4_17 ?_
  refine k_ldcw C dJ6_bitCount_0f7a4_18 wd_579 ?_
  refine k_iand C dJ6_bitCount_0f7a4_21 ?_
  refine k_iadd C dJ6_bitCount_0f7a4_22 ?_
  refine k_istore_n C dJ6_bitCount_0f7a4_23 (by decide) [0] (lv' := [(0, .int (((v0 - ((jushr v0 (1 : Int32)) &&& (1431655765 : Int32))) &&& (858993459 : Int32)) + ((jushr (v0 - ((jushr v0 (1 : Int32)) &&& (1431655765 : Int32))) (2 : Int32)) &&& (858993459 : Int32))))]) rfl ?_
  refine k_iload_n C dJ6_bitCount_0f7a4_24 0 rfl ?_
  refine k_iload_n C dJ6_bitCount_0f7a4_25 0 rfl ?_
  refine k_iconst C dJ6_bitCount_0f7a4_26 (v := (4 : Int32)) rfl ?_
  refine k_iushrJ C dJ6_bitCount_0f7a4_27 ?_
  refine k_iadd C dJ6_bitCount_0f7a4_28 ?_
  refine k_ldcw C dJ6_bitCount_0f7a4_29 wd_580 ?_
  refine k_iand C dJ6_bitCount_0f7a4_32 ?_
  refine k_istore_n C dJ6_bitCount_0f7a4_33 (by decide) [0] (lv' := [(0, .int (((((v0 - ((jushr v0 (1 : Int32)) &&& (1431655765 : Int32))) &&& (858993459 : Int32)) + ((jushr (v0 - ((jushr v0 (1 : Int32)) &&& (1431655765 : Int32))) (2 : Int32)) &&& (858993459 : Int32))) + (jushr (((v0 - ((jushr v0 (1 : Int32)) &&& (1431655765 : Int32))) &&& (858993459 : Int32)) + ((jushr (v0 - ((jushr v0 (1 : Int32)) &&& (1431655765 : Int32))) (2 : Int32)) &&& (858993459 : Int32))) (4 : Int32))) &&& (252645135 : Int32)))]) rfl ?_
  refine k_iload_n C dJ6_bitCount_0f7a4_34 0 rfl ?_
  refine k_iload_n C dJ6_bitCount_0f7a4_35 0 rfl ?_
  refine k_bipush C dJ6_bitCount_0f7a4_36 (v := (8 : Int32)) rfl ?_
  refine k_iushrJ C dJ6_bitCount_0f7a4_38 ?_
  refine k_iadd C dJ6_bitCount_0f7a4_39 ?_
  refine k_istore_n C dJ6_bitCount_0f7a4_40 (by decide) [0] (lv' := [(0, .int ((((((v0 - ((jushr v0 (1 : Int32)) &&& (1431655765 : Int32))) &&& (858993459 : Int32)) + ((jushr (v0 - ((jushr v0 (1 : Int32)) &&& (1431655765 : Int32))) (2 : Int32)) &&& (858993459 : Int32))) + (jushr (((v0 - ((jushr v0 (1 : Int32)) &&& (1431655765 : Int32))) &&& (858993459 : Int32)) + ((jushr (v0 - ((jushr v0 (1 : Int32)) &&& (1431655765 : Int32))) (2 : Int32)) &&& (858993459 : Int32))) (4 : Int32))) &&& (252645135 : Int32)) + (jushr (((((v0 - ((jushr v0 (1 : Int32)) &&& (1431655765 : Int32))) &&& (858993459 : Int32)) + ((jushr (v0 - ((jushr v0 (1 : Int32)) &&& (1431655765 : Int32))) (2 : Int32)) &&& (858993459 : Int32))) + (jushr (((v0 - ((jushr v0 (1 : Int32)) &&& (1431655765 : Int32))) &&& (858993459 : Int32)) + ((jushr (v0 - ((jushr v0 (1 : Int32)) &&& (1431655765 : Int32))) (2 : Int32)) &&& (858993459 : Int32))) (4 : Int32))) &&& (252645135 : Int32)) (8 : Int32))))]) rfl ?_
  refine k_iload_n C dJ6_bitCount_0f7a4_41 0 rfl ?_
  refine k_iload_n C dJ6_bitCount_0f7a4_42 0 rfl ?_
  refine k_bipush C dJ6_bitCount_0f7a4_43 (v := (16 : Int32)) rfl ?_
  refine k_iushrJ C dJ6_bitCount_0f7a4_45 ?_
  refine k_iadd C dJ6_bitCount_0f7a4_46 ?_
  refine k_istore_n C dJ6_bitCount_0f7a4_47 (by decide) [0] (lv' := [(0, .int (((((((v0 - ((jushr v0 (1 : Int32)) &&& (1431655765 : Int32))) &&& (858993459 : Int32)) + ((jushr (v0 - ((jushr v0 (1 : Int32)) &&& (1431655765 : Int32))) (2 : Int32)) &&& (858993459 : Int32))) + (jushr (((v0 - ((jushr v0 (1 : Int32)) &&& (1431655765 : Int32))) &&& (858993459 : Int32)) + ((jushr (v0 - ((jushr v0 (1 : Int32)) &&& (1431655765 : Int32))) (2 : Int32)) &&& (858993459 : Int32))) (4 : Int32))) &&& (252645135 : Int32)) + (jushr (((((v0 - ((jushr v0 (1 : Int32)) &&& (1431655765 : Int32))) &&& (858993459 : Int32)) + ((jushr (v0 - ((jushr v0 (1 : Int32)) &&& (1431655765 : Int32))) (2 : Int32)) &&& (858993459 : Int32))) + (jushr (((v0 - ((jushr v0 (1 : Int32)) &&& (1431655765 : Int32))) &&& (858993459 : Int32)) + ((jushr (v0 - ((jushr v0 (1 : Int32)) &&& (1431655765 : Int32))) (2 : Int32)) &&& (858993459 : Int32))) (4 : Int32))) &&& (252645135 : Int32)) (8 : Int32))) + (jushr ((((((v0 - ((jushr v0 (1 : Int32)) &&& (1431655765 : Int32))) &&& (858993459 : Int32)) + ((jushr (v0 - ((jushr v0 (1 : Int32)) &&& (1431655765 : Int32))) (2 : Int32)) &&& (858993459 : Int32))) + (jushr (((v0 - ((jushr v0 (1 : Int32)) &&& (1431655765 : Int32))) &&& (858993459 : Int32)) + ((jushr (v0 - ((jushr v0 (1 : Int32)) &&& (1431655765 : Int32))) (2 : Int32)) &&& (858993459 : Int32))) (4 : Int32))) &&& (252645135 : Int32)) + (jushr (((((v0 - ((jushr v0 (1 : Int32)) &&& (1431655765 : Int32))) &&& (858993459 : Int32)) + ((jushr (v0 - ((jushr v0 (1 : Int32)) &&& (1431655765 : Int32))) (2 : Int32)) &&& (858993459 : Int32))) + (jushr (((v0 - ((jushr v0 (1 : Int32)) &&& (1431655765 : Int32))) &&& (858993459 : Int32)) + ((jushr (v0 - ((jushr v0 (1 : Int32)) &&& (1431655765 : Int32))) (2 : Int32)) &&& (858993459 : Int32))) (4 : Int32))) &&& (252645135 : Int32)) (8 : Int32))) (16 : Int32))))]) rfl ?_
  refine k_iload_n C dJ6_bitCount_0f7a4_48 0 rfl ?_
  refine k_bipush C dJ6_bitCount_0f7a4_49 (v := (63 : Int32)) rfl ?_
  refine k_iand C dJ6_bitCount_0f7a4_51 ?_
  exact k_iret C hr hlk hf rfl dJ6_bitCount_0f7a4_52
theorem dX0_areAlike_0 : decode cX0_areAlike 0 = .ok (.iload_n 1, 1) := by decide +kernel
theorem dX0_areAlike_1 : decode cX0_areAlike 1 = .ok (.iload_n 2, 1) := by decide +kernel
theorem dX0_areAlike_2 : decode cX0_areAlike 2 = .ok (.if_icmp .ne 5, 3) := by decide +kernel
theorem dX0_areAlike_5 : decode cX0_areAlike 5 = .ok (.iconst 1, 1) := by decide +kernel
theorem dX0_areAlike_6 : decode cX0_areAlike 6 = .ok (.ireturn, 1) := by decide +kernel
theorem dX0_areAlike_7 : decode cX0_areAlike 7 = .ok (.iload_n 3, 1) := by decide +kernel
theorem dX0_areAlike_8 : decode cX0_areAlike 8 = .ok (.tableswitch 97 0 2 #[28, 49, 70], 28) := by decide +kernel
theorem dX0_areAlike_36 : decode cX0_areAlike 36 = .ok (.aload_n 0, 1) := by decide +kernel
theorem dX0_areAlike_37 : decode cX0_areAlike 37 = .ok (.getfield 18, 3) := by decide +kernel
theorem dX0_areAlike_40 : decode cX0_areAlike 40 = .ok (.iload_n 1, 1) := by decide +kernel
theorem dX0_areAlike_41 : decode cX0_areAlike 41 = .ok (.iaload, 1) := by decide +kernel
theorem dX0_areAlike_42 : decode cX0_areAlike 42 = .ok (.aload_n 0, 1) := by decide +kernel
theorem dX0_areAlike_43 : decode cX0_areAlike 43 = .ok (.getfield 18, 3) := by decide +kernel
theorem dX0_areAlike_46 : decode cX0_areAlike 46 = .ok (.iload_n 2, 1) := by decide +kernel
theorem dX0_areAlike_47 : decode cX0_areAlike 47 = .ok (.iaload, 1) := by decide +kernel
theorem dX0_areAlike_48 : decode cX0_areAlike 48 = .ok (.if_icmp .ne 7, 3) := by decide +kernel
theorem dX0_areAlike_51 : decode cX0_areAlike 51 = .ok (.iconst 1, 1) := by decide +kernel
theorem dX0_areAlike_52 : decode cX0_areAlike 52 = .ok (.goto 4, 3) := by decide +kernel
theorem dX0_areAlike_55 : decode cX0_areAlike 55 = .ok (.iconst 0, 1) := by decide +kernel
theorem dX0_areAlike_56 : decode cX0_areAlike 56 = .ok (.ireturn, 1) := by decide +kernel
theorem dX0_areAlike_57 : decode cX0_areAlike 57 = .ok (.aload_n 0, 1) := by decide +kernel
theorem dX0_areAlike_58 : decode cX0_areAlike 58 = .ok (.getfield 9, 3) := by decide +kernel
theorem dX0_areAlike_61 : decode cX0_areAlike 61 = .ok (.iload_n 1, 1) := by decide +kernel
theorem dX0_areAlike_62 : decode cX0_areAlike 62 = .ok (.iaload, 1) := by decide +kernel
theorem dX0_areAlike_63 : decode cX0_areAlike 63 = .ok (.aload_n 0, 1) := by decide +kernel
theorem dX0_areAlike_64 : decode cX0_areAlike 64 = .ok (.getfield 9, 3) := by decide +kernel
theorem dX0_areAlike_67 : decode cX0_areAlike 67 = .ok (.iload_n 2, 1) := by decide +kernel
theorem dX0_areAlike_68 : decode cX0_areAlike 68 = .ok (.iaload, 1) := by decide +kernel
theorem dX0_areAlike_69 : decode cX0_areAlike 69 = .ok (.if_icmp .ne 7, 3) := by decide +kernel
theorem dX0_areAlike_72 : decode cX0_areAlike 72 = .ok (.iconst 1, 1) := by decide +kernel
theorem dX0_areAlike_73 : decode cX0_areAlike 73 = .ok (.goto 4, 3) := by decide +kernel
theorem dX0_areAlike_76 : decode cX0_areAlike 76 = .ok (.iconst 0, 1) := by decide +kernel
theorem dX0_areAlike_77 : decode cX0_areAlike 77 = .ok (.ireturn, 1) := by decide +kernel
theorem dX0_areAlike_78 : decode cX0_areAlike 78 = .ok (.aload_n 0, 1) := by decide +kernel
theorem dX0_areAlike_79 : decode cX0_areAlike 79 = .ok (.getfield 18, 3) := by decide +kernel
theorem dX0_areAlike_82 : decode cX0_areAlike 82 = .ok (.iload_n 1, 1) := by decide +kernel
theorem dX0_areAlike_83 : decode cX0_areAlike 83 = .ok (.iaload, 1) := by decide +kernel
theorem dX0_areAlike_84 : decode cX0_areAlike 84 = .ok (.aload_n 0, 1) := by decide +kernel
theorem dX0_areAlike_85 : decode cX0_areAlike 85 = .ok (.getfield 18, 3) := by decide +kernel
theorem dX0_areAlike_88 : decode cX0_areAlike 88 = .ok (.iload_n 2, 1) := by decide +kernel
theorem dX0_areAlike_89 : decode cX0_areAlike 89 = .ok (.iaload, 1) := by decide +kernel
theorem dX0_areAlike_90 : decode cX0_areAlike 90 = .ok (.iand, 1) := by decide +kernel
theorem dX0_areAlike_91 : decode cX0_areAlike 91 = .ok (.invokestatic 58, 3) := by decide +kernel
theorem dX0_areAlike_94 : decode cX0_areAlike 94 = .ok (.iload 4, 2) := by decide +kernel
theorem dX0_areAlike_96 : decode cX0_areAlike 96 = .ok (.if_icmp .lt 7, 3) := by decide +kernel
theorem dX0_areAlike_99 : decode cX0_areAlike 99 = .ok (.iconst 1, 1) := by decide +kernel
theorem dX0_areAlike_100 : decode cX0_areAlike 100 = .ok (.goto 4, 3) := by decide +kernel
theorem dX0_areAlike_103 : decode cX0_areAlike 103 = .ok (.iconst 0, 1) := by decide +kernel
theorem dX0_areAlike_104 : decode cX0_areAlike 104 = .ok (.ireturn, 1) := by decide +kernel
theorem dX0_areAlike_105 : decode cX0_areAlike 105 = .ok (.aload_n 0, 1) := by decide +kernel
theorem dX0_areAlike_106 : decode cX0_areAlike 106 = .ok (.getfield 18, 3) := by decide +kernel
theorem dX0_areAlike_109 : decode cX0_areAlike 109 = .ok (.iload_n 1, 1) := by decide +kernel
theorem dX0_areAlike_110 : decode cX0_areAlike 110 = .ok (.iaload, 1) := by decide +kernel
theorem dX0_areAlike_111 : decode cX0_areAlike 111 = .ok (.aload_n 0, 1) := by decide +kernel
theorem dX0_areAlike_112 : decode cX0_areAlike 112 = .ok (.getfield 18, 3) := by decide +kernel
theorem dX0_areAlike_115 : decode cX0_areAlike 115 = .ok (.iload_n 2, 1) := by decide +kernel
theorem dX0_areAlike_116 : decode cX0_areAlike 116 = .ok (.iaload, 1) := by decide +kernel
theorem dX0_areAlike_117 : decode cX0_areAlike 117 = .ok (.ixor, 1) := by decide +kernel
theorem dX0_areAlike_118 : decode cX0_areAlike 118 = .ok (.invokestatic 58, 3) := by decide +kernel
theorem dX0_areAlike_121 : decode cX0_areAlike 121 = .ok (.iload 4, 2) := by decide +kernel
theorem dX0_areAlike_123 : decode cX0_areAlike 123 = .ok (.if_icmp .gt 7, 3) := by decide +kernel
theorem dX0_areAlike_126 : decode cX0_areAlike 126 = .ok (.iconst 1, 1) := by decide +kernel
theorem dX0_areAlike_127 : decode cX0_areAlike 127 = .ok (.goto 4, 3) := by decide +kernel
theorem dX0_areAlike_130 : decode cX0_areAlike 130 = .ok (.iconst 0, 1) := by decide +kernel
theorem dX0_areAlike_131 : decode cX0_areAlike 131 = .ok (.ireturn, 1) := by decide +kernel
set_option maxRecDepth 100000 in
set_option maxHeartbeats 4000000 in
theorem c_X0_areAlike {l : Launch} {G : Gx} (hap : k_ap G shC.length) (b : Nat) (hb : BD b) (v1 : Int32) (v2 : Int32) (v3 : Int32) (v4 : Int32) (M0 : Mem) (r : Int32) (hf : f_X0_areAlike b v1 v2 v3 v4 M0 = some r) : k_Met l yX0_areAlike cX0_areAlike 5 (some .boolean) 1 20 G shC [.ref (G.2.1 b), .int v1, .int v2, .int v3, .int v4] M0 (k_Qi G shC r M0) := by
  refine k_Met_of (by decide) hap (Nat.le_of_ble_eq_true rfl) ?_
  intro p e s m args below meth c C hr hlk
  have C : Cx p s m args c cX0_areAlike RX0 5 G shC := C
  unfold f_X0_areAlike at hf
  refine k_lv (lv' := [(0, .ref (G.2.1 b)), (1, .int v1), (2, .int v2), (3, .int v3), (4, .int v4)]) [0, 1, 2, 3, 4] rfl ?_
  refine k_iload_n C dX0_areAlike_0 1 rfl ?_
  refine k_iload_n C dX0_areAlike_1 2 rfl ?_
  rcases ite_g hf with ⟨c1, hf⟩ | ⟨c1, hf⟩
  · refine k_icmp_ne_f C dX0_areAlike_2 (tgt := 7) (by decide) c1 ?_
    refine k_iconst C dX0_areAlike_5 (v := (1 : Int32)) rfl ?_
    exact k_zret C hr hlk (gZ1.trans (congrArg some (Option.some.inj hf))) rfl dX0_areAlike_6
  · refine k_icmp_ne_t C dX0_areAlike_2 (tgt := 7) (by decide) c1 ?_
    refine k_iload_n C dX0_areAlike_7 3 rfl ?_
    rcases ite_g hf with ⟨c2, hf⟩ | ⟨c2, hf⟩
    · refine k_tableIn C (0 : Int32) c2 dX0_areAlike_8 (off := 28) (tgt := 36) (by decide) (by decide) (by decide) (by decide) ?_
      refine k_aload_n C dX0_areAlike_36 0 rfl ?_
      refine k_getr C hb.1 (j := 2) rfl FL_X0_18 dX0_areAlike_37 ?_
      refine k_iload_n C dX0_areAlike_40 1 rfl ?_
      obtain ⟨t3, ht3, hf⟩ := bnd hf
      refine k_iald C hb.2.2.2.1 ht3 dX0_areAlike_41 ?_
      refine k_aload_n C dX0_areAlike_42 0 rfl ?_
      refine k_getr C hb.1 (j := 2) rfl FL_X0_18 dX0_areAlike_43 ?_
      refine k_iload_n C dX0_areAlike_46 2 rfl ?_
      obtain ⟨t4, ht4, hf⟩ := bnd hf
      refine k_iald C hb.2.2.2.1 ht4 dX0_areAlike_47 ?_
      rcases ite_g hf with ⟨c5, hf⟩ | ⟨c5, hf⟩
      · refine k_icmp_ne_f C dX0_areAlike_48 (tgt := 55) (by decide) c5 ?_
        refine k_iconst C dX0_areAlike_51 (v := (1 : Int32)) rfl ?_
        refine k_goto C dX0_areAlike_52 (tgt := 56) (by decide) ?_
        exact k_zret C hr hlk (gZ1.trans (congrArg some (Option.some.inj hf))) rfl dX0_areAlike_56
      · refine k_icmp_ne_t C dX0_areAlike_48 (tgt := 55) (by decide) c5 ?_
        refine k_iconst C dX0_areAlike_55 (v := (0 : Int32)) rfl ?_
        exact k_zret C hr hlk (gZ0.trans (congrArg some (Option.some.inj hf))) rfl dX0_areAlike_56
    · rcases ite_g hf with ⟨c6, hf⟩ | ⟨c6, hf⟩
      · refine k_tableIn C (1 : Int32) c6 dX0_areAlike_8 (off := 49) (tgt := 57) (by decide) (by decide) (by decide) (by decide) ?_
        refine k_aload_n C dX0_areAlike_57 0 rfl ?_
        refine k_getr C hb.1 (j := 0) rfl FL_X0_9 dX0_areAlike_58 ?_
        refine k_iload_n C dX0_areAlike_61 1 rfl ?_
        obtain ⟨t7, ht7, hf⟩ := bnd hf
        refine k_iald C hb.2.1 ht7 dX0_areAlike_62 ?_
        refine k_aload_n C dX0_areAlike_63 0 rfl ?_
        refine k_getr C hb.1 (j := 0) rfl FL_X0_9 dX0_areAlike_64 ?_
        refine k_iload_n C dX0_areAlike_67 2 rfl ?_
        obtain ⟨t8, ht8, hf⟩ := bnd hf
        refine k_iald C hb.2.1 ht8 dX0_areAlike_68 ?_
        rcases ite_g hf with ⟨c9, hf⟩ | ⟨c9, hf⟩
        · refine k_icmp_ne_f C dX0_areAlike_69 (tgt := 76) (by decide) c9 ?_
          refine k_iconst C dX0_areAlike_72 (v := (1 : Int32)) rfl ?_
          refine k_goto C dX0_areAlike_73 (tgt := 77) (by decide) ?_
          exact k_zret C hr hlk (gZ1.trans (congrArg some (Option.some.inj hf))) rfl dX0_areAlike_77
        · refine k_icmp_ne_t C dX0_areAlike_69 (tgt := 76) (by decide) c9 ?_
          refine k_iconst C dX0_areAlike_76 (v := (0 : Int32)) rfl ?_
          exact k_zret C hr hlk (gZ0.trans (congrArg some (Option.some.inj hf))) rfl dX0_areAlike_77
      · rcases ite_g hf with ⟨c10, hf⟩ | ⟨c10, hf⟩
        · refine k_tableIn C (2 : Int32) c10 dX0_areAlike_8 (off := 70) (tgt := 78) (by decide) (by decide) (by decide) (by decide) ?_
          refine k_aload_n C dX0_areAlike_78 0 rfl ?_
          refine k_getr C hb.1 (j := 2) rfl FL_X0_18 dX0_areAlike_79 ?_
          refine k_iload_n C dX0_areAlike_82 1 rfl ?_
          obtain ⟨t11, ht11, hf⟩ := bnd hf
          refine k_iald C hb.2.2.2.1 ht11 dX0_areAlike_83 ?_
          refine k_aload_n C dX0_areAlike_84 0 rfl ?_
          refine k_getr C hb.1 (j := 2) rfl FL_X0_18 dX0_areAlike_85 ?_
          refine k_iload_n C dX0_areAlike_88 2 rfl ?_
          obtain ⟨t12, ht12, hf⟩ := bnd hf
          refine k_iald C hb.2.2.2.1 ht12 dX0_areAlike_89 ?_
          refine k_iand C dX0_areAlike_90 ?_
          refine k_callSi C (As := [.int (t11 &&& t12)]) (c_J6_bitCount_0f7a4 hap (t11 &&& t12) M0 _ rfl) MS_J6_bitCount_0f7a4 wd_575 rfl rfl ⟨Nat.le_of_ble_eq_true rfl, Nat.le_of_ble_eq_true rfl⟩ (Nat.le_of_ble_eq_true rfl) dX0_areAlike_91 ?_
          refine k_iload C dX0_areAlike_94 4 rfl ?_
          rcases ite_g hf with ⟨c13, hf⟩ | ⟨c13, hf⟩
          · refine k_icmp_lt_t C dX0_areAlike_96 (tgt := 103) (by decide) c13 ?_
            refine k_iconst C dX0_areAlike_103 (v := (0 : Int32)) rfl ?_
            exact k_zret C hr hlk (gZ0.trans (congrArg some (Option.some.inj hf))) rfl dX0_areAlike_104
          · refine k_icmp_lt_f C dX0_areAlike_96 (tgt := 103) (by decide) c13 ?_
            refine k_iconst C dX0_areAlike_99 (v := (1 : Int32)) rfl ?_
            refine k_goto C dX0_areAlike_100 (tgt := 104) (by decide) ?_
            exact k_zret C hr hlk (gZ1.trans (congrArg some (Option.some.inj hf))) rfl dX0_areAlike_104
        · have hqc2 : (v3 : Int32).toInt ≠ 0 := i_ne2 c2 (by decide)
          have hqc6 : (v3 : Int32).toInt ≠ 1 := i_ne2 c6 (by decide)
          have hqc10 : (v3 : Int32).toInt ≠ 2 := i_ne2 c10 (by decide)
          refine k_tableOut C dX0_areAlike_8 (tgt := 105) (by omega) (by decide) ?_
          refine k_aload_n C dX0_areAlike_105 0 rfl ?_
          refine k_getr C hb.1 (j := 2) rfl FL_X0_18 dX0_areAlike_106 ?_
          refine k_iload_n C dX0_areAlike_109 1 rfl ?_
          obtain ⟨t14, ht14, hf⟩ := bnd hf
          refine k_iald C hb.2.2.2.1 ht14 dX0_areAlike_110 ?_
          refine k_aload_n C dX0_areAlike_111 0 rfl ?_
          refine k_getr C hb.1 (j := 2) rfl FL_X0_18 dX0_areAlike_112 ?_
          refine k_iload_n C dX0_areAlike_115 2 rfl ?_
          obtain ⟨t15, ht15, hf⟩ := bnd hf
          refine k_iald C hb.2.2.2.1 ht15 dX0_areAlike_116 ?_
          refine k_ixor C dX0_areAlike_117 ?_
          refine k_callSi C (As := [.int (t14 ^^^ t15)]) (c_J6_bitCount_0f7a4 hap (t14 ^^^ t15) M0 _ rfl) MS_J6_bitCount_0f7a4 wd_575 rfl rfl ⟨Nat.le_of_ble_eq_true rfl, Nat.le_of_ble_eq_true rfl⟩ (Nat.le_of_ble_eq_true rfl) dX0_areAlike_118 ?_
          refine k_iload C dX0_areAlike_121 4 rfl ?_
          rcases ite_g hf with ⟨c16, hf⟩ | ⟨c16, hf⟩
          · refine k_icmp_gt_t C dX0_areAlike_123 (tgt := 130) (by decide) c16 ?_
            refine k_iconst C dX0_areAlike_130 (v := (0 : Int32)) rfl ?_
            exact k_zret C hr hlk (gZ0.trans (congrArg some (Option.some.inj hf))) rfl dX0_areAlike_131
          · refine k_icmp_gt_f C dX0_areAlike_123 (tgt := 130) (by decide) c16 ?_
            refine k_iconst C dX0_areAlike_126 (v := (1 : Int32)) rfl ?_
            refine k_goto C dX0_areAlike_127 (tgt := 131) (by decide) ?_
            exact k_zret C hr hlk (gZ1.trans (congrArg some (Option.some.inj hf))) rfl dX0_areAlike_131
theorem dX0_dueFor_0 : decode cX0_dueFor 0 = .ok (.aload_n 0, 1) := by decide +kernel
theorem dX0_dueFor_1 : decode cX0_dueFor 1 = .ok (.getfield 15, 3) := by decide +kernel
theorem dX0_dueFor_4 : decode cX0_dueFor 4 = .ok (.iload_n 1, 1) := by decide +kernel
theorem dX0_dueFor_5 : decode cX0_dueFor 5 = .ok (.iaload, 1) := by decide +kernel
theorem dX0_dueFor_6 : decode cX0_dueFor 6 = .ok (.iconst 1, 1) := by decide +kernel
theorem dX0_dueFor_7 : decode cX0_dueFor 7 = .ok (.iadd, 1) := by decide +kernel
theorem dX0_dueFor_8 : decode cX0_dueFor 8 = .ok (.iload_n 2, 1) := by decide +kernel
theorem dX0_dueFor_9 : decode cX0_dueFor 9 = .ok (.imul, 1) := by decide +kernel
theorem dX0_dueFor_10 : decode cX0_dueFor 10 = .ok (.istore_n 3, 1) := by decide +kernel
theorem dX0_dueFor_11 : decode cX0_dueFor 11 = .ok (.aload_n 0, 1) := by decide +kernel
theorem dX0_dueFor_12 : decode cX0_dueFor 12 = .ok (.getfield 9, 3) := by decide +kernel
theorem dX0_dueFor_15 : decode cX0_dueFor 15 = .ok (.iload_n 1, 1) := by decide +kernel
theorem dX0_dueFor_16 : decode cX0_dueFor 16 = .ok (.iaload, 1) := by decide +kernel
theorem dX0_dueFor_17 : decode cX0_dueFor 17 = .ok (.tableswitch 82 1 5 #[35, 39, 43, 45, 68], 35) := by decide +kernel
theorem dX0_dueFor_52 : decode cX0_dueFor 52 = .ok (.iload_n 3, 1) := by decide +kernel
theorem dX0_dueFor_53 : decode cX0_dueFor 53 = .ok (.iconst 2, 1) := by decide +kernel
theorem dX0_dueFor_54 : decode cX0_dueFor 54 = .ok (.idiv, 1) := by decide +kernel
theorem dX0_dueFor_55 : decode cX0_dueFor 55 = .ok (.ireturn, 1) := by decide +kernel
theorem dX0_dueFor_56 : decode cX0_dueFor 56 = .ok (.iconst 2, 1) := by decide +kernel
theorem dX0_dueFor_57 : decode cX0_dueFor 57 = .ok (.iload_n 3, 1) := by decide +kernel
theorem dX0_dueFor_58 : decode cX0_dueFor 58 = .ok (.imul, 1) := by decide +kernel
theorem dX0_dueFor_59 : decode cX0_dueFor 59 = .ok (.ireturn, 1) := by decide +kernel
theorem dX0_dueFor_60 : decode cX0_dueFor 60 = .ok (.iconst 0, 1) := by decide +kernel
theorem dX0_dueFor_61 : decode cX0_dueFor 61 = .ok (.ireturn, 1) := by decide +kernel
theorem dX0_dueFor_62 : decode cX0_dueFor 62 = .ok (.iload_n 2, 1) := by decide +kernel
theorem dX0_dueFor_63 : decode cX0_dueFor 63 = .ok (.ifCond .le 20, 3) := by decide +kernel
theorem dX0_dueFor_66 : decode cX0_dueFor 66 = .ok (.iconst 2, 1) := by decide +kernel
theorem dX0_dueFor_67 : decode cX0_dueFor 67 = .ok (.aload_n 0, 1) := by decide +kernel
theorem dX0_dueFor_68 : decode cX0_dueFor 68 = .ok (.getfield 15, 3) := by decide +kernel
theorem dX0_dueFor_71 : decode cX0_dueFor 71 = .ok (.iload_n 1, 1) := by decide +kernel
theorem dX0_dueFor_72 : decode cX0_dueFor 72 = .ok (.iaload, 1) := by decide +kernel
theorem dX0_dueFor_73 : decode cX0_dueFor 73 = .ok (.iconst 1, 1) := by decide +kernel
theorem dX0_dueFor_74 : decode cX0_dueFor 74 = .ok (.iadd, 1) := by decide +kernel
theorem dX0_dueFor_75 : decode cX0_dueFor 75 = .ok (.imul, 1) := by decide +kernel
theorem dX0_dueFor_76 : decode cX0_dueFor 76 = .ok (.iload_n 2, 1) := by decide +kernel
theorem dX0_dueFor_77 : decode cX0_dueFor 77 = .ok (.iconst 1, 1) := by decide +kernel
theorem dX0_dueFor_78 : decode cX0_dueFor 78 = .ok (.isub, 1) := by decide +kernel
theorem dX0_dueFor_79 : decode cX0_dueFor 79 = .ok (.imul, 1) := by decide +kernel
theorem dX0_dueFor_80 : decode cX0_dueFor 80 = .ok (.goto 4, 3) := by decide +kernel
theorem dX0_dueFor_83 : decode cX0_dueFor 83 = .ok (.iconst 0, 1) := by decide +kernel
theorem dX0_dueFor_84 : decode cX0_dueFor 84 = .ok (.ireturn, 1) := by decide +kernel
theorem dX0_dueFor_85 : decode cX0_dueFor 85 = .ok (.iload_n 2, 1) := by decide +kernel
theorem dX0_dueFor_86 : decode cX0_dueFor 86 = .ok (.ifCond .le 11, 3) := by decide +kernel
theorem dX0_dueFor_89 : decode cX0_dueFor 89 = .ok (.iload_n 3, 1) := by decide +kernel
theorem dX0_dueFor_90 : decode cX0_dueFor 90 = .ok (.iconst 2, 1) := by decide +kernel
theorem dX0_dueFor_91 : decode cX0_dueFor 91 = .ok (.idiv, 1) := by decide +kernel
theorem dX0_dueFor_92 : decode cX0_dueFor 92 = .ok (.iconst 3, 1) := by decide +kernel
theorem dX0_dueFor_93 : decode cX0_dueFor 93 = .ok (.iadd, 1) := by decide +kernel
theorem dX0_dueFor_94 : decode cX0_dueFor 94 = .ok (.goto 4, 3) := by decide +kernel
theorem dX0_dueFor_97 : decode cX0_dueFor 97 = .ok (.iconst 0, 1) := by decide +kernel
theorem dX0_dueFor_98 : decode cX0_dueFor 98 = .ok (.ireturn, 1) := by decide +kernel
theorem dX0_dueFor_99 : decode cX0_dueFor 99 = .ok (.iload_n 3, 1) := by decide +kernel
theorem dX0_dueFor_100 : decode cX0_dueFor 100 = .ok (.ireturn, 1) := by decide +kernel
set_option maxRecDepth 100000 in
set_option maxHeartbeats 4000000 in
theorem c_X0_dueFor {l : Launch} {G : Gx} (hap : k_ap G shC.length) (b : Nat) (hb : BD b) (v1 : Int32) (v2 : Int32) (M0 : Mem) (r : Int32) (hf : f_X0_dueFor b v1 v2 M0 = some r) : k_Met l yX0_dueFor cX0_dueFor 4 (some .int) 0 0 G shC [.ref (G.2.1 b), .int v1, .int v2] M0 (k_Qi G shC r M0) := by
  refine k_Met_of (by decide) hap (Nat.le_of_ble_eq_true rfl) ?_
  intro p e s m args below meth c C hr hlk
  have C : Cx p s m args c cX0_dueFor RX0 4 G shC := C
  unfold f_X0_dueFor at hf
  refine k_lv (lv' := [(0, .ref (G.2.1 b)), (1, .int v1), (2, .int v2)]) [0, 1, 2] rfl ?_
  refine k_aload_n C dX0_dueFor_0 0 rfl ?_
  refine k_getr C hb.1 (j := 1) rfl FL_X0_15 dX0_dueFor_1 ?_
  refine k_iload_n C dX0_dueFor_4 1 rfl ?_
  obtain ⟨t1, ht1, hf⟩ := bnd hf
  refine k_iald C hb.2.2.1 ht1 dX0_dueFor_5 ?_
  refine k_iconst C dX0_dueFor_6 (v := (1 : Int32)) rfl ?_
  refine k_iadd C dX0_dueFor_7 ?_
  refine k_iload_n C dX0_dueFor_8 2 rfl ?_
  refine k_imul C dX0_dueFor_9 ?_
  refine k_istore_n C dX0_dueFor_10 (by decide) [1, 2, 3, 0] (lv' := [(0, .ref (G.2.1 b)), (1, .int v1), (2, .int v2), (3, .int ((t1 + (1 : Int32)) * v2))]) rfl ?_
  refine k_aload_n C dX0_dueFor_11 0 rfl ?_
  refine k_getr C hb.1 (j := 0) rfl FL_X0_9 dX0_dueFor_12 ?_
  refine k_iload_n C dX0_dueFor_15 1 rfl ?_
  obtain ⟨t2, ht2, hf⟩ := bnd hf
  refine k_iald C hb.2.1 ht2 dX0_dueFor_16 ?_
  rcases ite_g hf with ⟨c3, hf⟩ | ⟨c3, hf⟩
  · refine k_tableIn C (1 : Int32) c3 dX0_dueFor_17 (off := 35) (tgt := 52) (by decide) (by decide) (by decide) (by decide) ?_
    refine k_iload_n C dX0_dueFor_52 3 rfl ?_
    refine k_iconst C dX0_dueFor_53 (v := (2 : Int32)) rfl ?_
    refine k_idiv C dX0_dueFor_54 (by decide) ?_
    exact k_iret C hr hlk (Option.some.inj hf) rfl dX0_dueFor_55
  · rcases ite_g hf with ⟨c4, hf⟩ | ⟨c4, hf⟩
    · refine k_tableIn C (2 : Int32) c4 dX0_dueFor_17 (off := 39) (tgt := 56) (by decide) (by decide) (by decide) (by decide) ?_
      refine k_iconst C dX0_dueFor_56 (v := (2 : Int32)) rfl ?_
      refine k_iload_n C dX0_dueFor_57 3 rfl ?_
      refine k_imul C dX0_dueFor_58 ?_
      exact k_iret C hr hlk (Option.some.inj hf) rfl dX0_dueFor_59
    · rcases ite_g hf with ⟨c5, hf⟩ | ⟨c5, hf⟩
      · refine k_tableIn C (3 : Int32) c5 dX0_dueFor_17 (off := 43) (tgt := 60) (by decide) (by decide) (by decide) (by decide) ?_
        refine k_iconst C dX0_dueFor_60 (v := (0 : Int32)) rfl ?_
        exact k_iret C hr hlk (Option.some.inj hf) rfl dX0_dueFor_61
      · rcases ite_g hf with ⟨c6, hf⟩ | ⟨c6, hf⟩
        · refine k_tableIn C (4 : Int32) c6 dX0_dueFor_17 (off := 45) (tgt := 62) (by decide) (by decide) (by decide) (by decide) ?_
          refine k_iload_n C dX0_dueFor_62 2 rfl ?_
          rcases ite_g hf with ⟨c7, hf⟩ | ⟨c7, hf⟩
          · refine k_if_le_t C dX0_dueFor_63 (tgt := 83) (by decide) c7 ?_
            refine k_iconst C dX0_dueFor_83 (v := (0 : Int32)) rfl ?_
            exact k_iret C hr hlk (Option.some.inj hf) rfl dX0_dueFor_84
          · refine k_if_le_f C dX0_dueFor_63 (tgt := 83) (by decide) c7 ?_
            refine k_iconst C dX0_dueFor_66 (v := (2 : Int32)) rfl ?_
            refine k_aload_n C dX0_dueFor_67 0 rfl ?_
            refine k_getr C hb.1 (j := 1) rfl FL_X0_15 dX0_dueFor_68 ?_
            refine k_iload_n C dX0_dueFor_71 1 rfl ?_
            obtain ⟨t8, ht8, hf⟩ := bnd hf
            refine k_iald C hb.2.2.1 ht8 dX0_dueFor_72 ?_
            refine k_iconst C dX0_dueFor_73 (v := (1 : Int32)) rfl ?_
            refine k_iadd C dX0_dueFor_74 ?_
            refine k_imul C dX0_dueFor_75 ?_
            refine k_iload_n C dX0_dueFor_76 2 rfl ?_
            refine k_iconst C dX0_dueFor_77 (v := (1 : Int32)) rfl ?_
            refine k_isub C dX0_dueFor_78 ?_
            refine k_imul C dX0_dueFor_79 ?_
            refine k_goto C dX0_dueFor_80 (tgt := 84) (by decide) ?_
            exact k_iret C hr hlk (Option.some.inj hf) rfl dX0_dueFor_84
        · rcases ite_g hf with ⟨c9, hf⟩ | ⟨c9, hf⟩
          · refine k_tableIn C (5 : Int32) c9 dX0_dueFor_17 (off := 68) (tgt := 85) (by decide) (by decide) (by decide) (by decide) ?_
            refine k_iload_n C dX0_dueFor_85 2 rfl ?_
            rcases ite_g hf with ⟨c10, hf⟩ | ⟨c10, hf⟩
            · refine k_if_le_t C dX0_dueFor_86 (tgt := 97) (by decide) c10 ?_
              refine k_iconst C dX0_dueFor_97 (v := (0 : Int32)) rfl ?_
              exact k_iret C hr hlk (Option.some.inj hf) rfl dX0_dueFor_98
            · refine k_if_le_f C dX0_dueFor_86 (tgt := 97) (by decide) c10 ?_
              refine k_iload_n C dX0_dueFor_89 3 rfl ?_
              refine k_iconst C dX0_dueFor_90 (v := (2 : Int32)) rfl ?_
              refine k_idiv C dX0_dueFor_91 (by decide) ?_
              refine k_iconst C dX0_dueFor_92 (v := (3 : Int32)) rfl ?_
              refine k_iadd C dX0_dueFor_93 ?_
              refine k_goto C dX0_dueFor_94 (tgt := 98) (by decide) ?_
              exact k_iret C hr hlk (Option.some.inj hf) rfl dX0_dueFor_98
          · have hqc3 : (t2 : Int32).toInt ≠ 1 := i_ne2 c3 (by decide)
            have hqc4 : (t2 : Int32).toInt ≠ 2 := i_ne2 c4 (by decide)
            have hqc5 : (t2 : Int32).toInt ≠ 3 := i_ne2 c5 (by decide)
            have hqc6 : (t2 : Int32).toInt ≠ 4 := i_ne2 c6 (by decide)
            have hqc9 : (t2 : Int32).toInt ≠ 5 := i_ne2 c9 (by decide)
            refine k_tableOut C dX0_dueFor_17 (tgt := 99) (by omega) (by decide) ?_
            refine k_iload_n C dX0_dueFor_99 3 rfl ?_
            exact k_iret C hr hlk (Option.some.inj hf) rfl dX0_dueFor_100
theorem dX1_add_0 : decode cX1_add 0 = .ok (.aload_n 0, 1) := by decide +kernel
theorem dX1_add_1 : decode cX1_add 1 = .ok (.getfield 22, 3) := by decide +kernel
theorem dX1_add_4 : decode cX1_add 4 = .ok (.bipush 96, 2) := by decide +kernel
theorem dX1_add_6 : decode cX1_add 6 = .ok (.if_icmp .ge 20, 3) := by decide +kernel
theorem dX1_add_9 : decode cX1_add 9 = .ok (.aload_n 0, 1) := by decide +kernel
theorem dX1_add_10 : decode cX1_add 10 = .ok (.getfield 9, 3) := by decide +kernel
theorem dX1_add_13 : decode cX1_add 13 = .ok (.aload_n 0, 1) := by decide +kernel
theorem dX1_add_14 : decode cX1_add 14 = .ok (.dup, 1) := by decide +kernel
theorem dX1_add_15 : decode cX1_add 15 = .ok (.getfield 22, 3) := by decide +kernel
theorem dX1_add_18 : decode cX1_add 18 = .ok (.dup_x1, 1) := by decide +kernel
theorem dX1_add_19 : decode cX1_add 19 = .ok (.iconst 1, 1) := by decide +kernel
theorem dX1_add_20 : decode cX1_add 20 = .ok (.iadd, 1) := by decide +kernel
theorem dX1_add_21 : decode cX1_add 21 = .ok (.putfield 22, 3) := by decide +kernel
theorem dX1_add_24 : decode cX1_add 24 = .ok (.iload_n 1, 1) := by decide +kernel
theorem dX1_add_25 : decode cX1_add 25 = .ok (.iastore, 1) := by decide +kernel
theorem dX1_add_26 : decode cX1_add 26 = .ok (.aload_n 0, 1) := by decide +kernel
theorem dX1_add_27 : decode cX1_add 27 = .ok (.getfield 22, 3) := by decide +kernel
theorem dX1_add_30 : decode cX1_add 30 = .ok (.ireturn, 1) := by decide +kernel
set_option maxRecDepth 100000 in
set_option maxHeartbeats 4000000 in
theorem c_X1_add {l : Launch} {G : Gx} (hap : k_ap G shC.length) (v1 : Int32) (M0 : Mem) (r : Int32 × Mem) (hf : f_X1_add v1 M0 = some r) : k_Met l yX1_add cX1_add 2 (some .int) 0 0 G shC [.ref (G.2.1 16), .int v1] M0 (k_Qi G shC r.1 r.2) := by
  refine k_Met_of (by decide) hap (Nat.le_of_ble_eq_true rfl) ?_
  intro p e s m args below meth c C hr hlk
  have C : Cx p s m args c cX1_add RX1 2 G shC := C
  unfold f_X1_add at hf
  refine k_lv (lv' := [(0, .ref (G.2.1 16)), (1, .int v1)]) [0, 1] rfl ?_
  refine k_aload_n C dX1_add_0 0 rfl ?_
  refine k_geti C shC_16 (j := 2) rfl FL_X1_22 dX1_add_1 ?_
  refine k_bipush C dX1_add_4 (v := (96 : Int32)) rfl ?_
  rcases ite_g hf with ⟨c1, hf⟩ | ⟨c1, hf⟩
  · refine k_icmp_ge_t C dX1_add_6 (tgt := 26) (by decide) c1 ?_
    refine k_aload_n C dX1_add_26 0 rfl ?_
    refine k_geti C shC_16 (j := 2) rfl FL_X1_22 dX1_add_27 ?_
    exact k_iret C hr hlk (prf hf) (prs hf) dX1_add_30
  · refine k_icmp_ge_f C dX1_add_6 (tgt := 26) (by decide) c1 ?_
    refine k_aload_n C dX1_add_9 0 rfl ?_
    refine k_getr C shC_16 (j := 0) rfl FL_X1_9 dX1_add_10 ?_
    refine k_aload_n C dX1_add_13 0 rfl ?_
    refine k_dup C dX1_add_14 rfl ?_
    refine k_geti C shC_16 (j := 2) rfl FL_X1_22 dX1_add_15 ?_
    refine k_dup_x1 C dX1_add_18 rfl rfl ?_
    refine k_iconst C dX1_add_19 (v := (1 : Int32)) rfl ?_
    refine k_iadd C dX1_add_20 ?_
    refine k_put C shC_16 (j := 2) rfl FL_X1_22 FW_X1_2 dX1_add_21 ?_
    refine k_iload_n C dX1_add_24 1 rfl ?_
    obtain ⟨M2, hM2, hf⟩ := bnd hf
    refine k_iast C shC_17 hM2 dX1_add_25 ?_
    refine k_aload_n C dX1_add_26 0 rfl ?_
    refine k_geti C shC_16 (j := 2) rfl FL_X1_22 dX1_add_27 ?_
    exact k_iret C hr hlk (prf hf) (prs hf) dX1_add_30
theorem dX1_letterAt_0 : decode cX1_letterAt 0 = .ok (.iload_n 1, 1) := by decide +kernel
theorem dX1_letterAt_1 : decode cX1_letterAt 1 = .ok (.ifCond .lt 20, 3) := by decide +kernel
theorem dX1_letterAt_4 : decode cX1_letterAt 4 = .ok (.iload_n 1, 1) := by decide +kernel
theorem dX1_letterAt_5 : decode cX1_letterAt 5 = .ok (.aload_n 0, 1) := by decide +kernel
theorem dX1_letterAt_6 : decode cX1_letterAt 6 = .ok (.getfield 22, 3) := by decide +kernel
theorem dX1_letterAt_9 : decode cX1_letterAt 9 = .ok (.if_icmp .ge 12, 3) := by decide +kernel
theorem dX1_letterAt_12 : decode cX1_letterAt 12 = .ok (.aload_n 0, 1) := by decide +kernel
theorem dX1_letterAt_13 : decode cX1_letterAt 13 = .ok (.getfield 9, 3) := by decide +kernel
theorem dX1_letterAt_16 : decode cX1_letterAt 16 = .ok (.iload_n 1, 1) := by decide +kernel
theorem dX1_letterAt_17 : decode cX1_letterAt 17 = .ok (.iaload, 1) := by decide +kernel
theorem dX1_letterAt_18 : decode cX1_letterAt 18 = .ok (.goto 4, 3) := by decide +kernel
theorem dX1_letterAt_21 : decode cX1_letterAt 21 = .ok (.iconst (-1), 1) := by decide +kernel
theorem dX1_letterAt_22 : decode cX1_letterAt 22 = .ok (.ireturn, 1) := by decide +kernel
set_option maxRecDepth 100000 in
set_option maxHeartbeats 4000000 in
theorem c_X1_letterAt {l : Launch} {G : Gx} (hap : k_ap G shC.length) (v1 : Int32) (M0 : Mem) (r : Int32) (hf : f_X1_letterAt v1 M0 = some r) : k_Met l yX1_letterAt cX1_letterAt 2 (some .int) 0 0 G shC [.ref (G.2.1 16), .int v1] M0 (k_Qi G shC r M0) := by
  refine k_Met_of (by decide) hap (Nat.le_of_ble_eq_true rfl) ?_
  intro p e s m args below meth c C hr hlk
  have C : Cx p s m args c cX1_letterAt RX1 2 G shC := C
  unfold f_X1_letterAt at hf
  refine k_lv (lv' := [(0, .ref (G.2.1 16)), (1, .int v1)]) [0, 1] rfl ?_
  refine k_iload_n C dX1_letterAt_0 1 rfl ?_
  rcases ite_g hf with ⟨c1, hf⟩ | ⟨c1, hf⟩
  · refine k_if_lt_t C dX1_letterAt_1 (tgt := 21) (by decide) c1 ?_
    refine k_iconst C dX1_letterAt_21 (v := (-1 : Int32)) rfl ?_
    exact k_iret C hr hlk (Option.some.inj hf) rfl dX1_letterAt_22
  · refine k_if_lt_f C dX1_letterAt_1 (tgt := 21) (by decide) c1 ?_
    refine k_iload_n C dX1_letterAt_4 1 rfl ?_
    refine k_aload_n C dX1_letterAt_5 0 rfl ?_
    refine k_geti C shC_16 (j := 2) rfl FL_X1_22 dX1_letterAt_6 ?_
    rcases ite_g hf with ⟨c2, hf⟩ | ⟨c2, hf⟩
    · refine k_icmp_ge_t C dX1_letterAt_9 (tgt := 21) (by decide) c2 ?_
      refine k_iconst C dX1_letterAt_21 (v := (-1 : Int32)) rfl ?_
      exact k_iret C hr hlk (Option.some.inj hf) rfl dX1_letterAt_22
    · refine k_icmp_ge_f C dX1_letterAt_9 (tgt := 21) (by decide) c2 ?_
      refine k_aload_n C dX1_letterAt_12 0 rfl ?_
      refine k_getr C shC_16 (j := 0) rfl FL_X1_9 dX1_letterAt_13 ?_
      refine k_iload_n C dX1_letterAt_16 1 rfl ?_
      obtain ⟨t3, ht3, hf⟩ := bnd hf
      refine k_iald C shC_17 ht3 dX1_letterAt_17 ?_
      refine k_goto C dX1_letterAt_18 (tgt := 22) (by decide) ?_
      exact k_iret C hr hlk (Option.some.inj hf) rfl dX1_letterAt_22
theorem dX1_digitsBehind_0 : decode cX1_digitsBehind 0 = .ok (.iload_n 0, 1) := by decide +kernel
theorem dX1_digitsBehind_1 : decode cX1_digitsBehind 1 = .ok (.lookupswitch 59 #[(100, 51), (108, 55), (109, 55), (111, 53), (120, 57)], 51) := by decide +kernel
theorem dX1_digitsBehind_52 : decode cX1_digitsBehind 52 = .ok (.iconst 5, 1) := by decide +kernel
theorem dX1_digitsBehind_53 : decode cX1_digitsBehind 53 = .ok (.ireturn, 1) := by decide +kernel
theorem dX1_digitsBehind_54 : decode cX1_digitsBehind 54 = .ok (.iconst 1, 1) := by decide +kernel
theorem dX1_digitsBehind_55 : decode cX1_digitsBehind 55 = .ok (.ireturn, 1) := by decide +kernel
theorem dX1_digitsBehind_56 : decode cX1_digitsBehind 56 = .ok (.iconst 2, 1) := by decide +kernel
theorem dX1_digitsBehind_57 : decode cX1_digitsBehind 57 = .ok (.ireturn, 1) := by decide +kernel
theorem dX1_digitsBehind_58 : decode cX1_digitsBehind 58 = .ok (.iconst 0, 1) := by decide +kernel
theorem dX1_digitsBehind_59 : decode cX1_digitsBehind 59 = .ok (.ireturn, 1) := by decide +kernel
theorem dX1_digitsBehind_60 : decode cX1_digitsBehind 60 = .ok (.iconst (-1), 1) := by decide +kernel
theorem dX1_digitsBehind_61 : decode cX1_digitsBehind 61 = .ok (.ireturn, 1) := by decide +kernel
set_option maxRecDepth 100000 in
set_option maxHeartbeats 4000000 in
theorem c_X1_digitsBehind {l : Launch} {G : Gx} (hap : k_ap G shC.length) (v0 : Int32) (M0 : Mem) (r : Int32) (hf : f_X1_digitsBehind v0 = r) : k_Met l yX1_digitsBehind cX1_digitsBehind 1 (some .int) 0 0 G shC [.int v0] M0 (k_Qi G shC r M0) := by
  refine k_Met_of (by decide) hap (Nat.le_of_ble_eq_true rfl) ?_
  intro p e s m args below meth c C hr hlk
  have C : Cx p s m args c cX1_digitsBehind RX1 1 G shC := C
  unfold f_X1_digitsBehind at hf
  refine k_lv (lv' := [(0, .int v0)]) [0] rfl ?_
  refine k_iload_n C dX1_digitsBehind_0 0 rfl ?_
  rcases ite_g hf with ⟨c1, hf⟩ | ⟨c1, hf⟩
  · refine k_lookup C dX1_digitsBehind_1 (tgt := 52) (off := 51) (by decide) (by first | (rw [c1]; done) | (rw [c1]; decide)) (by decide) ?_
    refine k_iconst C dX1_digitsBehind_52 (v := (5 : Int32)) rfl ?_
    exact k_iret C hr hlk hf rfl dX1_digitsBehind_53
  · rcases ite_g hf with ⟨c2, hf⟩ | ⟨c2, hf⟩
    · refine k_lookup C dX1_digitsBehind_1 (tgt := 56) (off := 55) (by decide) (by first | (rw [c2]; done) | (rw [c2]; decide)) (by decide) ?_
      refine k_iconst C dX1_digitsBehind_56 (v := (2 : Int32)) rfl ?_
      exact k_iret C hr hlk hf rfl dX1_digitsBehind_57
    · rcases ite_g hf with ⟨c3, hf⟩ | ⟨c3, hf⟩
      · refine k_lookup C dX1_digitsBehind_1 (tgt := 56) (off := 55) (by decide) (by first | (rw [c3]; done) | (rw [c3]; decide)) (by decide) ?_
        refine k_iconst C dX1_digitsBehind_56 (v := (2 : Int32)) rfl ?_
        exact k_iret C hr hlk hf rfl dX1_digitsBehind_57
      · rcases ite_g hf with ⟨c4, hf⟩ | ⟨c4, hf⟩
        · refine k_lookup C dX1_digitsBehind_1 (tgt := 54) (off := 53) (by decide) (by first | (rw [c4]; done) | (rw [c4]; decide)) (by decide) ?_
          refine k_iconst C dX1_digitsBehind_54 (v := (1 : Int32)) rfl ?_
          exact k_iret C hr hlk hf rfl dX1_digitsBehind_55
        · rcases ite_g hf with ⟨c5, hf⟩ | ⟨c5, hf⟩
          · refine k_lookup C dX1_digitsBehind_1 (tgt := 58) (off := 57) (by decide) (by first | (rw [c5]; done) | (rw [c5]; decide)) (by decide) ?_
            refine k_iconst C dX1_digitsBehind_58 (v := (0 : Int32)) rfl ?_
            exact k_iret C hr hlk hf rfl dX1_digitsBehind_59
          · have hqc1 : (v0 : Int32).toInt ≠ 100 := i_ne2 c1 (by decide)
            have hqc2 : (v0 : Int32).toInt ≠ 108 := i_ne2 c2 (by decide)
            have hqc3 : (v0 : Int32).toInt ≠ 109 := i_ne2 c3 (by decide)
            have hqc4 : (v0 : Int32).toInt ≠ 111 := i_ne2 c4 (by decide)
            have hqc5 : (v0 : Int32).toInt ≠ 120 := i_ne2 c5 (by decide)
            refine k_lookup C dX1_digitsBehind_1 (tgt := 60) (off := 59) (by decide) (by simp only [Op.lookupswitch.offset]; rw [if_neg (Ne.symm hqc1), if_neg (Ne.symm hqc2), if_neg (Ne.symm hqc3), if_neg (Ne.symm hqc4), if_neg (Ne.symm hqc5)]) (by decide) ?_
            refine k_iconst C dX1_digitsBehind_60 (v := (-1 : Int32)) rfl ?_
            exact k_iret C hr hlk hf rfl dX1_digitsBehind_61
theorem dX1_isDigit_0 : decode cX1_isDigit 0 = .ok (.iload_n 0, 1) := by decide +kernel
theorem dX1_isDigit_1 : decode cX1_isDigit 1 = .ok (.bipush 48, 2) := by decide +kernel
theorem dX1_isDigit_3 : decode cX1_isDigit 3 = .ok (.if_icmp .lt 13, 3) := by decide +kernel
theorem dX1_isDigit_6 : decode cX1_isDigit 6 = .ok (.iload_n 0, 1) := by decide +kernel
theorem dX1_isDigit_7 : decode cX1_isDigit 7 = .ok (.bipush 57, 2) := by decide +kernel
theorem dX1_isDigit_9 : decode cX1_isDigit 9 = .ok (.if_icmp .gt 7, 3) := by decide +kernel
theorem dX1_isDigit_12 : decode cX1_isDigit 12 = .ok (.iconst 1, 1) := by decide +kernel
theorem dX1_isDigit_13 : decode cX1_isDigit 13 = .ok (.goto 4, 3) := by decide +kernel
theorem dX1_isDigit_16 : decode cX1_isDigit 16 = .ok (.iconst 0, 1) := by decide +kernel
theorem dX1_isDigit_17 : decode cX1_isDigit 17 = .ok (.ireturn, 1) := by decide +kernel
set_option maxRecDepth 100000 in
set_option maxHeartbeats 4000000 in
theorem c_X1_isDigit {l : Launch} {G : Gx} (hap : k_ap G shC.length) (v0 : Int32) (M0 : Mem) (r : Int32) (hf : f_X1_isDigit v0 = r) : k_Met l yX1_isDigit cX1_isDigit 1 (some .boolean) 0 0 G shC [.int v0] M0 (k_Qi G shC r M0) := by
  refine k_Met_of (by decide) hap (Nat.le_of_ble_eq_true rfl) ?_
  intro p e s m args below meth c C hr hlk
  have C : Cx p s m args c cX1_isDigit RX1 1 G shC := C
  unfold f_X1_isDigit at hf
  refine k_lv (lv' := [(0, .int v0)]) [0] rfl ?_
  refine k_iload_n C dX1_isDigit_0 0 rfl ?_
  refine k_bipush C dX1_isDigit_1 (v := (48 : Int32)) rfl ?_
  rcases ite_g hf with ⟨c1, hf⟩ | ⟨c1, hf⟩
  · refine k_icmp_lt_t C dX1_isDigit_3 (tgt := 16) (by decide) c1 ?_
    refine k_iconst C dX1_isDigit_16 (v := (0 : Int32)) rfl ?_
    exact k_zret C hr hlk (gZ0.trans (congrArg some hf)) rfl dX1_isDigit_17
  · refine k_icmp_lt_f C dX1_isDigit_3 (tgt := 16) (by decide) c1 ?_
    refine k_iload_n C dX1_isDigit_6 0 rfl ?_
    refine k_bipush C dX1_isDigit_7 (v := (57 : Int32)) rfl ?_
    rcases ite_g hf with ⟨c2, hf⟩ | ⟨c2, hf⟩
    · refine k_icmp_gt_t C dX1_isDigit_9 (tgt := 16) (by decide) c2 ?_
      refine k_iconst C dX1_isDigit_16 (v := (0 : Int32)) rfl ?_
      exact k_zret C hr hlk (gZ0.trans (congrArg some hf)) rfl dX1_isDigit_17
    · refine k_icmp_gt_f C dX1_isDigit_9 (tgt := 16) (by decide) c2 ?_
      refine k_iconst C dX1_isDigit_12 (v := (1 : Int32)) rfl ?_
      refine k_goto C dX1_isDigit_13 (tgt := 17) (by decide) ?_
      exact k_zret C hr hlk (gZ1.trans (congrArg some hf)) rfl dX1_isDigit_17
theorem dX1_firstWithoutForm_0 : decode cX1_firstWithoutForm 0 = .ok (.iconst 0, 1) := by decide +kernel
theorem dX1_firstWithoutForm_1 : decode cX1_firstWithoutForm 1 = .ok (.istore_n 1, 1) := by decide +kernel
theorem dX1_firstWithoutForm_2 : decode cX1_firstWithoutForm 2 = .ok (.aload_n 0, 1) := by decide +kernel
theorem dX1_firstWithoutForm_3 : decode cX1_firstWithoutForm 3 = .ok (.iload_n 1, 1) := by decide +kernel
theorem dX1_firstWithoutForm_4 : decode cX1_firstWithoutForm 4 = .ok (.invokevirtual 45, 3) := by decide +kernel
theorem dX1_firstWithoutForm_7 : decode cX1_firstWithoutForm 7 = .ok (.invokestatic 49, 3) := by decide +kernel
theorem dX1_firstWithoutForm_10 : decode cX1_firstWithoutForm 10 = .ok (.istore_n 2, 1) := by decide +kernel
theorem dX1_firstWithoutForm_11 : decode cX1_firstWithoutForm 11 = .ok (.iload_n 2, 1) := by decide +kernel
theorem dX1_firstWithoutForm_12 : decode cX1_firstWithoutForm 12 = .ok (.ifCond .ge 5, 3) := by decide +kernel
theorem dX1_firstWithoutForm_15 : decode cX1_firstWithoutForm 15 = .ok (.iload_n 1, 1) := by decide +kernel
theorem dX1_firstWithoutForm_16 : decode cX1_firstWithoutForm 16 = .ok (.ireturn, 1) := by decide +kernel
theorem dX1_firstWithoutForm_17 : decode cX1_firstWithoutForm 17 = .ok (.iload_n 1, 1) := by decide +kernel
theorem dX1_firstWithoutForm_18 : decode cX1_firstWithoutForm 18 = .ok (.iconst 1, 1) := by decide +kernel
theorem dX1_firstWithoutForm_19 : decode cX1_firstWithoutForm 19 = .ok (.iadd, 1) := by decide +kernel
theorem dX1_firstWithoutForm_20 : decode cX1_firstWithoutForm 20 = .ok (.iload_n 2, 1) := by decide +kernel
theorem dX1_firstWithoutForm_21 : decode cX1_firstWithoutForm 21 = .ok (.iadd, 1) := by decide +kernel
theorem dX1_firstWithoutForm_22 : decode cX1_firstWithoutForm 22 = .ok (.istore_n 3, 1) := by decide +kernel
theorem dX1_firstWithoutForm_23 : decode cX1_firstWithoutForm 23 = .ok (.iinc 1 1, 3) := by decide +kernel
theorem dX1_firstWithoutForm_26 : decode cX1_firstWithoutForm 26 = .ok (.iload_n 1, 1) := by decide +kernel
theorem dX1_firstWithoutForm_27 : decode cX1_firstWithoutForm 27 = .ok (.iload_n 3, 1) := by decide +kernel
theorem dX1_firstWithoutForm_28 : decode cX1_firstWithoutForm 28 = .ok (.if_icmp .ge 22, 3) := by decide +kernel
theorem dX1_firstWithoutForm_31 : decode cX1_firstWithoutForm 31 = .ok (.aload_n 0, 1) := by decide +kernel
theorem dX1_firstWithoutForm_32 : decode cX1_firstWithoutForm 32 = .ok (.iload_n 1, 1) := by decide +kernel
theorem dX1_firstWithoutForm_33 : decode cX1_firstWithoutForm 33 = .ok (.invokevirtual 45, 3) := by decide +kernel
theorem dX1_firstWithoutForm_36 : decode cX1_firstWithoutForm 36 = .ok (.invokestatic 52, 3) := by decide +kernel
theorem dX1_firstWithoutForm_39 : decode cX1_firstWithoutForm 39 = .ok (.ifCond .ne 5, 3) := by decide +kernel
theorem dX1_firstWithoutForm_42 : decode cX1_firstWithoutForm 42 = .ok (.iload_n 1, 1) := by decide +kernel
theorem dX1_firstWithoutForm_43 : decode cX1_firstWithoutForm 43 = .ok (.ireturn, 1) := by decide +kernel
theorem dX1_firstWithoutForm_44 : decode cX1_firstWithoutForm 44 = .ok (.iinc 1 1, 3) := by decide +kernel
theorem dX1_firstWithoutForm_47 : decode cX1_firstWithoutForm 47 = .ok (.goto (-21), 3) := by decide +kernel
theorem dX1_firstWithoutForm_50 : decode cX1_firstWithoutForm 50 = .ok (.aload_n 0, 1) := by decide +kernel
theorem dX1_firstWithoutForm_51 : decode cX1_firstWithoutForm 51 = .ok (.iload_n 1, 1) := by decide +kernel
theorem dX1_firstWithoutForm_52 : decode cX1_firstWithoutForm 52 = .ok (.invokevirtual 45, 3) := by decide +kernel
theorem dX1_firstWithoutForm_55 : decode cX1_firstWithoutForm 55 = .ok (.bipush 59, 2) := by decide +kernel
theorem dX1_firstWithoutForm_57 : decode cX1_firstWithoutForm 57 = .ok (.if_icmp .eq 5, 3) := by decide +kernel
theorem dX1_firstWithoutForm_60 : decode cX1_firstWithoutForm 60 = .ok (.iload_n 1, 1) := by decide +kernel
theorem dX1_firstWithoutForm_61 : decode cX1_firstWithoutForm 61 = .ok (.ireturn, 1) := by decide +kernel
theorem dX1_firstWithoutForm_62 : decode cX1_firstWithoutForm 62 = .ok (.iinc 1 1, 3) := by decide +kernel
theorem dX1_firstWithoutForm_65 : decode cX1_firstWithoutForm 65 = .ok (.iload_n 1, 1) := by decide +kernel
theorem dX1_firstWithoutForm_66 : decode cX1_firstWithoutForm 66 = .ok (.aload_n 0, 1) := by decide +kernel
theorem dX1_firstWithoutForm_67 : decode cX1_firstWithoutForm 67 = .ok (.getfield 22, 3) := by decide +kernel
theorem dX1_firstWithoutForm_70 : decode cX1_firstWithoutForm 70 = .ok (.if_icmp .lt (-68), 3) := by decide +kernel
theorem dX1_firstWithoutForm_73 : decode cX1_firstWithoutForm 73 = .ok (.iconst (-1), 1) := by decide +kernel
theorem dX1_firstWithoutForm_74 : decode cX1_firstWithoutForm 74 = .ok (.ireturn, 1) := by decide +kernel
set_option maxRecDepth 100000 in
set_option maxHeartbeats 4000000 in
theorem c_X1_firstWithoutForm {l : Launch} {G : Gx} (hap : k_ap G shC.length) (M0 : Mem) (r : Int32) (hf : f_X1_firstWithoutForm M0 = some r) : k_Met l yX1_firstWithoutForm cX1_firstWithoutForm 4 (some .int) 1 21 G shC [.ref (G.2.1 16)] M0 (k_Qi G shC r M0) := by
  refine k_Met_of (by decide) hap (Nat.le_of_ble_eq_true rfl) ?_
  intro p e s m args below meth c C hr hlk
  have C : Cx p s m args c cX1_firstWithoutForm RX1 4 G shC := C
  have k_b2 : ∀ (n2 : Nat) (v1 : Int32), f_X1_firstWithoutForm_b2 M0 n2 v1 = some r → K p l e (k_rm 1 21) s m args below meth c 4 G shC (MQ below (k_Qi G shC r M0) args s 0 0 (k_A G shC.length)) 2 [(0, .ref (G.2.1 16)), (1, .int v1)] [] M0 := by
    intro n2
    induction n2 with
    | zero => intro v1 hf; simp [f_X1_firstWithoutForm_b2] at hf
    | succ n2 ih2 =>
      have k_b26 : ∀ (n26 : Nat) (v1 : Int32) (v3 : Int32), f_X1_firstWithoutForm_b26 M0 (f_X1_firstWithoutForm_b2 M0 n2) n26 v1 v3 = some r → K p l e (k_rm 1 21) s m args below meth c 4 G shC (MQ below (k_Qi G shC r M0) args s 0 0 (k_A G shC.length)) 26 [(0, .ref (G.2.1 16)), (1, .int v1), (3, .int v3)] [] M0 := by
        intro n26
        induction n26 with
        | zero => intro v1 v3 hf; simp [f_X1_firstWithoutForm_b26] at hf
        | succ n26 ih26 =>
          intro v1 v3 hf
          unfold f_X1_firstWithoutForm_b26 at hf
          refine k_iload_n C dX1_firstWithoutForm_26 1 rfl ?_
          refine k_iload_n C dX1_firstWithoutForm_27 2 rfl ?_
          rcases ite_g hf with ⟨c3, hf⟩ | ⟨c3, hf⟩
          · refine k_icmp_ge_t C dX1_firstWithoutForm_28 (tgt := 50) (by decide) c3 ?_
            refine k_aload_n C dX1_firstWithoutForm_50 0 rfl ?_
            refine k_iload_n C dX1_firstWithoutForm_51 1 rfl ?_
            obtain ⟨t4, ht4, hf⟩ := bnd hf
            refine k_callVi C (As := [.int v1]) (c_X1_letterAt hap v1 M0 t4 ht4) ML_X1_letterAt wd_445 shC_16 rfl rfl rfl ⟨Nat.le_of_ble_eq_true rfl, Nat.le_of_ble_eq_true rfl⟩ (Nat.le_of_ble_eq_true rfl) dX1_firstWithoutForm_52 ?_
            refine k_bipush C dX1_firstWithoutForm_55 (v := (59 : Int32)) rfl ?_
            rcases ite_g hf with ⟨c5, hf⟩ | ⟨c5, hf⟩
            · refine k_icmp_eq_t C dX1_firstWithoutForm_57 (tgt := 62) (by decide) c5 ?_
              refine k_iinc C dX1_firstWithoutForm_62 1 rfl (v := (v1 + (1 : Int32))) rfl (by decide) [1, 0] (lv' := [(0, .ref (G.2.1 16)), (1, .int (v1 + (1 : Int32)))]) rfl ?_
              refine k_iload_n C dX1_firstWithoutForm_65 1 rfl ?_
              refine k_aload_n C dX1_firstWithoutForm_66 0 rfl ?_
              refine k_geti C shC_16 (j := 2) rfl FL_X1_22 dX1_firstWithoutForm_67 ?_
              rcases ite_g hf with ⟨c6, hf⟩ | ⟨c6, hf⟩
              · refine k_icmp_lt_t C dX1_firstWithoutForm_70 (tgt := 2) (by decide) c6 ?_
                exact ih2 (v1 + (1 : Int32)) hf
              · refine k_icmp_lt_f C dX1_firstWithoutForm_70 (tgt := 2) (by decide) c6 ?_
                refine k_iconst C dX1_firstWithoutForm_73 (v := (-1 : Int32)) rfl ?_
                exact k_iret C hr hlk (Option.some.inj hf) rfl dX1_firstWithoutForm_74
            · refine k_icmp_eq_f C dX1_firstWithoutForm_57 (tgt := 62) (by decide) c5 ?_
              refine k_iload_n C dX1_firstWithoutForm_60 1 rfl ?_
              exact k_iret C hr hlk (Option.some.inj hf) rfl dX1_firstWithoutForm_61
          · refine k_icmp_ge_f C dX1_firstWithoutForm_28 (tgt := 50) (by decide) c3 ?_
            refine k_aload_n C dX1_firstWithoutForm_31 0 rfl ?_
            refine k_iload_n C dX1_firstWithoutForm_32 1 rfl ?_
            obtain ⟨t7, ht7, hf⟩ := bnd hf
            refine k_callVi C (As := [.int v1]) (c_X1_letterAt hap v1 M0 t7 ht7) ML_X1_letterAt wd_445 shC_16 rfl rfl rfl ⟨Nat.le_of_ble_eq_true rfl, Nat.le_of_ble_eq_true rfl⟩ (Nat.le_of_ble_eq_true rfl) dX1_firstWithoutForm_33 ?_
            refine k_callSi C (As := [.int t7]) (c_X1_isDigit hap t7 M0 _ rfl) MS_X1_isDigit wd_452 rfl rfl ⟨Nat.le_of_ble_eq_true rfl, Nat.le_of_ble_eq_true rfl⟩ (Nat.le_of_ble_eq_true rfl) dX1_firstWithoutForm_36 ?_
            rcases ite_g hf with ⟨c8, hf⟩ | ⟨c8, hf⟩
            · refine k_if_ne_f C dX1_firstWithoutForm_39 (tgt := 44) (by decide) c8 ?_
              refine k_iload_n C dX1_firstWithoutForm_42 1 rfl ?_
              exact k_iret C hr hlk (Option.some.inj hf) rfl dX1_firstWithoutForm_43
            · refine k_if_ne_t C dX1_firstWithoutForm_39 (tgt := 44) (by decide) c8 ?_
              refine k_iinc C dX1_firstWithoutForm_44 1 rfl (v := (v1 + (1 : Int32))) rfl (by decide) [1, 0, 2] (lv' := [(0, .ref (G.2.1 16)), (1, .int (v1 + (1 : Int32))), (3, .int v3)]) rfl ?_
              refine k_goto C dX1_firstWithoutForm_47 (tgt := 26) (by decide) ?_
              exact ih26 (v1 + (1 : Int32)) v3 hf
      intro v1 hf
      unfold f_X1_firstWithoutForm_b2 at hf
      refine k_aload_n C dX1_firstWithoutForm_2 0 rfl ?_
      refine k_iload_n C dX1_firstWithoutForm_3 1 rfl ?_
      obtain ⟨t1, ht1, hf⟩ := bnd hf
      refine k_callVi C (As := [.int v1]) (c_X1_letterAt hap v1 M0 t1 ht1) ML_X1_letterAt wd_445 shC_16 rfl rfl rfl ⟨Nat.le_of_ble_eq_true rfl, Nat.le_of_ble_eq_true rfl⟩ (Nat.le_of_ble_eq_true rfl) dX1_firstWithoutForm_4 ?_
      refine k_callSi C (As := [.int t1]) (c_X1_digitsBehind hap t1 M0 _ rfl) MS_X1_digitsBehind wd_449 rfl rfl ⟨Nat.le_of_ble_eq_true rfl, Nat.le_of_ble_eq_true rfl⟩ (Nat.le_of_ble_eq_true rfl) dX1_firstWithoutForm_7 ?_
      refine k_istore_n C dX1_firstWithoutForm_10 (by decide) [1, 2, 0] (lv' := [(0, .ref (G.2.1 16)), (1, .int v1), (2, .int (f_X1_digitsBehind t1))]) rfl ?_
      refine k_iload_n C dX1_firstWithoutForm_11 2 rfl ?_
      rcases ite_g hf with ⟨c2, hf⟩ | ⟨c2, hf⟩
      · refine k_if_ge_t C dX1_firstWithoutForm_12 (tgt := 17) (by decide) c2 ?_
        refine k_iload_n C dX1_firstWithoutForm_17 1 rfl ?_
        refine k_iconst C dX1_firstWithoutForm_18 (v := (1 : Int32)) rfl ?_
        refine k_iadd C dX1_firstWithoutForm_19 ?_
        refine k_iload_n C dX1_firstWithoutForm_20 2 rfl ?_
        refine k_iadd C dX1_firstWithoutForm_21 ?_
        refine k_istore_n C dX1_firstWithoutForm_22 (by decide) [1, 2, 0] (lv' := [(0, .ref (G.2.1 16)), (1, .int v1), (3, .int ((v1 + (1 : Int32)) + (f_X1_digitsBehind t1)))]) rfl ?_
        refine k_iinc C dX1_firstWithoutForm_23 1 rfl (v := (v1 + (1 : Int32))) rfl (by decide) [1, 0, 2] (lv' := [(0, .ref (G.2.1 16)), (1, .int (v1 + (1 : Int32))), (3, .int ((v1 + (1 : Int32)) + (f_X1_digitsBehind t1)))]) rfl ?_
        exact k_b26 FU (v1 + (1 : Int32)) ((v1 + (1 : Int32)) + (f_X1_digitsBehind t1)) hf
      · refine k_if_ge_f C dX1_firstWithoutForm_12 (tgt := 17) (by decide) c2 ?_
        refine k_iload_n C dX1_firstWithoutForm_15 1 rfl ?_
        exact k_iret C hr hlk (Option.some.inj hf) rfl dX1_firstWithoutForm_16
  unfold f_X1_firstWithoutForm at hf
  refine k_lv (lv' := [(0, .ref (G.2.1 16))]) [0] rfl ?_
  refine k_iconst C dX1_firstWithoutForm_0 (v := (0 : Int32)) rfl ?_
  refine k_istore_n C dX1_firstWithoutForm_1 (by decide) [1, 0] (lv' := [(0, .ref (G.2.1 16)), (1, .int (0 : Int32))]) rfl ?_
  exact k_b2 FU (0 : Int32) hf
theorem dX1_beginsStatement_0 : decode cX1_beginsStatement 0 = .ok (.iload_n 1, 1) := by decide +kernel
theorem dX1_beginsStatement_1 : decode cX1_beginsStatement 1 = .ok (.ifCond .eq 15, 3) := by decide +kernel
theorem dX1_beginsStatement_4 : decode cX1_beginsStatement 4 = .ok (.aload_n 0, 1) := by decide +kernel
theorem dX1_beginsStatement_5 : decode cX1_beginsStatement 5 = .ok (.iload_n 1, 1) := by decide +kernel
theorem dX1_beginsStatement_6 : decode cX1_beginsStatement 6 = .ok (.iconst 1, 1) := by decide +kernel
theorem dX1_beginsStatement_7 : decode cX1_beginsStatement 7 = .ok (.isub, 1) := by decide +kernel
theorem dX1_beginsStatement_8 : decode cX1_beginsStatement 8 = .ok (.invokevirtual 45, 3) := by decide +kernel
theorem dX1_beginsStatement_11 : decode cX1_beginsStatement 11 = .ok (.bipush 59, 2) := by decide +kernel
theorem dX1_beginsStatement_13 : decode cX1_beginsStatement 13 = .ok (.if_icmp .ne 7, 3) := by decide +kernel
theorem dX1_beginsStatement_16 : decode cX1_beginsStatement 16 = .ok (.iconst 1, 1) := by decide +kernel
theorem dX1_beginsStatement_17 : decode cX1_beginsStatement 17 = .ok (.goto 4, 3) := by decide +kernel
theorem dX1_beginsStatement_20 : decode cX1_beginsStatement 20 = .ok (.iconst 0, 1) := by decide +kernel
theorem dX1_beginsStatement_21 : decode cX1_beginsStatement 21 = .ok (.ireturn, 1) := by decide +kernel
set_option maxRecDepth 100000 in
set_option maxHeartbeats 4000000 in
theorem c_X1_beginsStatement {l : Launch} {G : Gx} (hap : k_ap G shC.length) (v1 : Int32) (M0 : Mem) (r : Int32) (hf : f_X1_beginsStatement v1 M0 = some r) : k_Met l yX1_beginsStatement cX1_beginsStatement 2 (some .boolean) 1 21 G shC [.ref (G.2.1 16), .int v1] M0 (k_Qi G shC r M0) := by
  refine k_Met_of (by decide) hap (Nat.le_of_ble_eq_true rfl) ?_
  intro p e s m args below meth c C hr hlk
  have C : Cx p s m args c cX1_beginsStatement RX1 2 G shC := C
  unfold f_X1_beginsStatement at hf
  refine k_lv (lv' := [(0, .ref (G.2.1 16)), (1, .int v1)]) [0, 1] rfl ?_
  refine k_iload_n C dX1_beginsStatement_0 1 rfl ?_
  rcases ite_g hf with ⟨c1, hf⟩ | ⟨c1, hf⟩
  · refine k_if_eq_t C dX1_beginsStatement_1 (tgt := 16) (by decide) c1 ?_
    refine k_iconst C dX1_beginsStatement_16 (v := (1 : Int32)) rfl ?_
    refine k_goto C dX1_beginsStatement_17 (tgt := 21) (by decide) ?_
    exact k_zret C hr hlk (gZ1.trans (congrArg some (Option.some.inj hf))) rfl dX1_beginsStatement_21
  · refine k_if_eq_f C dX1_beginsStatement_1 (tgt := 16) (by decide) c1 ?_
    refine k_aload_n C dX1_beginsStatement_4 0 rfl ?_
    refine k_iload_n C dX1_beginsStatement_5 1 rfl ?_
    refine k_iconst C dX1_beginsStatement_6 (v := (1 : Int32)) rfl ?_
    refine k_isub C dX1_beginsStatement_7 ?_
    obtain ⟨t2, ht2, hf⟩ := bnd hf
    refine k_callVi C (As := [.int (v1 - (1 : Int32))]) (c_X1_letterAt hap (v1 - (1 : Int32)) M0 t2 ht2) ML_X1_letterAt wd_445 shC_16 rfl rfl rfl ⟨Nat.le_of_ble_eq_true rfl, Nat.le_of_ble_eq_true rfl⟩ (Nat.le_of_ble_eq_true rfl) dX1_beginsStatement_8 ?_
    refine k_bipush C dX1_beginsStatement_11 (v := (59 : Int32)) rfl ?_
    rcases ite_g hf with ⟨c3, hf⟩ | ⟨c3, hf⟩
    · refine k_icmp_ne_f C dX1_beginsStatement_13 (tgt := 20) (by decide) c3 ?_
      refine k_iconst C dX1_beginsStatement_16 (v := (1 : Int32)) rfl ?_
      refine k_goto C dX1_beginsStatement_17 (tgt := 21) (by decide) ?_
      exact k_zret C hr hlk (gZ1.trans (congrArg some (Option.some.inj hf))) rfl dX1_beginsStatement_21
    · refine k_icmp_ne_t C dX1_beginsStatement_13 (tgt := 20) (by decide) c3 ?_
      refine k_iconst C dX1_beginsStatement_20 (v := (0 : Int32)) rfl ?_
      exact k_zret C hr hlk (gZ0.trans (congrArg some (Option.some.inj hf))) rfl dX1_beginsStatement_21
theorem dX1_digitAt_0 : decode cX1_digitAt 0 = .ok (.aload_n 0, 1) := by decide +kernel
theorem dX1_digitAt_1 : decode cX1_digitAt 1 = .ok (.iload_n 1, 1) := by decide +kernel
theorem dX1_digitAt_2 : decode cX1_digitAt 2 = .ok (.invokevirtual 45, 3) := by decide +kernel
theorem dX1_digitAt_5 : decode cX1_digitAt 5 = .ok (.istore_n 2, 1) := by decide +kernel
theorem dX1_digitAt_6 : decode cX1_digitAt 6 = .ok (.iload_n 2, 1) := by decide +kernel
theorem dX1_digitAt_7 : decode cX1_digitAt 7 = .ok (.invokestatic 52, 3) := by decide +kernel
theorem dX1_digitAt_10 : decode cX1_digitAt 10 = .ok (.ifCond .eq 10, 3) := by decide +kernel
theorem dX1_digitAt_13 : decode cX1_digitAt 13 = .ok (.iload_n 2, 1) := by decide +kernel
theorem dX1_digitAt_14 : decode cX1_digitAt 14 = .ok (.bipush 48, 2) := by decide +kernel
theorem dX1_digitAt_16 : decode cX1_digitAt 16 = .ok (.isub, 1) := by decide +kernel
theorem dX1_digitAt_17 : decode cX1_digitAt 17 = .ok (.goto 4, 3) := by decide +kernel
theorem dX1_digitAt_20 : decode cX1_digitAt 20 = .ok (.iconst 0, 1) := by decide +kernel
theorem dX1_digitAt_21 : decode cX1_digitAt 21 = .ok (.ireturn, 1) := by decide +kernel
set_option maxRecDepth 100000 in
set_option maxHeartbeats 4000000 in
theorem c_X1_digitAt {l : Launch} {G : Gx} (hap : k_ap G shC.length) (v1 : Int32) (M0 : Mem) (r : Int32) (hf : f_X1_digitAt v1 M0 = some r) : k_Met l yX1_digitAt cX1_digitAt 3 (some .int) 1 21 G shC [.ref (G.2.1 16), .int v1] M0 (k_Qi G shC r M0) := by
  refine k_Met_of (by decide) hap (Nat.le_of_ble_eq_true rfl) ?_
  intro p e s m args below meth c C hr hlk
  have C : Cx p s m args c cX1_digitAt RX1 3 G shC := C
  unfold f_X1_digitAt at hf
  refine k_lv (lv' := [(0, .ref (G.2.1 16)), (1, .int v1)]) [0, 1] rfl ?_
  refine k_aload_n C dX1_digitAt_0 0 rfl ?_
  refine k_iload_n C dX1_digitAt_1 1 rfl ?_
  obtain ⟨t1, ht1, hf⟩ := bnd hf
  refine k_callVi C (As := [.int v1]) (c_X1_letterAt hap v1 M0 t1 ht1) ML_X1_letterAt wd_445 shC_16 rfl rfl rfl ⟨Nat.le_of_ble_eq_true rfl, Nat.le_of_ble_eq_true rfl⟩ (Nat.le_of_ble_eq_true rfl) dX1_digitAt_2 ?_
  refine k_istore_n C dX1_digitAt_5 (by decide) [0] (lv' := [(2, .int t1)]) rfl ?_
  refine k_iload_n C dX1_digitAt_6 0 rfl ?_
  refine k_callSi C (As := [.int t1]) (c_X1_isDigit hap t1 M0 _ rfl) MS_X1_isDigit wd_452 rfl rfl ⟨Nat.le_of_ble_eq_true rfl, Nat.le_of_ble_eq_true rfl⟩ (Nat.le_of_ble_eq_true rfl) dX1_digitAt_7 ?_
  rcases ite_g hf with ⟨c2, hf⟩ | ⟨c2, hf⟩
  · refine k_if_eq_t C dX1_digitAt_10 (tgt := 20) (by decide) c2 ?_
    refine k_iconst C dX1_digitAt_20 (v := (0 : Int32)) rfl ?_
    exact k_iret C hr hlk (Option.some.inj hf) rfl dX1_digitAt_21
  · refine k_if_eq_f C dX1_digitAt_10 (tgt := 20) (by decide) c2 ?_
    refine k_iload_n C dX1_digitAt_13 0 rfl ?_
    refine k_bipush C dX1_digitAt_14 (v := (48 : Int32)) rfl ?_
    refine k_isub C dX1_digitAt_16 ?_
    refine k_goto C dX1_digitAt_17 (tgt := 21) (by decide) ?_
    exact k_iret C hr hlk (Option.some.inj hf) rfl dX1_digitAt_21
theorem dX11_isKind_0 : decode cX11_isKind 0 = .ok (.iload_n 0, 1) := by decide +kernel
theorem dX11_isKind_1 : decode cX11_isKind 1 = .ok (.ifCond .lt 13, 3) := by decide +kernel
theorem dX11_isKind_4 : decode cX11_isKind 4 = .ok (.iload_n 0, 1) := by decide +kernel
theorem dX11_isKind_5 : decode cX11_isKind 5 = .ok (.bipush 6, 2) := by decide +kernel
theorem dX11_isKind_7 : decode cX11_isKind 7 = .ok (.if_icmp .ge 7, 3) := by decide +kernel
theorem dX11_isKind_10 : decode cX11_isKind 10 = .ok (.iconst 1, 1) := by decide +kernel
theorem dX11_isKind_11 : decode cX11_isKind 11 = .ok (.goto 4, 3) := by decide +kernel
theorem dX11_isKind_14 : decode cX11_isKind 14 = .ok (.iconst 0, 1) := by decide +kernel
theorem dX11_isKind_15 : decode cX11_isKind 15 = .ok (.ireturn, 1) := by decide +kernel
set_option maxRecDepth 100000 in
set_option maxHeartbeats 4000000 in
theorem c_X11_isKind {l : Launch} {G : Gx} (hap : k_ap G shC.length) (v0 : Int32) (M0 : Mem) (r : Int32) (hf : f_X11_isKind v0 = r) : k_Met l yX11_isKind cX11_isKind 1 (some .boolean) 0 0 G shC [.int v0] M0 (k_Qi G shC r M0) := by
  refine k_Met_of (by decide) hap (Nat.le_of_ble_eq_true rfl) ?_
  intro p e s m args below meth c C hr hlk
  have C : Cx p s m args c cX11_isKind RX11 1 G shC := C
  unfold f_X11_isKind at hf
  refine k_lv (lv' := [(0, .int v0)]) [0] rfl ?_
  refine k_iload_n C dX11_isKind_0 0 rfl ?_
  rcases ite_g hf with ⟨c1, hf⟩ | ⟨c1, hf⟩
  · refine k_if_lt_t C dX11_isKind_1 (tgt := 14) (by decide) c1 ?_
    refine k_iconst C dX11_isKind_14 (v := (0 : Int32)) rfl ?_
    exact k_zret C hr hlk (gZ0.trans (congrArg some hf)) rfl dX11_isKind_15
  · refine k_if_lt_f C dX11_isKind_1 (tgt := 14) (by decide) c1 ?_
    refine k_iload_n C dX11_isKind_4 0 rfl ?_
    refine k_bipush C dX11_isKind_5 (v := (6 : Int32)) rfl ?_
    rcases ite_g hf with ⟨c2, hf⟩ | ⟨c2, hf⟩
    · refine k_icmp_ge_t C dX11_isKind_7 (tgt := 14) (by decide) c2 ?_
      refine k_iconst C dX11_isKind_14 (v := (0 : Int32)) rfl ?_
      exact k_zret C hr hlk (gZ0.trans (congrArg some hf)) rfl dX11_isKind_15
    · refine k_icmp_ge_f C dX11_isKind_7 (tgt := 14) (by decide) c2 ?_
      refine k_iconst C dX11_isKind_10 (v := (1 : Int32)) rfl ?_
      refine k_goto C dX11_isKind_11 (tgt := 15) (by decide) ?_
      exact k_zret C hr hlk (gZ1.trans (congrArg some hf)) rfl dX11_isKind_15
theorem dX1_comesDoing_0 : decode cX1_comesDoing 0 = .ok (.iload_n 1, 1) := by decide +kernel
theorem dX1_comesDoing_1 : decode cX1_comesDoing 1 = .ok (.invokestatic 75, 3) := by decide +kernel
theorem dX1_comesDoing_4 : decode cX1_comesDoing 4 = .ok (.ifCond .eq 20, 3) := by decide +kernel
theorem dX1_comesDoing_7 : decode cX1_comesDoing 7 = .ok (.iload_n 3, 1) := by decide +kernel
theorem dX1_comesDoing_8 : decode cX1_comesDoing 8 = .ok (.sipush 255, 3) := by decide +kernel
theorem dX1_comesDoing_11 : decode cX1_comesDoing 11 = .ok (.if_icmp .gt 13, 3) := by decide +kernel
theorem dX1_comesDoing_14 : decode cX1_comesDoing 14 = .ok (.aload_n 0, 1) := by decide +kernel
theorem dX1_comesDoing_15 : decode cX1_comesDoing 15 = .ok (.getfield 18, 3) := by decide +kernel
theorem dX1_comesDoing_18 : decode cX1_comesDoing 18 = .ok (.invokevirtual 78, 3) := by decide +kernel
theorem dX1_comesDoing_21 : decode cX1_comesDoing 21 = .ok (.ifCond .ne 5, 3) := by decide +kernel
theorem dX1_comesDoing_24 : decode cX1_comesDoing 24 = .ok (.iconst 0, 1) := by decide +kernel
theorem dX1_comesDoing_25 : decode cX1_comesDoing 25 = .ok (.ireturn, 1) := by decide +kernel
theorem dX1_comesDoing_26 : decode cX1_comesDoing 26 = .ok (.aload_n 0, 1) := by decide +kernel
theorem dX1_comesDoing_27 : decode cX1_comesDoing 27 = .ok (.getfield 18, 3) := by decide +kernel
theorem dX1_comesDoing_30 : decode cX1_comesDoing 30 = .ok (.iload_n 1, 1) := by decide +kernel
theorem dX1_comesDoing_31 : decode cX1_comesDoing 31 = .ok (.iload_n 2, 1) := by decide +kernel
theorem dX1_comesDoing_32 : decode cX1_comesDoing 32 = .ok (.iload_n 3, 1) := by decide +kernel
theorem dX1_comesDoing_33 : decode cX1_comesDoing 33 = .ok (.invokevirtual 82, 3) := by decide +kernel
theorem dX1_comesDoing_36 : decode cX1_comesDoing 36 = .ok (.pop, 1) := by decide +kernel
theorem dX1_comesDoing_37 : decode cX1_comesDoing 37 = .ok (.iconst 1, 1) := by decide +kernel
theorem dX1_comesDoing_38 : decode cX1_comesDoing 38 = .ok (.ireturn, 1) := by decide +kernel
set_option maxRecDepth 100000 in
set_option maxHeartbeats 4000000 in
theorem c_X1_comesDoing {l : Launch} {G : Gx} (hap : k_ap G shC.length) (v1 : Int32) (v2 : Int32) (v3 : Int32) (M0 : Mem) (r : Int32 × Mem) (hf : f_X1_comesDoing v1 v2 v3 M0 = some r) : k_Met l yX1_comesDoing cX1_comesDoing 4 (some .boolean) 2 47 G shC [.ref (G.2.1 16), .int v1, .int v2, .int v3] M0 (k_Qi G shC r.1 r.2) := by
  refine k_Met_of (by decide) hap (Nat.le_of_ble_eq_true rfl) ?_
  intro p e s m args below meth c C hr hlk
  have C : Cx p s m args c cX1_comesDoing RX1 4 G shC := C
  unfold f_X1_comesDoing at hf
  refine k_lv (lv' := [(0, .ref (G.2.1 16)), (1, .int v1), (2, .int v2), (3, .int v3)]) [0, 1, 2, 3] rfl ?_
  refine k_iload_n C dX1_comesDoing_0 1 rfl ?_
  refine k_callNi C (As := [.int v1]) (c_X11_isKind hap v1 M0 _ rfl) MS_X11_isKind (by decide) rfl rfl rfl ⟨Nat.le_of_ble_eq_true rfl, Nat.le_of_ble_eq_true rfl⟩ (Nat.le_of_ble_eq_true rfl) dX1_comesDoing_1 ?_
  rcases ite_g hf with ⟨c1, hf⟩ | ⟨c1, hf⟩
  · refine k_if_eq_t C dX1_comesDoing_4 (tgt := 24) (by decide) c1 ?_
    refine k_iconst C dX1_comesDoing_24 (v := (0 : Int32)) rfl ?_
    exact k_zret C hr hlk (gZ0.trans (congrArg some (prf hf))) (prs hf) dX1_comesDoing_25
  · refine k_if_eq_f C dX1_comesDoing_4 (tgt := 24) (by decide) c1 ?_
    refine k_iload_n C dX1_comesDoing_7 3 rfl ?_
    refine k_sipush C dX1_comesDoing_8 (v := (255 : Int32)) rfl ?_
    rcases ite_g hf with ⟨c2, hf⟩ | ⟨c2, hf⟩
    · refine k_icmp_gt_t C dX1_comesDoing_11 (tgt := 24) (by decide) c2 ?_
      refine k_iconst C dX1_comesDoing_24 (v := (0 : Int32)) rfl ?_
      exact k_zret C hr hlk (gZ0.trans (congrArg some (prf hf))) (prs hf) dX1_comesDoing_25
    · refine k_icmp_gt_f C dX1_comesDoing_11 (tgt := 24) (by decide) c2 ?_
      refine k_aload_n C dX1_comesDoing_14 0 rfl ?_
      refine k_getr C shC_16 (j := 1) rfl FL_X1_18 dX1_comesDoing_15 ?_
      refine k_callVi C (As := []) (c_X0_hasRoomForDoing hap 18 BD_18 M0 _ rfl) ML_X0_hasRoomForDoing wd_485 shC_18 rfl rfl rfl ⟨Nat.le_of_ble_eq_true rfl, Nat.le_of_ble_eq_true rfl⟩ (Nat.le_of_ble_eq_true rfl) dX1_comesDoing_18 ?_
      rcases ite_g hf with ⟨c3, hf⟩ | ⟨c3, hf⟩
      · refine k_if_ne_f C dX1_comesDoing_21 (tgt := 26) (by decide) c3 ?_
        refine k_iconst C dX1_comesDoing_24 (v := (0 : Int32)) rfl ?_
        exact k_zret C hr hlk (gZ0.trans (congrArg some (prf hf))) (prs hf) dX1_comesDoing_25
      · refine k_if_ne_t C dX1_comesDoing_21 (tgt := 26) (by decide) c3 ?_
        refine k_aload_n C dX1_comesDoing_26 0 rfl ?_
        refine k_getr C shC_16 (j := 1) rfl FL_X1_18 dX1_comesDoing_27 ?_
        refine k_iload_n C dX1_comesDoing_30 1 rfl ?_
        refine k_iload_n C dX1_comesDoing_31 2 rfl ?_
        refine k_iload_n C dX1_comesDoing_32 3 rfl ?_
        obtain ⟨⟨t4, M4⟩, ht4, hf⟩ := bnd hf
        replace hf := bp_s hf
        refine k_callVi C (As := [.int v1, .int v2, .int v3]) (c_X0_addDoing hap 18 BD_18 v1 v2 v3 M0 (t4, M4) ht4) ML_X0_addDoing wd_489 shC_18 rfl rfl rfl ⟨Nat.le_of_ble_eq_true rfl, Nat.le_of_ble_eq_true rfl⟩ (Nat.le_of_ble_eq_true rfl) dX1_comesDoing_33 ?_
        refine k_pop C dX1_comesDoing_36 rfl ?_
        refine k_iconst C dX1_comesDoing_37 (v := (1 : Int32)) rfl ?_
        exact k_zret C hr hlk (gZ1.trans (congrArg some (prf hf))) (prs hf) dX1_comesDoing_38
theorem dX1_comesDone_0 : decode cX1_comesDone 0 = .ok (.aload_n 0, 1) := by decide +kernel
theorem dX1_comesDone_1 : decode cX1_comesDone 1 = .ok (.getfield 18, 3) := by decide +kernel
theorem dX1_comesDone_4 : decode cX1_comesDone 4 = .ok (.iload_n 1, 1) := by decide +kernel
theorem dX1_comesDone_5 : decode cX1_comesDone 5 = .ok (.invokevirtual 86, 3) := by decide +kernel
theorem dX1_comesDone_8 : decode cX1_comesDone 8 = .ok (.ifCond .eq 13, 3) := by decide +kernel
theorem dX1_comesDone_11 : decode cX1_comesDone 11 = .ok (.aload_n 0, 1) := by decide +kernel
theorem dX1_comesDone_12 : decode cX1_comesDone 12 = .ok (.getfield 18, 3) := by decide +kernel
theorem dX1_comesDone_15 : decode cX1_comesDone 15 = .ok (.invokevirtual 89, 3) := by decide +kernel
theorem dX1_comesDone_18 : decode cX1_comesDone 18 = .ok (.ifCond .ne 5, 3) := by decide +kernel
theorem dX1_comesDone_21 : decode cX1_comesDone 21 = .ok (.iconst 0, 1) := by decide +kernel
theorem dX1_comesDone_22 : decode cX1_comesDone 22 = .ok (.ireturn, 1) := by decide +kernel
theorem dX1_comesDone_23 : decode cX1_comesDone 23 = .ok (.aload_n 0, 1) := by decide +kernel
theorem dX1_comesDone_24 : decode cX1_comesDone 24 = .ok (.getfield 18, 3) := by decide +kernel
theorem dX1_comesDone_27 : decode cX1_comesDone 27 = .ok (.iload_n 1, 1) := by decide +kernel
theorem dX1_comesDone_28 : decode cX1_comesDone 28 = .ok (.invokevirtual 92, 3) := by decide +kernel
theorem dX1_comesDone_31 : decode cX1_comesDone 31 = .ok (.iconst 1, 1) := by decide +kernel
theorem dX1_comesDone_32 : decode cX1_comesDone 32 = .ok (.ireturn, 1) := by decide +kernel
set_option maxRecDepth 100000 in
set_option maxHeartbeats 4000000 in
theorem c_X1_comesDone {l : Launch} {G : Gx} (hap : k_ap G shC.length) (v1 : Int32) (M0 : Mem) (r : Int32 × Mem) (hf : f_X1_comesDone v1 M0 = some r) : k_Met l yX1_comesDone cX1_comesDone 2 (some .boolean) 2 41 G shC [.ref (G.2.1 16), .int v1] M0 (k_Qi G shC r.1 r.2) := by
  refine k_Met_of (by decide) hap (Nat.le_of_ble_eq_true rfl) ?_
  intro p e s m args below meth c C hr hlk
  have C : Cx p s m args c cX1_comesDone RX1 2 G shC := C
  unfold f_X1_comesDone at hf
  refine k_lv (lv' := [(0, .ref (G.2.1 16)), (1, .int v1)]) [0, 1] rfl ?_
  refine k_aload_n C dX1_comesDone_0 0 rfl ?_
  refine k_getr C shC_16 (j := 1) rfl FL_X1_18 dX1_comesDone_1 ?_
  refine k_iload_n C dX1_comesDone_4 1 rfl ?_
  refine k_callVi C (As := [.int v1]) (c_X0_hasDoing hap 18 BD_18 v1 M0 _ rfl) ML_X0_hasDoing wd_502 shC_18 rfl rfl rfl ⟨Nat.le_of_ble_eq_true rfl, Nat.le_of_ble_eq_true rfl⟩ (Nat.le_of_ble_eq_true rfl) dX1_comesDone_5 ?_
  rcases ite_g hf with ⟨c1, hf⟩ | ⟨c1, hf⟩
  · refine k_if_eq_t C dX1_comesDone_8 (tgt := 21) (by decide) c1 ?_
    refine k_iconst C dX1_comesDone_21 (v := (0 : Int32)) rfl ?_
    exact k_zret C hr hlk (gZ0.trans (congrArg some (prf hf))) (prs hf) dX1_comesDone_22
  · refine k_if_eq_f C dX1_comesDone_8 (tgt := 21) (by decide) c1 ?_
    refine k_aload_n C dX1_comesDone_11 0 rfl ?_
    refine k_getr C shC_16 (j := 1) rfl FL_X1_18 dX1_comesDone_12 ?_
    refine k_callVi C (As := []) (c_X0_hasRoomForPlace hap 18 BD_18 M0 _ rfl) ML_X0_hasRoomForPlace wd_506 shC_18 rfl rfl rfl ⟨Nat.le_of_ble_eq_true rfl, Nat.le_of_ble_eq_true rfl⟩ (Nat.le_of_ble_eq_true rfl) dX1_comesDone_15 ?_
    rcases ite_g hf with ⟨c2, hf⟩ | ⟨c2, hf⟩
    · refine k_if_ne_f C dX1_comesDone_18 (tgt := 23) (by decide) c2 ?_
      refine k_iconst C dX1_comesDone_21 (v := (0 : Int32)) rfl ?_
      exact k_zret C hr hlk (gZ0.trans (congrArg some (prf hf))) (prs hf) dX1_comesDone_22
    · refine k_if_ne_t C dX1_comesDone_18 (tgt := 23) (by decide) c2 ?_
      refine k_aload_n C dX1_comesDone_23 0 rfl ?_
      refine k_getr C shC_16 (j := 1) rfl FL_X1_18 dX1_comesDone_24 ?_
      refine k_iload_n C dX1_comesDone_27 1 rfl ?_
      obtain ⟨M3, hM3, hf⟩ := bnd hf
      refine k_callVv C (As := [.int v1]) (c_X0_addPlace hap 18 BD_18 v1 M0 M3 hM3) ML_X0_addPlace wd_510 shC_18 rfl rfl rfl ⟨Nat.le_of_ble_eq_true rfl, Nat.le_of_ble_eq_true rfl⟩ (Nat.le_of_ble_eq_true rfl) dX1_comesDone_28 ?_
      refine k_iconst C dX1_comesDone_31 (v := (1 : Int32)) rfl ?_
      exact k_zret C hr hlk (gZ1.trans (congrArg some (prf hf))) (prs hf) dX1_comesDone_32
theorem dX11_isType_0 : decode cX11_isType 0 = .ok (.iload_n 0, 1) := by decide +kernel
theorem dX11_isType_1 : decode cX11_isType 1 = .ok (.ifCond .lt 12, 3) := by decide +kernel
theorem dX11_isType_4 : decode cX11_isType 4 = .ok (.iload_n 0, 1) := by decide +kernel
theorem dX11_isType_5 : decode cX11_isType 5 = .ok (.iconst 4, 1) := by decide +kernel
theorem dX11_isType_6 : decode cX11_isType 6 = .ok (.if_icmp .ge 7, 3) := by decide +kernel
theorem dX11_isType_9 : decode cX11_isType 9 = .ok (.iconst 1, 1) := by decide +kernel
theorem dX11_isType_10 : decode cX11_isType 10 = .ok (.goto 4, 3) := by decide +kernel
theorem dX11_isType_13 : decode cX11_isType 13 = .ok (.iconst 0, 1) := by decide +kernel
theorem dX11_isType_14 : decode cX11_isType 14 = .ok (.ireturn, 1) := by decide +kernel
set_option maxRecDepth 100000 in
set_option maxHeartbeats 4000000 in
theorem c_X11_isType {l : Launch} {G : Gx} (hap : k_ap G shC.length) (v0 : Int32) (M0 : Mem) (r : Int32) (hf : f_X11_isType v0 = r) : k_Met l yX11_isType cX11_isType 1 (some .boolean) 0 0 G shC [.int v0] M0 (k_Qi G shC r M0) := by
  refine k_Met_of (by decide) hap (Nat.le_of_ble_eq_true rfl) ?_
  intro p e s m args below meth c C hr hlk
  have C : Cx p s m args c cX11_isType RX11 1 G shC := C
  unfold f_X11_isType at hf
  refine k_lv (lv' := [(0, .int v0)]) [0] rfl ?_
  refine k_iload_n C dX11_isType_0 0 rfl ?_
  rcases ite_g hf with ⟨c1, hf⟩ | ⟨c1, hf⟩
  · refine k_if_lt_t C dX11_isType_1 (tgt := 13) (by decide) c1 ?_
    refine k_iconst C dX11_isType_13 (v := (0 : Int32)) rfl ?_
    exact k_zret C hr hlk (gZ0.trans (congrArg some hf)) rfl dX11_isType_14
  · refine k_if_lt_f C dX11_isType_1 (tgt := 13) (by decide) c1 ?_
    refine k_iload_n C dX11_isType_4 0 rfl ?_
    refine k_iconst C dX11_isType_5 (v := (4 : Int32)) rfl ?_
    rcases ite_g hf with ⟨c2, hf⟩ | ⟨c2, hf⟩
    · refine k_icmp_ge_t C dX11_isType_6 (tgt := 13) (by decide) c2 ?_
      refine k_iconst C dX11_isType_13 (v := (0 : Int32)) rfl ?_
      exact k_zret C hr hlk (gZ0.trans (congrArg some hf)) rfl dX11_isType_14
    · refine k_icmp_ge_f C dX11_isType_6 (tgt := 13) (by decide) c2 ?_
      refine k_iconst C dX11_isType_9 (v := (1 : Int32)) rfl ?_
      refine k_goto C dX11_isType_10 (tgt := 14) (by decide) ?_
      exact k_zret C hr hlk (gZ1.trans (congrArg some hf)) rfl dX11_isType_14
theorem dX1_comesLaw_0 : decode cX1_comesLaw 0 = .ok (.iload_n 1, 1) := by decide +kernel
theorem dX1_comesLaw_1 : decode cX1_comesLaw 1 = .ok (.invokestatic 96, 3) := by decide +kernel
theorem dX1_comesLaw_4 : decode cX1_comesLaw 4 = .ok (.ifCond .eq 9, 3) := by decide +kernel
theorem dX1_comesLaw_7 : decode cX1_comesLaw 7 = .ok (.iload_n 2, 1) := by decide +kernel
theorem dX1_comesLaw_8 : decode cX1_comesLaw 8 = .ok (.bipush 8, 2) := by decide +kernel
theorem dX1_comesLaw_10 : decode cX1_comesLaw 10 = .ok (.if_icmp .le 5, 3) := by decide +kernel
theorem dX1_comesLaw_13 : decode cX1_comesLaw 13 = .ok (.iconst 0, 1) := by decide +kernel
theorem dX1_comesLaw_14 : decode cX1_comesLaw 14 = .ok (.ireturn, 1) := by decide +kernel
theorem dX1_comesLaw_15 : decode cX1_comesLaw 15 = .ok (.aload_n 0, 1) := by decide +kernel
theorem dX1_comesLaw_16 : decode cX1_comesLaw 16 = .ok (.getfield 18, 3) := by decide +kernel
theorem dX1_comesLaw_19 : decode cX1_comesLaw 19 = .ok (.iload_n 1, 1) := by decide +kernel
theorem dX1_comesLaw_20 : decode cX1_comesLaw 20 = .ok (.iload_n 2, 1) := by decide +kernel
theorem dX1_comesLaw_21 : decode cX1_comesLaw 21 = .ok (.invokevirtual 99, 3) := by decide +kernel
theorem dX1_comesLaw_24 : decode cX1_comesLaw 24 = .ok (.iconst 1, 1) := by decide +kernel
theorem dX1_comesLaw_25 : decode cX1_comesLaw 25 = .ok (.ireturn, 1) := by decide +kernel
set_option maxRecDepth 100000 in
set_option maxHeartbeats 4000000 in
theorem c_X1_comesLaw {l : Launch} {G : Gx} (hap : k_ap G shC.length) (v1 : Int32) (v2 : Int32) (M0 : Mem) (r : Int32 × Mem) (hf : f_X1_comesLaw v1 v2 M0 = some r) : k_Met l yX1_comesLaw cX1_comesLaw 3 (some .boolean) 1 22 G shC [.ref (G.2.1 16), .int v1, .int v2] M0 (k_Qi G shC r.1 r.2) := by
  refine k_Met_of (by decide) hap (Nat.le_of_ble_eq_true rfl) ?_
  intro p e s m args below meth c C hr hlk
  have C : Cx p s m args c cX1_comesLaw RX1 3 G shC := C
  unfold f_X1_comesLaw at hf
  refine k_lv (lv' := [(0, .ref (G.2.1 16)), (1, .int v1), (2, .int v2)]) [0, 1, 2] rfl ?_
  refine k_iload_n C dX1_comesLaw_0 1 rfl ?_
  refine k_callNi C (As := [.int v1]) (c_X11_isType hap v1 M0 _ rfl) MS_X11_isType (by decide) rfl rfl rfl ⟨Nat.le_of_ble_eq_true rfl, Nat.le_of_ble_eq_true rfl⟩ (Nat.le_of_ble_eq_true rfl) dX1_comesLaw_1 ?_
  rcases ite_g hf with ⟨c1, hf⟩ | ⟨c1, hf⟩
  · refine k_if_eq_t C dX1_comesLaw_4 (tgt := 13) (by decide) c1 ?_
    refine k_iconst C dX1_comesLaw_13 (v := (0 : Int32)) rfl ?_
    exact k_zret C hr hlk (gZ0.trans (congrArg some (prf hf))) (prs hf) dX1_comesLaw_14
  · refine k_if_eq_f C dX1_comesLaw_4 (tgt := 13) (by decide) c1 ?_
    refine k_iload_n C dX1_comesLaw_7 2 rfl ?_
    refine k_bipush C dX1_comesLaw_8 (v := (8 : Int32)) rfl ?_
    rcases ite_g hf with ⟨c2, hf⟩ | ⟨c2, hf⟩
    · refine k_icmp_le_t C dX1_comesLaw_10 (tgt := 15) (by decide) c2 ?_
      refine k_aload_n C dX1_comesLaw_15 0 rfl ?_
      refine k_getr C shC_16 (j := 1) rfl FL_X1_18 dX1_comesLaw_16 ?_
      refine k_iload_n C dX1_comesLaw_19 1 rfl ?_
      refine k_iload_n C dX1_comesLaw_20 2 rfl ?_
      obtain ⟨M3, hM3, hf⟩ := bnd hf
      refine k_callVv C (As := [.int v1, .int v2]) (c_X0_setLaw hap 18 BD_18 v1 v2 M0 M3 hM3) ML_X0_setLaw wd_522 shC_18 rfl rfl rfl ⟨Nat.le_of_ble_eq_true rfl, Nat.le_of_ble_eq_true rfl⟩ (Nat.le_of_ble_eq_true rfl) dX1_comesLaw_21 ?_
      refine k_iconst C dX1_comesLaw_24 (v := (1 : Int32)) rfl ?_
      exact k_zret C hr hlk (gZ1.trans (congrArg some (prf hf))) (prs hf) dX1_comesLaw_25
    · refine k_icmp_le_f C dX1_comesLaw_10 (tgt := 15) (by decide) c2 ?_
      refine k_iconst C dX1_comesLaw_13 (v := (0 : Int32)) rfl ?_
      exact k_zret C hr hlk (gZ0.trans (congrArg some (prf hf))) (prs hf) dX1_comesLaw_14
theorem dX11_isMark_0 : decode cX11_isMark 0 = .ok (.iload_n 0, 1) := by decide +kernel
theorem dX11_isMark_1 : decode cX11_isMark 1 = .ok (.ifCond .lt 13, 3) := by decide +kernel
theorem dX11_isMark_4 : decode cX11_isMark 4 = .ok (.iload_n 0, 1) := by decide +kernel
theorem dX11_isMark_5 : decode cX11_isMark 5 = .ok (.bipush 8, 2) := by decide +kernel
theorem dX11_isMark_7 : decode cX11_isMark 7 = .ok (.if_icmp .ge 7, 3) := by decide +kernel
theorem dX11_isMark_10 : decode cX11_isMark 10 = .ok (.iconst 1, 1) := by decide +kernel
theorem dX11_isMark_11 : decode cX11_isMark 11 = .ok (.goto 4, 3) := by decide +kernel
theorem dX11_isMark_14 : decode cX11_isMark 14 = .ok (.iconst 0, 1) := by decide +kernel
theorem dX11_isMark_15 : decode cX11_isMark 15 = .ok (.ireturn, 1) := by decide +kernel
set_option maxRecDepth 100000 in
set_option maxHeartbeats 4000000 in
theorem c_X11_isMark {l : Launch} {G : Gx} (hap : k_ap G shC.length) (v0 : Int32) (M0 : Mem) (r : Int32) (hf : f_X11_isMark v0 = r) : k_Met l yX11_isMark cX11_isMark 1 (some .boolean) 0 0 G shC [.int v0] M0 (k_Qi G shC r M0) := by
  refine k_Met_of (by decide) hap (Nat.le_of_ble_eq_true rfl) ?_
  intro p e s m args below meth c C hr hlk
  have C : Cx p s m args c cX11_isMark RX11 1 G shC := C
  unfold f_X11_isMark at hf
  refine k_lv (lv' := [(0, .int v0)]) [0] rfl ?_
  refine k_iload_n C dX11_isMark_0 0 rfl ?_
  rcases ite_g hf with ⟨c1, hf⟩ | ⟨c1, hf⟩
  · refine k_if_lt_t C dX11_isMark_1 (tgt := 14) (by decide) c1 ?_
    refine k_iconst C dX11_isMark_14 (v := (0 : Int32)) rfl ?_
    exact k_zret C hr hlk (gZ0.trans (congrArg some hf)) rfl dX11_isMark_15
  · refine k_if_lt_f C dX11_isMark_1 (tgt := 14) (by decide) c1 ?_
    refine k_iload_n C dX11_isMark_4 0 rfl ?_
    refine k_bipush C dX11_isMark_5 (v := (8 : Int32)) rfl ?_
    rcases ite_g hf with ⟨c2, hf⟩ | ⟨c2, hf⟩
    · refine k_icmp_ge_t C dX11_isMark_7 (tgt := 14) (by decide) c2 ?_
      refine k_iconst C dX11_isMark_14 (v := (0 : Int32)) rfl ?_
      exact k_zret C hr hlk (gZ0.trans (congrArg some hf)) rfl dX11_isMark_15
    · refine k_icmp_ge_f C dX11_isMark_7 (tgt := 14) (by decide) c2 ?_
      refine k_iconst C dX11_isMark_10 (v := (1 : Int32)) rfl ?_
      refine k_goto C dX11_isMark_11 (tgt := 15) (by decide) ?_
      exact k_zret C hr hlk (gZ1.trans (congrArg some hf)) rfl dX11_isMark_15
theorem dX1_comesMark_0 : decode cX1_comesMark 0 = .ok (.aload_n 0, 1) := by decide +kernel
theorem dX1_comesMark_1 : decode cX1_comesMark 1 = .ok (.getfield 18, 3) := by decide +kernel
theorem dX1_comesMark_4 : decode cX1_comesMark 4 = .ok (.iload_n 1, 1) := by decide +kernel
theorem dX1_comesMark_5 : decode cX1_comesMark 5 = .ok (.invokevirtual 86, 3) := by decide +kernel
theorem dX1_comesMark_8 : decode cX1_comesMark 8 = .ok (.ifCond .eq 10, 3) := by decide +kernel
theorem dX1_comesMark_11 : decode cX1_comesMark 11 = .ok (.iload_n 2, 1) := by decide +kernel
theorem dX1_comesMark_12 : decode cX1_comesMark 12 = .ok (.invokestatic 103, 3) := by decide +kernel
theorem dX1_comesMark_15 : decode cX1_comesMark 15 = .ok (.ifCond .ne 5, 3) := by decide +kernel
theorem dX1_comesMark_18 : decode cX1_comesMark 18 = .ok (.iconst 0, 1) := by decide +kernel
theorem dX1_comesMark_19 : decode cX1_comesMark 19 = .ok (.ireturn, 1) := by decide +kernel
theorem dX1_comesMark_20 : decode cX1_comesMark 20 = .ok (.aload_n 0, 1) := by decide +kernel
theorem dX1_comesMark_21 : decode cX1_comesMark 21 = .ok (.getfield 18, 3) := by decide +kernel
theorem dX1_comesMark_24 : decode cX1_comesMark 24 = .ok (.iload_n 1, 1) := by decide +kernel
theorem dX1_comesMark_25 : decode cX1_comesMark 25 = .ok (.iload_n 2, 1) := by decide +kernel
theorem dX1_comesMark_26 : decode cX1_comesMark 26 = .ok (.invokevirtual 106, 3) := by decide +kernel
theorem dX1_comesMark_29 : decode cX1_comesMark 29 = .ok (.iconst 1, 1) := by decide +kernel
theorem dX1_comesMark_30 : decode cX1_comesMark 30 = .ok (.ireturn, 1) := by decide +kernel
set_option maxRecDepth 100000 in
set_option maxHeartbeats 4000000 in
theorem c_X1_comesMark {l : Launch} {G : Gx} (hap : k_ap G shC.length) (v1 : Int32) (v2 : Int32) (M0 : Mem) (r : Int32 × Mem) (hf : f_X1_comesMark v1 v2 M0 = some r) : k_Met l yX1_comesMark cX1_comesMark 3 (some .boolean) 1 22 G shC [.ref (G.2.1 16), .int v1, .int v2] M0 (k_Qi G shC r.1 r.2) := by
  refine k_Met_of (by decide) hap (Nat.le_of_ble_eq_true rfl) ?_
  intro p e s m args below meth c C hr hlk
  have C : Cx p s m args c cX1_comesMark RX1 3 G shC := C
  unfold f_X1_comesMark at hf
  refine k_lv (lv' := [(0, .ref (G.2.1 16)), (1, .int v1), (2, .int v2)]) [0, 1, 2] rfl ?_
  refine k_aload_n C dX1_comesMark_0 0 rfl ?_
  refine k_getr C shC_16 (j := 1) rfl FL_X1_18 dX1_comesMark_1 ?_
  refine k_iload_n C dX1_comesMark_4 1 rfl ?_
  refine k_callVi C (As := [.int v1]) (c_X0_hasDoing hap 18 BD_18 v1 M0 _ rfl) ML_X0_hasDoing wd_502 shC_18 rfl rfl rfl ⟨Nat.le_of_ble_eq_true rfl, Nat.le_of_ble_eq_true rfl⟩ (Nat.le_of_ble_eq_true rfl) dX1_comesMark_5 ?_
  rcases ite_g hf with ⟨c1, hf⟩ | ⟨c1, hf⟩
  · refine k_if_eq_t C dX1_comesMark_8 (tgt := 18) (by decide) c1 ?_
    refine k_iconst C dX1_comesMark_18 (v := (0 : Int32)) rfl ?_
    exact k_zret C hr hlk (gZ0.trans (congrArg some (prf hf))) (prs hf) dX1_comesMark_19
  · refine k_if_eq_f C dX1_comesMark_8 (tgt := 18) (by decide) c1 ?_
    refine k_iload_n C dX1_comesMark_11 2 rfl ?_
    refine k_callNi C (As := [.int v2]) (c_X11_isMark hap v2 M0 _ rfl) MS_X11_isMark (by decide) rfl rfl rfl ⟨Nat.le_of_ble_eq_true rfl, Nat.le_of_ble_eq_true rfl⟩ (Nat.le_of_ble_eq_true rfl) dX1_comesMark_12 ?_
    rcases ite_g hf with ⟨c2, hf⟩ | ⟨c2, hf⟩
    · refine k_if_ne_f C dX1_comesMark_15 (tgt := 20) (by decide) c2 ?_
      refine k_iconst C dX1_comesMark_18 (v := (0 : Int32)) rfl ?_
      exact k_zret C hr hlk (gZ0.trans (congrArg some (prf hf))) (prs hf) dX1_comesMark_19
    · refine k_if_ne_t C dX1_comesMark_15 (tgt := 20) (by decide) c2 ?_
      refine k_aload_n C dX1_comesMark_20 0 rfl ?_
      refine k_getr C shC_16 (j := 1) rfl FL_X1_18 dX1_comesMark_21 ?_
      refine k_iload_n C dX1_comesMark_24 1 rfl ?_
      refine k_iload_n C dX1_comesMark_25 2 rfl ?_
      obtain ⟨M3, hM3, hf⟩ := bnd hf
      refine k_callVv C (As := [.int v1, .int v2]) (c_X0_flipMark hap 18 BD_18 v1 v2 M0 M3 hM3) ML_X0_flipMark wd_530 shC_18 rfl rfl rfl ⟨Nat.le_of_ble_eq_true rfl, Nat.le_of_ble_eq_true rfl⟩ (Nat.le_of_ble_eq_true rfl) dX1_comesMark_26 ?_
      refine k_iconst C dX1_comesMark_29 (v := (1 : Int32)) rfl ?_
      exact k_zret C hr hlk (gZ1.trans (congrArg some (prf hf))) (prs hf) dX1_comesMark_30
theorem dX1_comes_0 : decode cX1_comes 0 = .ok (.aload_n 0, 1) := by decide +kernel
theorem dX1_comes_1 : decode cX1_comes 1 = .ok (.iload_n 1, 1) := by decide +kernel
theorem dX1_comes_2 : decode cX1_comes 2 = .ok (.iconst 1, 1) := by decide +kernel
theorem dX1_comes_3 : decode cX1_comes 3 = .ok (.iadd, 1) := by decide +kernel
theorem dX1_comes_4 : decode cX1_comes 4 = .ok (.invokevirtual 55, 3) := by decide +kernel
theorem dX1_comes_7 : decode cX1_comes 7 = .ok (.istore_n 2, 1) := by decide +kernel
theorem dX1_comes_8 : decode cX1_comes 8 = .ok (.aload_n 0, 1) := by decide +kernel
theorem dX1_comes_9 : decode cX1_comes 9 = .ok (.iload_n 1, 1) := by decide +kernel
theorem dX1_comes_10 : decode cX1_comes 10 = .ok (.iconst 2, 1) := by decide +kernel
theorem dX1_comes_11 : decode cX1_comes 11 = .ok (.iadd, 1) := by decide +kernel
theorem dX1_comes_12 : decode cX1_comes 12 = .ok (.invokevirtual 55, 3) := by decide +kernel
theorem dX1_comes_15 : decode cX1_comes 15 = .ok (.istore_n 3, 1) := by decide +kernel
theorem dX1_comes_16 : decode cX1_comes 16 = .ok (.aload_n 0, 1) := by decide +kernel
theorem dX1_comes_17 : decode cX1_comes 17 = .ok (.iload_n 1, 1) := by decide +kernel
theorem dX1_comes_18 : decode cX1_comes 18 = .ok (.invokevirtual 45, 3) := by decide +kernel
theorem dX1_comes_21 : decode cX1_comes 21 = .ok (.lookupswitch 103 #[(100, 43), (108, 89), (109, 96), (111, 83)], 43) := by decide +kernel
theorem dX1_comes_64 : decode cX1_comes 64 = .ok (.bipush 100, 2) := by decide +kernel
theorem dX1_comes_66 : decode cX1_comes 66 = .ok (.aload_n 0, 1) := by decide +kernel
theorem dX1_comes_67 : decode cX1_comes 67 = .ok (.iload_n 1, 1) := by decide +kernel
theorem dX1_comes_68 : decode cX1_comes 68 = .ok (.iconst 3, 1) := by decide +kernel
theorem dX1_comes_69 : decode cX1_comes 69 = .ok (.iadd, 1) := by decide +kernel
theorem dX1_comes_70 : decode cX1_comes 70 = .ok (.invokevirtual 55, 3) := by decide +kernel
theorem dX1_comes_73 : decode cX1_comes 73 = .ok (.imul, 1) := by decide +kernel
theorem dX1_comes_74 : decode cX1_comes 74 = .ok (.bipush 10, 2) := by decide +kernel
theorem dX1_comes_76 : decode cX1_comes 76 = .ok (.aload_n 0, 1) := by decide +kernel
theorem dX1_comes_77 : decode cX1_comes 77 = .ok (.iload_n 1, 1) := by decide +kernel
theorem dX1_comes_78 : decode cX1_comes 78 = .ok (.iconst 4, 1) := by decide +kernel
theorem dX1_comes_79 : decode cX1_comes 79 = .ok (.iadd, 1) := by decide +kernel
theorem dX1_comes_80 : decode cX1_comes 80 = .ok (.invokevirtual 55, 3) := by decide +kernel
theorem dX1_comes_83 : decode cX1_comes 83 = .ok (.imul, 1) := by decide +kernel
theorem dX1_comes_84 : decode cX1_comes 84 = .ok (.iadd, 1) := by decide +kernel
theorem dX1_comes_85 : decode cX1_comes 85 = .ok (.aload_n 0, 1) := by decide +kernel
theorem dX1_comes_86 : decode cX1_comes 86 = .ok (.iload_n 1, 1) := by decide +kernel
theorem dX1_comes_87 : decode cX1_comes 87 = .ok (.iconst 5, 1) := by decide +kernel
theorem dX1_comes_88 : decode cX1_comes 88 = .ok (.iadd, 1) := by decide +kernel
theorem dX1_comes_89 : decode cX1_comes 89 = .ok (.invokevirtual 55, 3) := by decide +kernel
theorem dX1_comes_92 : decode cX1_comes 92 = .ok (.iadd, 1) := by decide +kernel
theorem dX1_comes_93 : decode cX1_comes 93 = .ok (.istore 4, 2) := by decide +kernel
theorem dX1_comes_95 : decode cX1_comes 95 = .ok (.aload_n 0, 1) := by decide +kernel
theorem dX1_comes_96 : decode cX1_comes 96 = .ok (.iload_n 2, 1) := by decide +kernel
theorem dX1_comes_97 : decode cX1_comes 97 = .ok (.iload_n 3, 1) := by decide +kernel
theorem dX1_comes_98 : decode cX1_comes 98 = .ok (.iload 4, 2) := by decide +kernel
theorem dX1_comes_100 : decode cX1_comes 100 = .ok (.invokevirtual 58, 3) := by decide +kernel
theorem dX1_comes_103 : decode cX1_comes 103 = .ok (.ireturn, 1) := by decide +kernel
theorem dX1_comes_104 : decode cX1_comes 104 = .ok (.aload_n 0, 1) := by decide +kernel
theorem dX1_comes_105 : decode cX1_comes 105 = .ok (.iload_n 2, 1) := by decide +kernel
theorem dX1_comes_106 : decode cX1_comes 106 = .ok (.invokevirtual 62, 3) := by decide +kernel
theorem dX1_comes_109 : decode cX1_comes 109 = .ok (.ireturn, 1) := by decide +kernel
theorem dX1_comes_110 : decode cX1_comes 110 = .ok (.aload_n 0, 1) := by decide +kernel
theorem dX1_comes_111 : decode cX1_comes 111 = .ok (.iload_n 2, 1) := by decide +kernel
theorem dX1_comes_112 : decode cX1_comes 112 = .ok (.iload_n 3, 1) := by decide +kernel
theorem dX1_comes_113 : decode cX1_comes 113 = .ok (.invokevirtual 65, 3) := by decide +kernel
theorem dX1_comes_116 : decode cX1_comes 116 = .ok (.ireturn, 1) := by decide +kernel
theorem dX1_comes_117 : decode cX1_comes 117 = .ok (.aload_n 0, 1) := by decide +kernel
theorem dX1_comes_118 : decode cX1_comes 118 = .ok (.iload_n 2, 1) := by decide +kernel
theorem dX1_comes_119 : decode cX1_comes 119 = .ok (.iload_n 3, 1) := by decide +kernel
theorem dX1_comes_120 : decode cX1_comes 120 = .ok (.invokevirtual 69, 3) := by decide +kernel
theorem dX1_comes_123 : decode cX1_comes 123 = .ok (.ireturn, 1) := by decide +kernel
theorem dX1_comes_124 : decode cX1_comes 124 = .ok (.aload_n 0, 1) := by decide +kernel
theorem dX1_comes_125 : decode cX1_comes 125 = .ok (.getfield 18, 3) := by decide +kernel
theorem dX1_comes_128 : decode cX1_comes 128 = .ok (.iconst 0, 1) := by decide +kernel
theorem dX1_comes_129 : decode cX1_comes 129 = .ok (.putfield 72, 3) := by decide +kernel
theorem dX1_comes_132 : decode cX1_comes 132 = .ok (.iconst 1, 1) := by decide +kernel
theorem dX1_comes_133 : decode cX1_comes 133 = .ok (.ireturn, 1) := by decide +kernel
set_option maxRecDepth 100000 in
set_option maxHeartbeats 4000000 in
theorem c_X1_comes {l : Launch} {G : Gx} (hap : k_ap G shC.length) (v1 : Int32) (M0 : Mem) (r : Int32 × Mem) (hf : f_X1_comes v1 M0 = some r) : k_Met l yX1_comes cX1_comes 5 (some .boolean) 3 70 G shC [.ref (G.2.1 16), .int v1] M0 (k_Qi G shC r.1 r.2) := by
  refine k_Met_of (by decide) hap (Nat.le_of_ble_eq_true rfl) ?_
  intro p e s m args below meth c C hr hlk
  have C : Cx p s m args c cX1_comes RX1 5 G shC := C
  unfold f_X1_comes at hf
  refine k_lv (lv' := [(0, .ref (G.2.1 16)), (1, .int v1)]) [0, 1] rfl ?_
  refine k_aload_n C dX1_comes_0 0 rfl ?_
  refine k_iload_n C dX1_comes_1 1 rfl ?_
  refine k_iconst C dX1_comes_2 (v := (1 : Int32)) rfl ?_
  refine k_iadd C dX1_comes_3 ?_
  obtain ⟨t1, ht1, hf⟩ := bnd hf
  refine k_callVi C (As := [.int (v1 + (1 : Int32))]) (c_X1_digitAt hap (v1 + (1 : Int32)) M0 t1 ht1) ML_X1_digitAt wd_474 shC_16 rfl rfl rfl ⟨Nat.le_of_ble_eq_true rfl, Nat.le_of_ble_eq_true rfl⟩ (Nat.le_of_ble_eq_true rfl) dX1_comes_4 ?_
  refine k_istore_n C dX1_comes_7 (by decide) [1, 2, 0] (lv' := [(0, .ref (G.2.1 16)), (1, .int v1), (2, .int t1)]) rfl ?_
  refine k_aload_n C dX1_comes_8 0 rfl ?_
  refine k_iload_n C dX1_comes_9 1 rfl ?_
  refine k_iconst C dX1_comes_10 (v := (2 : Int32)) rfl ?_
  refine k_iadd C dX1_comes_11 ?_
  obtain ⟨t2, ht2, hf⟩ := bnd hf
  refine k_callVi C (As := [.int (v1 + (2 : Int32))]) (c_X1_digitAt hap (v1 + (2 : Int32)) M0 t2 ht2) ML_X1_digitAt wd_474 shC_16 rfl rfl rfl ⟨Nat.le_of_ble_eq_true rfl, Nat.le_of_ble_eq_true rfl⟩ (Nat.le_of_ble_eq_true rfl) dX1_comes_12 ?_
  refine k_istore_n C dX1_comes_15 (by decide) [1, 2, 3, 0] (lv' := [(0, .ref (G.2.1 16)), (1, .int v1), (2, .int t1), (3, .int t2)]) rfl ?_
  refine k_aload_n C dX1_comes_16 0 rfl ?_
  refine k_iload_n C dX1_comes_17 1 rfl ?_
  obtain ⟨t3, ht3, hf⟩ := bnd hf
  refine k_callVi C (As := [.int v1]) (c_X1_letterAt hap v1 M0 t3 ht3) ML_X1_letterAt wd_445 shC_16 rfl rfl rfl ⟨Nat.le_of_ble_eq_true rfl, Nat.le_of_ble_eq_true rfl⟩ (Nat.le_of_ble_eq_true rfl) dX1_comes_18 ?_
  rcases ite_g hf with ⟨c4, hf⟩ | ⟨c4, hf⟩
  · refine k_lookup C dX1_comes_21 (tgt := 64) (off := 43) (by decide) (by first | (rw [c4]; done) | (rw [c4]; decide)) (by decide) ?_
    refine k_bipush C dX1_comes_64 (v := (100 : Int32)) rfl ?_
    refine k_aload_n C dX1_comes_66 0 rfl ?_
    refine k_iload_n C dX1_comes_67 1 rfl ?_
    refine k_iconst C dX1_comes_68 (v := (3 : Int32)) rfl ?_
    refine k_iadd C dX1_comes_69 ?_
    obtain ⟨t5, ht5, hf⟩ := bnd hf
    refine k_callVi C (As := [.int (v1 + (3 : Int32))]) (c_X1_digitAt hap (v1 + (3 : Int32)) M0 t5 ht5) ML_X1_digitAt wd_474 shC_16 rfl rfl rfl ⟨Nat.le_of_ble_eq_true rfl, Nat.le_of_ble_eq_true rfl⟩ (Nat.le_of_ble_eq_true rfl) dX1_comes_70 ?_
    refine k_imul C dX1_comes_73 ?_
    refine k_bipush C dX1_comes_74 (v := (10 : Int32)) rfl ?_
    refine k_aload_n C dX1_comes_76 0 rfl ?_
    refine k_iload_n C dX1_comes_77 1 rfl ?_
    refine k_iconst C dX1_comes_78 (v := (4 : Int32)) rfl ?_
    refine k_iadd C dX1_comes_79 ?_
    obtain ⟨t6, ht6, hf⟩ := bnd hf
    refine k_callVi C (As := [.int (v1 + (4 : Int32))]) (c_X1_digitAt hap (v1 + (4 : Int32)) M0 t6 ht6) ML_X1_digitAt wd_474 shC_16 rfl rfl rfl ⟨Nat.le_of_ble_eq_true rfl, Nat.le_of_ble_eq_true rfl⟩ (Nat.le_of_ble_eq_true rfl) dX1_comes_80 ?_
    refine k_imul C dX1_comes_83 ?_
    refine k_iadd C dX1_comes_84 ?_
    refine k_aload_n C dX1_comes_85 0 rfl ?_
    refine k_iload_n C dX1_comes_86 1 rfl ?_
    refine k_iconst C dX1_comes_87 (v := (5 : Int32)) rfl ?_
    refine k_iadd C dX1_comes_88 ?_
    obtain ⟨t7, ht7, hf⟩ := bnd hf
    refine k_callVi C (As := [.int (v1 + (5 : Int32))]) (c_X1_digitAt hap (v1 + (5 : Int32)) M0 t7 ht7) ML_X1_digitAt wd_474 shC_16 rfl rfl rfl ⟨Nat.le_of_ble_eq_true rfl, Nat.le_of_ble_eq_true rfl⟩ (Nat.le_of_ble_eq_true rfl) dX1_comes_89 ?_
    refine k_iadd C dX1_comes_92 ?_
    refine k_istore C dX1_comes_93 (by decide) [1, 3, 4, 0] (lv' := [(0, .ref (G.2.1 16)), (2, .int t1), (3, .int t2), (4, .int ((((100 : Int32) * t5) + ((10 : Int32) * t6)) + t7))]) rfl ?_
    refine k_aload_n C dX1_comes_95 0 rfl ?_
    refine k_iload_n C dX1_comes_96 1 rfl ?_
    refine k_iload_n C dX1_comes_97 2 rfl ?_
    refine k_iload C dX1_comes_98 3 rfl ?_
    obtain ⟨⟨t8, M8⟩, ht8, hf⟩ := bnd hf
    replace hf := bp_s hf
    refine k_callVi C (As := [.int t1, .int t2, .int ((((100 : Int32) * t5) + ((10 : Int32) * t6)) + t7)]) (c_X1_comesDoing hap t1 t2 ((((100 : Int32) * t5) + ((10 : Int32) * t6)) + t7) M0 (t8, M8) ht8) ML_X1_comesDoing wd_478 shC_16 rfl rfl rfl ⟨Nat.le_of_ble_eq_true rfl, Nat.le_of_ble_eq_true rfl⟩ (Nat.le_of_ble_eq_true rfl) dX1_comes_100 ?_
    obtain ⟨t9, ht9, hf⟩ := bnd hf
    exact k_zret C hr hlk (ht9.trans (congrArg some (prf hf))) (prs hf) dX1_comes_103
  · rcases ite_g hf with ⟨c10, hf⟩ | ⟨c10, hf⟩
    · refine k_lookup C dX1_comes_21 (tgt := 110) (off := 89) (by decide) (by first | (rw [c10]; done) | (rw [c10]; decide)) (by decide) ?_
      refine k_aload_n C dX1_comes_110 0 rfl ?_
      refine k_iload_n C dX1_comes_111 2 rfl ?_
      refine k_iload_n C dX1_comes_112 3 rfl ?_
      obtain ⟨⟨t11, M11⟩, ht11, hf⟩ := bnd hf
      replace hf := bp_s hf
      refine k_callVi C (As := [.int t1, .int t2]) (c_X1_comesLaw hap t1 t2 M0 (t11, M11) ht11) ML_X1_comesLaw wd_515 shC_16 rfl rfl rfl ⟨Nat.le_of_ble_eq_true rfl, Nat.le_of_ble_eq_true rfl⟩ (Nat.le_of_ble_eq_true rfl) dX1_comes_113 ?_
      obtain ⟨t12, ht12, hf⟩ := bnd hf
      exact k_zret C hr hlk (ht12.trans (congrArg some (prf hf))) (prs hf) dX1_comes_116
    · rcases ite_g hf with ⟨c13, hf⟩ | ⟨c13, hf⟩
      · refine k_lookup C dX1_comes_21 (tgt := 117) (off := 96) (by decide) (by first | (rw [c13]; done) | (rw [c13]; decide)) (by decide) ?_
        refine k_aload_n C dX1_comes_117 0 rfl ?_
        refine k_iload_n C dX1_comes_118 2 rfl ?_
        refine k_iload_n C dX1_comes_119 3 rfl ?_
        obtain ⟨⟨t14, M14⟩, ht14, hf⟩ := bnd hf
        replace hf := bp_s hf
        refine k_callVi C (As := [.int t1, .int t2]) (c_X1_comesMark hap t1 t2 M0 (t14, M14) ht14) ML_X1_comesMark wd_523 shC_16 rfl rfl rfl ⟨Nat.le_of_ble_eq_true rfl, Nat.le_of_ble_eq_true rfl⟩ (Nat.le_of_ble_eq_true rfl) dX1_comes_120 ?_
        obtain ⟨t15, ht15, hf⟩ := bnd hf
        exact k_zret C hr hlk (ht15.trans (congrArg some (prf hf))) (prs hf) dX1_comes_123
      · rcases ite_g hf with ⟨c16, hf⟩ | ⟨c16, hf⟩
        · refine k_lookup C dX1_comes_21 (tgt := 104) (off := 83) (by decide) (by first | (rw [c16]; done) | (rw [c16]; decide)) (by decide) ?_
          refine k_aload_n C dX1_comes_104 0 rfl ?_
          refine k_iload_n C dX1_comes_105 2 rfl ?_
          obtain ⟨⟨t17, M17⟩, ht17, hf⟩ := bnd hf
          replace hf := bp_s hf
          refine k_callVi C (As := [.int t1]) (c_X1_comesDone hap t1 M0 (t17, M17) ht17) ML_X1_comesDone wd_498 shC_16 rfl rfl rfl ⟨Nat.le_of_ble_eq_true rfl, Nat.le_of_ble_eq_true rfl⟩ (Nat.le_of_ble_eq_true rfl) dX1_comes_106 ?_
          obtain ⟨t18, ht18, hf⟩ := bnd hf
          exact k_zret C hr hlk (ht18.trans (congrArg some (prf hf))) (prs hf) dX1_comes_109
        · have hqc4 : (t3 : Int32).toInt ≠ 100 := i_ne2 c4 (by decide)
          have hqc10 : (t3 : Int32).toInt ≠ 108 := i_ne2 c10 (by decide)
          have hqc13 : (t3 : Int32).toInt ≠ 109 := i_ne2 c13 (by decide)
          have hqc16 : (t3 : Int32).toInt ≠ 111 := i_ne2 c16 (by decide)
          refine k_lookup C dX1_comes_21 (tgt := 124) (off := 103) (by decide) (by simp only [Op.lookupswitch.offset]; rw [if_neg (Ne.symm hqc4), if_neg (Ne.symm hqc10), if_neg (Ne.symm hqc13), if_neg (Ne.symm hqc16)]) (by decide) ?_
          refine k_aload_n C dX1_comes_124 0 rfl ?_
          refine k_getr C shC_16 (j := 1) rfl FL_X1_18 dX1_comes_125 ?_
          refine k_iconst C dX1_comes_128 (v := (0 : Int32)) rfl ?_
          refine k_put C shC_18 (j := 5) rfl FL_X1_72 FW_X0_5 dX1_comes_129 ?_
          refine k_iconst C dX1_comes_132 (v := (1 : Int32)) rfl ?_
          exact k_zret C hr hlk (gZ1.trans (congrArg some (prf hf))) (prs hf) dX1_comes_133
theorem dX1_hear_0 : decode cX1_hear 0 = .ok (.aload_n 0, 1) := by decide +kernel
theorem dX1_hear_1 : decode cX1_hear 1 = .ok (.invokevirtual 30, 3) := by decide +kernel
theorem dX1_hear_4 : decode cX1_hear 4 = .ok (.istore_n 2, 1) := by decide +kernel
theorem dX1_hear_5 : decode cX1_hear 5 = .ok (.iload_n 2, 1) := by decide +kernel
theorem dX1_hear_6 : decode cX1_hear 6 = .ok (.ifCond .lt 9, 3) := by decide +kernel
theorem dX1_hear_9 : decode cX1_hear 9 = .ok (.sipush (-1000), 3) := by decide +kernel
theorem dX1_hear_12 : decode cX1_hear 12 = .ok (.iload_n 2, 1) := by decide +kernel
theorem dX1_hear_13 : decode cX1_hear 13 = .ok (.isub, 1) := by decide +kernel
theorem dX1_hear_14 : decode cX1_hear 14 = .ok (.ireturn, 1) := by decide +kernel
theorem dX1_hear_15 : decode cX1_hear 15 = .ok (.aload_n 0, 1) := by decide +kernel
theorem dX1_hear_16 : decode cX1_hear 16 = .ok (.getfield 18, 3) := by decide +kernel
theorem dX1_hear_19 : decode cX1_hear 19 = .ok (.aload_n 1, 1) := by decide +kernel
theorem dX1_hear_20 : decode cX1_hear 20 = .ok (.invokevirtual 34, 3) := by decide +kernel
theorem dX1_hear_23 : decode cX1_hear 23 = .ok (.iconst 0, 1) := by decide +kernel
theorem dX1_hear_24 : decode cX1_hear 24 = .ok (.istore_n 3, 1) := by decide +kernel
theorem dX1_hear_25 : decode cX1_hear 25 = .ok (.iconst 0, 1) := by decide +kernel
theorem dX1_hear_26 : decode cX1_hear 26 = .ok (.istore 4, 2) := by decide +kernel
theorem dX1_hear_28 : decode cX1_hear 28 = .ok (.iload 4, 2) := by decide +kernel
theorem dX1_hear_30 : decode cX1_hear 30 = .ok (.aload_n 0, 1) := by decide +kernel
theorem dX1_hear_31 : decode cX1_hear 31 = .ok (.getfield 22, 3) := by decide +kernel
theorem dX1_hear_34 : decode cX1_hear 34 = .ok (.if_icmp .ge 37, 3) := by decide +kernel
theorem dX1_hear_37 : decode cX1_hear 37 = .ok (.aload_n 0, 1) := by decide +kernel
theorem dX1_hear_38 : decode cX1_hear 38 = .ok (.iload 4, 2) := by decide +kernel
theorem dX1_hear_40 : decode cX1_hear 40 = .ok (.invokevirtual 38, 3) := by decide +kernel
theorem dX1_hear_43 : decode cX1_hear 43 = .ok (.ifCond .eq 22, 3) := by decide +kernel
theorem dX1_hear_46 : decode cX1_hear 46 = .ok (.aload_n 0, 1) := by decide +kernel
theorem dX1_hear_47 : decode cX1_hear 47 = .ok (.iload 4, 2) := by decide +kernel
theorem dX1_hear_49 : decode cX1_hear 49 = .ok (.invokevirtual 42, 3) := by decide +kernel
theorem dX1_hear_52 : decode cX1_hear 52 = .ok (.ifCond .ne 10, 3) := by decide +kernel
theorem dX1_hear_55 : decode cX1_hear 55 = .ok (.sipush (-2000), 3) := by decide +kernel
theorem dX1_hear_58 : decode cX1_hear 58 = .ok (.iload 4, 2) := by decide +kernel
theorem dX1_hear_60 : decode cX1_hear 60 = .ok (.isub, 1) := by decide +kernel
theorem dX1_hear_61 : decode cX1_hear 61 = .ok (.ireturn, 1) := by decide +kernel
theorem dX1_hear_62 : decode cX1_hear 62 = .ok (.iinc 3 1, 3) := by decide +kernel
theorem dX1_hear_65 : decode cX1_hear 65 = .ok (.iinc 4 1, 3) := by decide +kernel
theorem dX1_hear_68 : decode cX1_hear 68 = .ok (.goto (-40), 3) := by decide +kernel
theorem dX1_hear_71 : decode cX1_hear 71 = .ok (.aload_n 1, 1) := by decide +kernel
theorem dX1_hear_72 : decode cX1_hear 72 = .ok (.aload_n 0, 1) := by decide +kernel
theorem dX1_hear_73 : decode cX1_hear 73 = .ok (.getfield 18, 3) := by decide +kernel
theorem dX1_hear_76 : decode cX1_hear 76 = .ok (.invokevirtual 34, 3) := by decide +kernel
theorem dX1_hear_79 : decode cX1_hear 79 = .ok (.iload_n 3, 1) := by decide +kernel
theorem dX1_hear_80 : decode cX1_hear 80 = .ok (.ireturn, 1) := by decide +kernel
set_option maxRecDepth 100000 in
set_option maxHeartbeats 4000000 in
theorem c_X1_hear {l : Launch} {G : Gx} (hap : k_ap G shC.length) (M0 : Mem) (r : Int32 × Mem) (hf : f_X1_hear M0 = some r) : k_Met l yX1_hear cX1_hear 5 (some .int) 4 94 G shC [.ref (G.2.1 16), .ref (G.2.1 1)] M0 (k_Qi G shC r.1 r.2) := by
  refine k_Met_of (by decide) hap (Nat.le_of_ble_eq_true rfl) ?_
  intro p e s m args below meth c C hr hlk
  have C : Cx p s m args c cX1_hear RX1 5 G shC := C
  have k_b28 : ∀ (n28 : Nat) (v3 : Int32) (v4 : Int32) (M : Mem), f_X1_hear_b28 n28 v3 v4 M = some r → K p l e (k_rm 4 94) s m args below meth c 5 G shC (MQ below (k_Qi G shC r.1 r.2) args s 0 0 (k_A G shC.length)) 28 [(0, .ref (G.2.1 16)), (1, .ref (G.2.1 1)), (3, .int v3), (4, .int v4)] [] M := by
    intro n28
    induction n28 with
    | zero => intro v3 v4 M hf; simp [f_X1_hear_b28] at hf
    | succ n28 ih28 =>
      intro v3 v4 M hf
      unfold f_X1_hear_b28 at hf
      refine k_iload C dX1_hear_28 3 rfl ?_
      refine k_aload_n C dX1_hear_30 0 rfl ?_
      refine k_geti C shC_16 (j := 2) rfl FL_X1_22 dX1_hear_31 ?_
      rcases ite_g hf with ⟨c4, hf⟩ | ⟨c4, hf⟩
      · refine k_icmp_ge_t C dX1_hear_34 (tgt := 71) (by decide) c4 ?_
        refine k_aload_n C dX1_hear_71 1 rfl ?_
        refine k_aload_n C dX1_hear_72 0 rfl ?_
        refine k_getr C shC_16 (j := 1) rfl FL_X1_18 dX1_hear_73 ?_
        obtain ⟨M5, hM5, hf⟩ := bnd hf
        refine k_callVv C (As := [.ref (G.2.1 18)]) (c_X0_become hap 1 18 BD_1 BD_18 M M5 hM5) ML_X0_become wd_455 shC_1 rfl rfl rfl ⟨Nat.le_of_ble_eq_true rfl, Nat.le_of_ble_eq_true rfl⟩ (Nat.le_of_ble_eq_true rfl) dX1_hear_76 ?_
        refine k_iload_n C dX1_hear_79 2 rfl ?_
        exact k_iret C hr hlk (prf hf) (prs hf) dX1_hear_80
      · refine k_icmp_ge_f C dX1_hear_34 (tgt := 71) (by decide) c4 ?_
        refine k_aload_n C dX1_hear_37 0 rfl ?_
        refine k_iload C dX1_hear_38 3 rfl ?_
        obtain ⟨t6, ht6, hf⟩ := bnd hf
        refine k_callVi C (As := [.int v4]) (c_X1_beginsStatement hap v4 M t6 ht6) ML_X1_beginsStatement wd_466 shC_16 rfl rfl rfl ⟨Nat.le_of_ble_eq_true rfl, Nat.le_of_ble_eq_true rfl⟩ (Nat.le_of_ble_eq_true rfl) dX1_hear_40 ?_
        rcases ite_g hf with ⟨c7, hf⟩ | ⟨c7, hf⟩
        · refine k_if_eq_t C dX1_hear_43 (tgt := 65) (by decide) c7 ?_
          refine k_iinc C dX1_hear_65 3 rfl (v := (v4 + (1 : Int32))) rfl (by decide) [1, 2, 3, 0] (lv' := [(0, .ref (G.2.1 16)), (1, .ref (G.2.1 1)), (3, .int v3), (4, .int (v4 + (1 : Int32)))]) rfl ?_
          refine k_goto C dX1_hear_68 (tgt := 28) (by decide) ?_
          exact ih28 v3 (v4 + (1 : Int32)) M hf
        · refine k_if_eq_f C dX1_hear_43 (tgt := 65) (by decide) c7 ?_
          refine k_aload_n C dX1_hear_46 0 rfl ?_
          refine k_iload C dX1_hear_47 3 rfl ?_
          obtain ⟨⟨t8, M8⟩, ht8, hf⟩ := bnd hf
          replace hf := bp_s hf
          refine k_callVi C (As := [.int v4]) (c_X1_comes hap v4 M (t8, M8) ht8) ML_X1_comes wd_470 shC_16 rfl rfl rfl ⟨Nat.le_of_ble_eq_true rfl, Nat.le_of_ble_eq_true rfl⟩ (Nat.le_of_ble_eq_true rfl) dX1_hear_49 ?_
          rcases ite_g hf with ⟨c9, hf⟩ | ⟨c9, hf⟩
          · refine k_if_ne_f C dX1_hear_52 (tgt := 62) (by decide) c9 ?_
            refine k_sipush C dX1_hear_55 (v := (-2000 : Int32)) rfl ?_
            refine k_iload C dX1_hear_58 3 rfl ?_
            refine k_isub C dX1_hear_60 ?_
            exact k_iret C hr hlk (prf hf) (prs hf) dX1_hear_61
          · refine k_if_ne_t C dX1_hear_52 (tgt := 62) (by decide) c9 ?_
            refine k_iinc C dX1_hear_62 2 rfl (v := (v3 + (1 : Int32))) rfl (by decide) [1, 2, 0, 3] (lv' := [(0, .ref (G.2.1 16)), (1, .ref (G.2.1 1)), (3, .int (v3 + (1 : Int32))), (4, .int v4)]) rfl ?_
            refine k_iinc C dX1_hear_65 3 rfl (v := (v4 + (1 : Int32))) rfl (by decide) [1, 2, 3, 0] (lv' := [(0, .ref (G.2.1 16)), (1, .ref (G.2.1 1)), (3, .int (v3 + (1 : Int32))), (4, .int (v4 + (1 : Int32)))]) rfl ?_
            refine k_goto C dX1_hear_68 (tgt := 28) (by decide) ?_
            exact ih28 (v3 + (1 : Int32)) (v4 + (1 : Int32)) M8 hf
  unfold f_X1_hear at hf
  refine k_lv (lv' := [(0, .ref (G.2.1 16)), (1, .ref (G.2.1 1))]) [0, 1] rfl ?_
  refine k_aload_n C dX1_hear_0 0 rfl ?_
  obtain ⟨t1, ht1, hf⟩ := bnd hf
  refine k_callVi C (As := []) (c_X1_firstWithoutForm hap M0 t1 ht1) ML_X1_firstWithoutForm wd_441 shC_16 rfl rfl rfl ⟨Nat.le_of_ble_eq_true rfl, Nat.le_of_ble_eq_true rfl⟩ (Nat.le_of_ble_eq_true rfl) dX1_hear_1 ?_
  refine k_istore_n C dX1_hear_4 (by decide) [1, 2, 0] (lv' := [(0, .ref (G.2.1 16)), (1, .ref (G.2.1 1)), (2, .int t1)]) rfl ?_
  refine k_iload_n C dX1_hear_5 2 rfl ?_
  rcases ite_g hf with ⟨c2, hf⟩ | ⟨c2, hf⟩
  · refine k_if_lt_t C dX1_hear_6 (tgt := 15) (by decide) c2 ?_
    refine k_aload_n C dX1_hear_15 0 rfl ?_
    refine k_getr C shC_16 (j := 1) rfl FL_X1_18 dX1_hear_16 ?_
    refine k_aload_n C dX1_hear_19 1 rfl ?_
    obtain ⟨M3, hM3, hf⟩ := bnd hf
    refine k_callVv C (As := [.ref (G.2.1 1)]) (c_X0_become hap 18 1 BD_18 BD_1 M0 M3 hM3) ML_X0_become wd_455 shC_18 rfl rfl rfl ⟨Nat.le_of_ble_eq_true rfl, Nat.le_of_ble_eq_true rfl⟩ (Nat.le_of_ble_eq_true rfl) dX1_hear_20 ?_
    refine k_iconst C dX1_hear_23 (v := (0 : Int32)) rfl ?_
    refine k_istore_n C dX1_hear_24 (by decide) [1, 2, 0] (lv' := [(0, .ref (G.2.1 16)), (1, .ref (G.2.1 1)), (3, .int (0 : Int32))]) rfl ?_
    refine k_iconst C dX1_hear_25 (v := (0 : Int32)) rfl ?_
    refine k_istore C dX1_hear_26 (by decide) [1, 2, 3, 0] (lv' := [(0, .ref (G.2.1 16)), (1, .ref (G.2.1 1)), (3, .int (0 : Int32)), (4, .int (0 : Int32))]) rfl ?_
    exact k_b28 FU (0 : Int32) (0 : Int32) M3 hf
  · refine k_if_lt_f C dX1_hear_6 (tgt := 15) (by decide) c2 ?_
    refine k_sipush C dX1_hear_9 (v := (-1000 : Int32)) rfl ?_
    refine k_iload_n C dX1_hear_12 2 rfl ?_
    refine k_isub C dX1_hear_13 ?_
    exact k_iret C hr hlk (prf hf) (prs hf) dX1_hear_14
theorem dX1_tell_0 : decode cX1_tell 0 = .ok (.aload_n 0, 1) := by decide +kernel
theorem dX1_tell_1 : decode cX1_tell 1 = .ok (.aload_n 1, 1) := by decide +kernel
theorem dX1_tell_2 : decode cX1_tell 2 = .ok (.invokevirtual 26, 3) := by decide +kernel
theorem dX1_tell_5 : decode cX1_tell 5 = .ok (.istore_n 2, 1) := by decide +kernel
theorem dX1_tell_6 : decode cX1_tell 6 = .ok (.aload_n 0, 1) := by decide +kernel
theorem dX1_tell_7 : decode cX1_tell 7 = .ok (.iconst 0, 1) := by decide +kernel
theorem dX1_tell_8 : decode cX1_tell 8 = .ok (.putfield 22, 3) := by decide +kernel
theorem dX1_tell_11 : decode cX1_tell 11 = .ok (.iload_n 2, 1) := by decide +kernel
theorem dX1_tell_12 : decode cX1_tell 12 = .ok (.ireturn, 1) := by decide +kernel
set_option maxRecDepth 100000 in
set_option maxHeartbeats 4000000 in
theorem c_X1_tell {l : Launch} {G : Gx} (hap : k_ap G shC.length) (M0 : Mem) (r : Int32 × Mem) (hf : f_X1_tell M0 = some r) : k_Met l yX1_tell cX1_tell 3 (some .int) 5 118 G shC [.ref (G.2.1 16), .ref (G.2.1 1)] M0 (k_Qi G shC r.1 r.2) := by
  refine k_Met_of (by decide) hap (Nat.le_of_ble_eq_true rfl) ?_
  intro p e s m args below meth c C hr hlk
  have C : Cx p s m args c cX1_tell RX1 3 G shC := C
  unfold f_X1_tell at hf
  refine k_lv (lv' := [(0, .ref (G.2.1 16)), (1, .ref (G.2.1 1))]) [0, 1] rfl ?_
  refine k_aload_n C dX1_tell_0 0 rfl ?_
  refine k_aload_n C dX1_tell_1 1 rfl ?_
  obtain ⟨⟨t1, M1⟩, ht1, hf⟩ := bnd hf
  replace hf := bp_s hf
  refine k_callVi C (As := [.ref (G.2.1 1)]) (c_X1_hear hap M0 (t1, M1) ht1) ML_X1_hear wd_437 shC_16 rfl rfl rfl ⟨Nat.le_of_ble_eq_true rfl, Nat.le_of_ble_eq_true rfl⟩ (Nat.le_of_ble_eq_true rfl) dX1_tell_2 ?_
  refine k_istore_n C dX1_tell_5 (by decide) [1, 0] (lv' := [(0, .ref (G.2.1 16)), (2, .int t1)]) rfl ?_
  refine k_aload_n C dX1_tell_6 0 rfl ?_
  refine k_iconst C dX1_tell_7 (v := (0 : Int32)) rfl ?_
  refine k_put C shC_16 (j := 2) rfl FL_X1_22 FW_X1_2 dX1_tell_8 ?_
  refine k_iload_n C dX1_tell_11 1 rfl ?_
  exact k_iret C hr hlk (prf hf) (prs hf) dX1_tell_12
theorem dX2_sets_0 : decode cX2_sets 0 = .ok (.iconst 1, 1) := by decide +kernel
theorem dX2_sets_1 : decode cX2_sets 1 = .ok (.aload_n 0, 1) := by decide +kernel
theorem dX2_sets_2 : decode cX2_sets 2 = .ok (.getfield 26, 3) := by decide +kernel
theorem dX2_sets_5 : decode cX2_sets 5 = .ok (.getfield 34, 3) := by decide +kernel
theorem dX2_sets_8 : decode cX2_sets 8 = .ok (.ishl, 1) := by decide +kernel
theorem dX2_sets_9 : decode cX2_sets 9 = .ok (.ireturn, 1) := by decide +kernel
set_option maxRecDepth 100000 in
set_option maxHeartbeats 4000000 in
theorem c_X2_sets {l : Launch} {G : Gx} (hap : k_ap G shC.length) (M0 : Mem) (r : Int32) (hf : f_X2_sets M0 = r) : k_Met l yX2_sets cX2_sets 1 (some .int) 0 0 G shC [.ref (G.2.1 36)] M0 (k_Qi G shC r M0) := by
  refine k_Met_of (by decide) hap (Nat.le_of_ble_eq_true rfl) ?_
  intro p e s m args below meth c C hr hlk
  have C : Cx p s m args c cX2_sets RX2 1 G shC := C
  unfold f_X2_sets at hf
  refine k_lv (lv' := [(0, .ref (G.2.1 36))]) [0] rfl ?_
  refine k_iconst C dX2_sets_0 (v := (1 : Int32)) rfl ?_
  refine k_aload_n C dX2_sets_1 0 rfl ?_
  refine k_getr C shC_36 (j := 0) rfl FL_X2_26 dX2_sets_2 ?_
  refine k_geti C shC_1 (j := 4) rfl FL_X2_34 dX2_sets_5 ?_
  refine k_ishlJ C dX2_sets_8 ?_
  exact k_iret C hr hlk hf rfl dX2_sets_9
theorem dX2_areApart_0 : decode cX2_areApart 0 = .ok (.iconst 0, 1) := by decide +kernel
theorem dX2_areApart_1 : decode cX2_areApart 1 = .ok (.istore_n 2, 1) := by decide +kernel
theorem dX2_areApart_2 : decode cX2_areApart 2 = .ok (.iload_n 2, 1) := by decide +kernel
theorem dX2_areApart_3 : decode cX2_areApart 3 = .ok (.aload_n 0, 1) := by decide +kernel
theorem dX2_areApart_4 : decode cX2_areApart 4 = .ok (.getfield 26, 3) := by decide +kernel
theorem dX2_areApart_7 : decode cX2_areApart 7 = .ok (.getfield 34, 3) := by decide +kernel
theorem dX2_areApart_10 : decode cX2_areApart 10 = .ok (.if_icmp .ge 36, 3) := by decide +kernel
theorem dX2_areApart_13 : decode cX2_areApart 13 = .ok (.iload_n 1, 1) := by decide +kernel
theorem dX2_areApart_14 : decode cX2_areApart 14 = .ok (.iload_n 2, 1) := by decide +kernel
theorem dX2_areApart_15 : decode cX2_areApart 15 = .ok (.ishr, 1) := by decide +kernel
theorem dX2_areApart_16 : decode cX2_areApart 16 = .ok (.iconst 1, 1) := by decide +kernel
theorem dX2_areApart_17 : decode cX2_areApart 17 = .ok (.iand, 1) := by decide +kernel
theorem dX2_areApart_18 : decode cX2_areApart 18 = .ok (.ifCond .eq 22, 3) := by decide +kernel
theorem dX2_areApart_21 : decode cX2_areApart 21 = .ok (.aload_n 0, 1) := by decide +kernel
theorem dX2_areApart_22 : decode cX2_areApart 22 = .ok (.getfield 30, 3) := by decide +kernel
theorem dX2_areApart_25 : decode cX2_areApart 25 = .ok (.getfield 40, 3) := by decide +kernel
theorem dX2_areApart_28 : decode cX2_areApart 28 = .ok (.iload_n 2, 1) := by decide +kernel
theorem dX2_areApart_29 : decode cX2_areApart 29 = .ok (.iaload, 1) := by decide +kernel
theorem dX2_areApart_30 : decode cX2_areApart 30 = .ok (.iload_n 1, 1) := by decide +kernel
theorem dX2_areApart_31 : decode cX2_areApart 31 = .ok (.iand, 1) := by decide +kernel
theorem dX2_areApart_32 : decode cX2_areApart 32 = .ok (.iconst 1, 1) := by decide +kernel
theorem dX2_areApart_33 : decode cX2_areApart 33 = .ok (.iload_n 2, 1) := by decide +kernel
theorem dX2_areApart_34 : decode cX2_areApart 34 = .ok (.ishl, 1) := by decide +kernel
theorem dX2_areApart_35 : decode cX2_areApart 35 = .ok (.if_icmp .eq 5, 3) := by decide +kernel
theorem dX2_areApart_38 : decode cX2_areApart 38 = .ok (.iconst 0, 1) := by decide +kernel
theorem dX2_areApart_39 : decode cX2_areApart 39 = .ok (.ireturn, 1) := by decide +kernel
theorem dX2_areApart_40 : decode cX2_areApart 40 = .ok (.iinc 2 1, 3) := by decide +kernel
theorem dX2_areApart_43 : decode cX2_areApart 43 = .ok (.goto (-41), 3) := by decide +kernel
theorem dX2_areApart_46 : decode cX2_areApart 46 = .ok (.iconst 1, 1) := by decide +kernel
theorem dX2_areApart_47 : decode cX2_areApart 47 = .ok (.ireturn, 1) := by decide +kernel
set_option maxRecDepth 100000 in
set_option maxHeartbeats 4000000 in
theorem c_X2_areApart {l : Launch} {G : Gx} (hap : k_ap G shC.length) (v1 : Int32) (M0 : Mem) (r : Int32) (hf : f_X2_areApart v1 M0 = some r) : k_Met l yX2_areApart cX2_areApart 3 (some .boolean) 0 0 G shC [.ref (G.2.1 36), .int v1] M0 (k_Qi G shC r M0) := by
  refine k_Met_of (by decide) hap (Nat.le_of_ble_eq_true rfl) ?_
  intro p e s m args below meth c C hr hlk
  have C : Cx p s m args c cX2_areApart RX2 3 G shC := C
  have k_b2 : ∀ (n2 : Nat) (v1 : Int32) (v2 : Int32), f_X2_areApart_b2 M0 n2 v1 v2 = some r → K p l e (k_rm 0 0) s m args below meth c 3 G shC (MQ below (k_Qi G shC r M0) args s 0 0 (k_A G shC.length)) 2 [(0, .ref (G.2.1 36)), (1, .int v1), (2, .int v2)] [] M0 := by
    intro n2
    induction n2 with
    | zero => intro v1 v2 hf; simp [f_X2_areApart_b2] at hf
    | succ n2 ih2 =>
      intro v1 v2 hf
      unfold f_X2_areApart_b2 at hf
      refine k_iload_n C dX2_areApart_2 2 rfl ?_
      refine k_aload_n C dX2_areApart_3 0 rfl ?_
      refine k_getr C shC_36 (j := 0) rfl FL_X2_26 dX2_areApart_4 ?_
      refine k_geti C shC_1 (j := 4) rfl FL_X2_34 dX2_areApart_7 ?_
      rcases ite_g hf with ⟨c1, hf⟩ | ⟨c1, hf⟩
      · refine k_icmp_ge_t C dX2_areApart_10 (tgt := 46) (by decide) c1 ?_
        refine k_iconst C dX2_areApart_46 (v := (1 : Int32)) rfl ?_
        exact k_zret C hr hlk (gZ1.trans (congrArg some (Option.some.inj hf))) rfl dX2_areApart_47
      · refine k_icmp_ge_f C dX2_areApart_10 (tgt := 46) (by decide) c1 ?_
        refine k_iload_n C dX2_areApart_13 1 rfl ?_
        refine k_iload_n C dX2_areApart_14 2 rfl ?_
        refine k_ishrJ C dX2_areApart_15 ?_
        refine k_iconst C dX2_areApart_16 (v := (1 : Int32)) rfl ?_
        refine k_iand C dX2_areApart_17 ?_
        rcases ite_g hf with ⟨c2, hf⟩ | ⟨c2, hf⟩
        · refine k_if_eq_t C dX2_areApart_18 (tgt := 40) (by decide) c2 ?_
          refine k_iinc C dX2_areApart_40 2 rfl (v := (v2 + (1 : Int32))) rfl (by decide) [1, 2, 0] (lv' := [(0, .ref (G.2.1 36)), (1, .int v1), (2, .int (v2 + (1 : Int32)))]) rfl ?_
          refine k_goto C dX2_areApart_43 (tgt := 2) (by decide) ?_
          exact ih2 v1 (v2 + (1 : Int32)) hf
        · refine k_if_eq_f C dX2_areApart_18 (tgt := 40) (by decide) c2 ?_
          refine k_aload_n C dX2_areApart_21 0 rfl ?_
          refine k_getr C shC_36 (j := 1) rfl FL_X2_30 dX2_areApart_22 ?_
          refine k_getr C shC_25 (j := 1) rfl FL_X2_40 dX2_areApart_25 ?_
          refine k_iload_n C dX2_areApart_28 2 rfl ?_
          obtain ⟨t3, ht3, hf⟩ := bnd hf
          refine k_iald C shC_26 ht3 dX2_areApart_29 ?_
          refine k_iload_n C dX2_areApart_30 1 rfl ?_
          refine k_iand C dX2_areApart_31 ?_
          refine k_iconst C dX2_areApart_32 (v := (1 : Int32)) rfl ?_
          refine k_iload_n C dX2_areApart_33 2 rfl ?_
          refine k_ishlJ C dX2_areApart_34 ?_
          rcases ite_g hf with ⟨c4, hf⟩ | ⟨c4, hf⟩
          · refine k_icmp_eq_t C dX2_areApart_35 (tgt := 40) (by decide) c4 ?_
            refine k_iinc C dX2_areApart_40 2 rfl (v := (v2 + (1 : Int32))) rfl (by decide) [1, 2, 0] (lv' := [(0, .ref (G.2.1 36)), (1, .int v1), (2, .int (v2 + (1 : Int32)))]) rfl ?_
            refine k_goto C dX2_areApart_43 (tgt := 2) (by decide) ?_
            exact ih2 v1 (v2 + (1 : Int32)) hf
          · refine k_icmp_eq_f C dX2_areApart_35 (tgt := 40) (by decide) c4 ?_
            refine k_iconst C dX2_areApart_38 (v := (0 : Int32)) rfl ?_
            exact k_zret C hr hlk (gZ0.trans (congrArg some (Option.some.inj hf))) rfl dX2_areApart_39
  unfold f_X2_areApart at hf
  refine k_lv (lv' := [(0, .ref (G.2.1 36)), (1, .int v1)]) [0, 1] rfl ?_
  refine k_iconst C dX2_areApart_0 (v := (0 : Int32)) rfl ?_
  refine k_istore_n C dX2_areApart_1 (by decide) [1, 2, 0] (lv' := [(0, .ref (G.2.1 36)), (1, .int v1), (2, .int (0 : Int32))]) rfl ?_
  exact k_b2 FU v1 (0 : Int32) hf
theorem dJ7_fill_53178_0 : decode cJ7_fill_53178 0 = .ok (.iconst 0, 1) := by decide +kernel
theorem dJ7_fill_53178_1 : decode cJ7_fill_53178 1 = .ok (.istore_n 2, 1) := by decide +kernel
theorem dJ7_fill_53178_2 : decode cJ7_fill_53178 2 = .ok (.aload_n 0, 1) := by decide +kernel
theorem dJ7_fill_53178_3 : decode cJ7_fill_53178 3 = .ok (.arraylength, 1) := by decide +kernel
theorem dJ7_fill_53178_4 : decode cJ7_fill_53178 4 = .ok (.istore_n 3, 1) := by decide +kernel
theorem dJ7_fill_53178_5 : decode cJ7_fill_53178 5 = .ok (.iload_n 2, 1) := by decide +kernel
theorem dJ7_fill_53178_6 : decode cJ7_fill_53178 6 = .ok (.iload_n 3, 1) := by decide +kernel
theorem dJ7_fill_53178_7 : decode cJ7_fill_53178 7 = .ok (.if_icmp .ge 13, 3) := by decide +kernel
theorem dJ7_fill_53178_10 : decode cJ7_fill_53178 10 = .ok (.aload_n 0, 1) := by decide +kernel
theorem dJ7_fill_53178_11 : decode cJ7_fill_53178 11 = .ok (.iload_n 2, 1) := by decide +kernel
theorem dJ7_fill_53178_12 : decode cJ7_fill_53178 12 = .ok (.iload_n 1, 1) := by decide +kernel
theorem dJ7_fill_53178_13 : decode cJ7_fill_53178 13 = .ok (.iastore, 1) := by decide +kernel
theorem dJ7_fill_53178_14 : decode cJ7_fill_53178 14 = .ok (.iinc 2 1, 3) := by decide +kernel
theorem dJ7_fill_53178_17 : decode cJ7_fill_53178 17 = .ok (.goto (-12), 3) := by decide +kernel
theorem dJ7_fill_53178_20 : decode cJ7_fill_53178 20 = .ok (.return_, 1) := by decide +kernel
set_option maxRecDepth 100000 in
set_option maxHeartbeats 4000000 in
theorem c_J7_fill_53178 {l : Launch} {G : Gx} (hap : k_ap G shC.length) (q : Nat) (n : Nat) (hq : shC[q]? = some (.inl (0, n))) (v1 : Int32) (M0 : Mem) (r : Mem) (hf : f_J7_fill_53178 q n v1 M0 = some r) : k_Met l yJ7_fill_53178 cJ7_fill_53178 4 none 0 0 G shC [.ref (G.2.1 q), .int v1] M0 (k_Qv G shC r) := by
  refine k_Met_of (by decide) hap (Nat.le_of_ble_eq_true rfl) ?_
  intro p e s m args below meth c C hr hlk
  have C : Cx p s m args c cJ7_fill_53178 RJ7 4 G shC := C
  have k_b5 : ∀ (n5 : Nat) (v1 : Int32) (v2 : Int32) (v3 : Int32) (M : Mem), f_J7_fill_53178_b5 q n n5 v1 v2 v3 M = some r → K p l e (k_rm 0 0) s m args below meth c 4 G shC (MQ below (k_Qv G shC r) args s 0 0 (k_A G shC.length)) 5 [(0, .ref (G.2.1 q)), (1, .int v1), (2, .int v2), (3, .int v3)] [] M := by
    intro n5
    induction n5 with
    | zero => intro v1 v2 v3 M hf; simp [f_J7_fill_53178_b5] at hf
    | succ n5 ih5 =>
      intro v1 v2 v3 M hf
      unfold f_J7_fill_53178_b5 at hf
      refine k_iload_n C dJ7_fill_53178_5 2 rfl ?_
      refine k_iload_n C dJ7_fill_53178_6 3 rfl ?_
      rcases ite_g hf with ⟨c1, hf⟩ | ⟨c1, hf⟩
      · refine k_icmp_ge_t C dJ7_fill_53178_7 (tgt := 20) (by decide) c1 ?_
        exact k_vret C hr hlk (Option.some.inj hf) dJ7_fill_53178_20
      · refine k_icmp_ge_f C dJ7_fill_53178_7 (tgt := 20) (by decide) c1 ?_
        refine k_aload_n C dJ7_fill_53178_10 0 rfl ?_
        refine k_iload_n C dJ7_fill_53178_11 2 rfl ?_
        refine k_iload_n C dJ7_fill_53178_12 1 rfl ?_
        obtain ⟨M2, hM2, hf⟩ := bnd hf
        refine k_iast C hq hM2 dJ7_fill_53178_13 ?_
        refine k_iinc C dJ7_fill_53178_14 2 rfl (v := (v2 + (1 : Int32))) rfl (by decide) [1, 2, 0, 3] (lv' := [(0, .ref (G.2.1 q)), (1, .int v1), (2, .int (v2 + (1 : Int32))), (3, .int v3)]) rfl ?_
        refine k_goto C dJ7_fill_53178_17 (tgt := 5) (by decide) ?_
        exact ih5 v1 (v2 + (1 : Int32)) v3 M2 hf
  unfold f_J7_fill_53178 at hf
  refine k_lv (lv' := [(0, .ref (G.2.1 q)), (1, .int v1)]) [0, 1] rfl ?_
  refine k_iconst C dJ7_fill_53178_0 (v := (0 : Int32)) rfl ?_
  refine k_istore_n C dJ7_fill_53178_1 (by decide) [1, 2, 0] (lv' := [(0, .ref (G.2.1 q)), (1, .int v1), (2, .int (0 : Int32))]) rfl ?_
  refine k_aload_n C dJ7_fill_53178_2 0 rfl ?_
  refine k_alen C hq dJ7_fill_53178_3 ?_
  refine k_istore_n C dJ7_fill_53178_4 (by decide) [1, 2, 3, 0] (lv' := [(0, .ref (G.2.1 q)), (1, .int v1), (2, .int (0 : Int32)), (3, .int (nI n))]) rfl ?_
  exact k_b5 FU v1 (0 : Int32) (nI n) M0 hf
theorem dX8_forgetSteps_0 : decode cX8_forgetSteps 0 = .ok (.aload_n 0, 1) := by decide +kernel
theorem dX8_forgetSteps_1 : decode cX8_forgetSteps 1 = .ok (.getfield 15, 3) := by decide +kernel
theorem dX8_forgetSteps_4 : decode cX8_forgetSteps 4 = .ok (.iconst 0, 1) := by decide +kernel
theorem dX8_forgetSteps_5 : decode cX8_forgetSteps 5 = .ok (.invokestatic 52, 3) := by decide +kernel
theorem dX8_forgetSteps_8 : decode cX8_forgetSteps 8 = .ok (.return_, 1) := by decide +kernel
set_option maxRecDepth 100000 in
set_option maxHeartbeats 4000000 in
theorem c_X8_forgetSteps {l : Launch} {G : Gx} (hap : k_ap G shC.length) (M0 : Mem) (r : Mem) (hf : f_X8_forgetSteps M0 = some r) : k_Met l yX8_forgetSteps cX8_forgetSteps 1 none 1 23 G shC [.ref (G.2.1 25)] M0 (k_Qv G shC r) := by
  refine k_Met_of (by decide) hap (Nat.le_of_ble_eq_true rfl) ?_
  intro p e s m args below meth c C hr hlk
  have C : Cx p s m args c cX8_forgetSteps RX8 1 G shC := C
  unfold f_X8_forgetSteps at hf
  refine k_lv (lv' := [(0, .ref (G.2.1 25))]) [0] rfl ?_
  refine k_aload_n C dX8_forgetSteps_0 0 rfl ?_
  refine k_getr C shC_25 (j := 2) rfl FL_X8_15 dX8_forgetSteps_1 ?_
  refine k_iconst C dX8_forgetSteps_4 (v := (0 : Int32)) rfl ?_
  obtain ⟨M1, hM1, hf⟩ := bnd hf
  refine k_callSv C (As := [.ref (G.2.1 27), .int (0 : Int32)]) (c_J7_fill_53178 hap 27 8 shC_27 (0 : Int32) M0 M1 hM1) MS_J7_fill_53178 wd_585 rfl rfl ⟨Nat.le_of_ble_eq_true rfl, Nat.le_of_ble_eq_true rfl⟩ (Nat.le_of_ble_eq_true rfl) dX8_forgetSteps_5 ?_
  exact k_vret C hr hlk (Option.some.inj hf) dX8_forgetSteps_8
