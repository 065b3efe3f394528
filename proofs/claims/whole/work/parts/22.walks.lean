/-! walks, printed by a program of mine: each method meets its function -/
theorem dX12_moved_0 : decode cX12_moved 0 = .ok (.iload_n 1, 1) := by decide +kernel
theorem dX12_moved_1 : decode cX12_moved 1 = .ok (.iconst (-1), 1) := by decide +kernel
theorem dX12_moved_2 : decode cX12_moved 2 = .ok (.if_icmp .eq 17, 3) := by decide +kernel
theorem dX12_moved_5 : decode cX12_moved 5 = .ok (.aload_n 0, 1) := by decide +kernel
theorem dX12_moved_6 : decode cX12_moved 6 = .ok (.iload_n 1, 1) := by decide +kernel
theorem dX12_moved_7 : decode cX12_moved 7 = .ok (.invokevirtual 170, 3) := by decide +kernel
theorem dX12_moved_10 : decode cX12_moved 10 = .ok (.ifCond .ne 9, 3) := by decide +kernel
theorem dX12_moved_13 : decode cX12_moved 13 = .ok (.aload_n 0, 1) := by decide +kernel
theorem dX12_moved_14 : decode cX12_moved 14 = .ok (.iconst (-1), 1) := by decide +kernel
theorem dX12_moved_15 : decode cX12_moved 15 = .ok (.invokevirtual 75, 3) := by decide +kernel
theorem dX12_moved_18 : decode cX12_moved 18 = .ok (.ireturn, 1) := by decide +kernel
theorem dX12_moved_19 : decode cX12_moved 19 = .ok (.iload_n 1, 1) := by decide +kernel
theorem dX12_moved_20 : decode cX12_moved 20 = .ok (.ifCond .lt 9, 3) := by decide +kernel
theorem dX12_moved_23 : decode cX12_moved 23 = .ok (.aload_n 0, 1) := by decide +kernel
theorem dX12_moved_24 : decode cX12_moved 24 = .ok (.iload_n 1, 1) := by decide +kernel
theorem dX12_moved_25 : decode cX12_moved 25 = .ok (.invokevirtual 285, 3) := by decide +kernel
theorem dX12_moved_28 : decode cX12_moved 28 = .ok (.ireturn, 1) := by decide +kernel
theorem dX12_moved_29 : decode cX12_moved 29 = .ok (.bipush (-9), 2) := by decide +kernel
theorem dX12_moved_31 : decode cX12_moved 31 = .ok (.istore_n 2, 1) := by decide +kernel
theorem dX12_moved_32 : decode cX12_moved 32 = .ok (.aload_n 0, 1) := by decide +kernel
theorem dX12_moved_33 : decode cX12_moved 33 = .ok (.invokevirtual 173, 3) := by decide +kernel
theorem dX12_moved_36 : decode cX12_moved 36 = .ok (.istore_n 3, 1) := by decide +kernel
theorem dX12_moved_37 : decode cX12_moved 37 = .ok (.iconst 0, 1) := by decide +kernel
theorem dX12_moved_38 : decode cX12_moved 38 = .ok (.istore 4, 2) := by decide +kernel
theorem dX12_moved_40 : decode cX12_moved 40 = .ok (.iload 4, 2) := by decide +kernel
theorem dX12_moved_42 : decode cX12_moved 42 = .ok (.aload_n 0, 1) := by decide +kernel
theorem dX12_moved_43 : decode cX12_moved 43 = .ok (.getfield 108, 3) := by decide +kernel
theorem dX12_moved_46 : decode cX12_moved 46 = .ok (.if_icmp .ge 32, 3) := by decide +kernel
theorem dX12_moved_49 : decode cX12_moved 49 = .ok (.aload_n 0, 1) := by decide +kernel
theorem dX12_moved_50 : decode cX12_moved 50 = .ok (.iload 4, 2) := by decide +kernel
theorem dX12_moved_52 : decode cX12_moved 52 = .ok (.invokevirtual 285, 3) := by decide +kernel
theorem dX12_moved_55 : decode cX12_moved 55 = .ok (.istore 5, 2) := by decide +kernel
theorem dX12_moved_57 : decode cX12_moved 57 = .ok (.iload 5, 2) := by decide +kernel
theorem dX12_moved_59 : decode cX12_moved 59 = .ok (.iload_n 3, 1) := by decide +kernel
theorem dX12_moved_60 : decode cX12_moved 60 = .ok (.if_icmp .lt 6, 3) := by decide +kernel
theorem dX12_moved_63 : decode cX12_moved 63 = .ok (.goto 9, 3) := by decide +kernel
theorem dX12_moved_66 : decode cX12_moved 66 = .ok (.iload 4, 2) := by decide +kernel
theorem dX12_moved_68 : decode cX12_moved 68 = .ok (.istore_n 2, 1) := by decide +kernel
theorem dX12_moved_69 : decode cX12_moved 69 = .ok (.iload 5, 2) := by decide +kernel
theorem dX12_moved_71 : decode cX12_moved 71 = .ok (.istore_n 3, 1) := by decide +kernel
theorem dX12_moved_72 : decode cX12_moved 72 = .ok (.iinc 4 1, 3) := by decide +kernel
theorem dX12_moved_75 : decode cX12_moved 75 = .ok (.goto (-35), 3) := by decide +kernel
theorem dX12_moved_78 : decode cX12_moved 78 = .ok (.iload_n 2, 1) := by decide +kernel
theorem dX12_moved_79 : decode cX12_moved 79 = .ok (.ireturn, 1) := by decide +kernel
set_option maxRecDepth 100000 in
set_option maxHeartbeats 4000000 in
theorem c_X12_moved {l : Launch} {G : Gx} (hap : k_ap G shR.length) (v1 : Int32) (M0 : Mem) (r : Int32 × Mem) (hf : f_X12_moved v1 M0 = some r) : k_Met l yX12_moved cX12_moved 6 (some .int) 6 134 G shR [.ref (G.2.1 0), .int v1] M0 (k_Qi G shR r.1 r.2) := by
  refine k_Met_of (by decide) hap (Nat.le_of_ble_eq_true rfl) ?_
  intro p e s m args below meth c C hr hlk
  have C : Cx p s m args c cX12_moved RX12 6 G shR := C
  have k_b40 : ∀ (n40 : Nat) (v2 : Int32) (v3 : Int32) (v4 : Int32) (M : Mem), f_X12_moved_b40 n40 v2 v3 v4 M = some r → K p l e (k_rm 6 134) s m args below meth c 6 G shR (MQ below (k_Qi G shR r.1 r.2) args s 0 0 (k_A G shR.length)) 40 [(0, .ref (G.2.1 0)), (2, .int v2), (3, .int v3), (4, .int v4)] [] M := by
    intro n40
    induction n40 with
    | zero => intro v2 v3 v4 M hf; simp [f_X12_moved_b40] at hf
    | succ n40 ih40 =>
      intro v2 v3 v4 M hf
      unfold f_X12_moved_b40 at hf
      refine k_iload C dX12_moved_40 3 rfl ?_
      refine k_aload_n C dX12_moved_42 0 rfl ?_
      refine k_geti C shR_0 (j := 6) rfl FL_X12_108 dX12_moved_43 ?_
      rcases ite_g hf with ⟨c5, hf⟩ | ⟨c5, hf⟩
      · refine k_icmp_ge_t C dX12_moved_46 (tgt := 78) (by decide) c5 ?_
        refine k_iload_n C dX12_moved_78 1 rfl ?_
        exact k_iret C hr hlk (prf hf) (prs hf) dX12_moved_79
      · refine k_icmp_ge_f C dX12_moved_46 (tgt := 78) (by decide) c5 ?_
        refine k_aload_n C dX12_moved_49 0 rfl ?_
        refine k_iload C dX12_moved_50 3 rfl ?_
        obtain ⟨⟨t6, M6⟩, ht6, hf⟩ := bnd hf
        replace hf := bp_s hf
        refine k_callVi C (As := [.int v4]) (c_X12_dueMoved hap v4 M (t6, M6) ht6) ML_X12_dueMoved wd_1776 shR_0 rfl rfl rfl ⟨Nat.le_of_ble_eq_true rfl, Nat.le_of_ble_eq_true rfl⟩ (Nat.le_of_ble_eq_true rfl) dX12_moved_52 ?_
        refine k_istore C dX12_moved_55 (by decide) [1, 2, 3, 4, 0] (lv' := [(0, .ref (G.2.1 0)), (2, .int v2), (3, .int v3), (4, .int v4), (5, .int t6)]) rfl ?_
        refine k_iload C dX12_moved_57 4 rfl ?_
        refine k_iload_n C dX12_moved_59 2 rfl ?_
        rcases ite_g hf with ⟨c7, hf⟩ | ⟨c7, hf⟩
        · refine k_icmp_lt_t C dX12_moved_60 (tgt := 66) (by decide) c7 ?_
          refine k_iload C dX12_moved_66 3 rfl ?_
          refine k_istore_n C dX12_moved_68 (by decide) [1, 0, 3, 4] (lv' := [(0, .ref (G.2.1 0)), (2, .int v4), (4, .int v4), (5, .int t6)]) rfl ?_
          refine k_iload C dX12_moved_69 3 rfl ?_
          refine k_istore_n C dX12_moved_71 (by decide) [1, 2, 0, 3] (lv' := [(0, .ref (G.2.1 0)), (2, .int v4), (3, .int t6), (4, .int v4)]) rfl ?_
          refine k_iinc C dX12_moved_72 3 rfl (v := (v4 + (1 : Int32))) rfl (by decide) [1, 2, 3, 0] (lv' := [(0, .ref (G.2.1 0)), (2, .int v4), (3, .int t6), (4, .int (v4 + (1 : Int32)))]) rfl ?_
          refine k_goto C dX12_moved_75 (tgt := 40) (by decide) ?_
          exact ih40 v4 t6 (v4 + (1 : Int32)) M6 hf
        · refine k_icmp_lt_f C dX12_moved_60 (tgt := 66) (by decide) c7 ?_
          refine k_goto C dX12_moved_63 (tgt := 72) (by decide) ?_
          refine k_iinc C dX12_moved_72 3 rfl (v := (v4 + (1 : Int32))) rfl (by decide) [1, 2, 3, 0] (lv' := [(0, .ref (G.2.1 0)), (2, .int v2), (3, .int v3), (4, .int (v4 + (1 : Int32)))]) rfl ?_
          refine k_goto C dX12_moved_75 (tgt := 40) (by decide) ?_
          exact ih40 v2 v3 (v4 + (1 : Int32)) M6 hf
  have k_b19 : ∀ (v1 : Int32) (M : Mem), f_X12_moved_b19 v1 M = some r → K p l e (k_rm 6 134) s m args below meth c 6 G shR (MQ below (k_Qi G shR r.1 r.2) args s 0 0 (k_A G shR.length)) 19 [(0, .ref (G.2.1 0)), (1, .int v1)] [] M := by
    intro v1 M hf
    unfold f_X12_moved_b19 at hf
    refine k_iload_n C dX12_moved_19 1 rfl ?_
    rcases ite_g hf with ⟨c2, hf⟩ | ⟨c2, hf⟩
    · refine k_if_lt_t C dX12_moved_20 (tgt := 29) (by decide) c2 ?_
      refine k_bipush C dX12_moved_29 (v := (-9 : Int32)) rfl ?_
      refine k_istore_n C dX12_moved_31 (by decide) [1, 0] (lv' := [(0, .ref (G.2.1 0)), (2, .int (-9 : Int32))]) rfl ?_
      refine k_aload_n C dX12_moved_32 0 rfl ?_
      obtain ⟨t3, ht3, hf⟩ := bnd hf
      refine k_callVi C (As := []) (c_X12_all hap M t3 ht3) ML_X12_all wd_1502 shR_0 rfl rfl rfl ⟨Nat.le_of_ble_eq_true rfl, Nat.le_of_ble_eq_true rfl⟩ (Nat.le_of_ble_eq_true rfl) dX12_moved_33 ?_
      refine k_istore_n C dX12_moved_36 (by decide) [1, 2, 0] (lv' := [(0, .ref (G.2.1 0)), (2, .int (-9 : Int32)), (3, .int t3)]) rfl ?_
      refine k_iconst C dX12_moved_37 (v := (0 : Int32)) rfl ?_
      refine k_istore C dX12_moved_38 (by decide) [1, 2, 3, 0] (lv' := [(0, .ref (G.2.1 0)), (2, .int (-9 : Int32)), (3, .int t3), (4, .int (0 : Int32))]) rfl ?_
      exact k_b40 FU (-9 : Int32) t3 (0 : Int32) M hf
    · refine k_if_lt_f C dX12_moved_20 (tgt := 29) (by decide) c2 ?_
      refine k_aload_n C dX12_moved_23 0 rfl ?_
      refine k_iload_n C dX12_moved_24 1 rfl ?_
      obtain ⟨⟨t8, M8⟩, ht8, hf⟩ := bnd hf
      replace hf := bp_s hf
      refine k_callVi C (As := [.int v1]) (c_X12_dueMoved hap v1 M (t8, M8) ht8) ML_X12_dueMoved wd_1776 shR_0 rfl rfl rfl ⟨Nat.le_of_ble_eq_true rfl, Nat.le_of_ble_eq_true rfl⟩ (Nat.le_of_ble_eq_true rfl) dX12_moved_25 ?_
      exact k_iret C hr hlk (prf hf) (prs hf) dX12_moved_28
  unfold f_X12_moved at hf
  refine k_lv (lv' := [(0, .ref (G.2.1 0)), (1, .int v1)]) [0, 1] rfl ?_
  refine k_iload_n C dX12_moved_0 1 rfl ?_
  refine k_iconst C dX12_moved_1 (v := (-1 : Int32)) rfl ?_
  rcases ite_g hf with ⟨c1, hf⟩ | ⟨c1, hf⟩
  · refine k_icmp_eq_t C dX12_moved_2 (tgt := 19) (by decide) c1 ?_
    exact k_b19 v1 M0 hf
  · refine k_icmp_eq_f C dX12_moved_2 (tgt := 19) (by decide) c1 ?_
    refine k_aload_n C dX12_moved_5 0 rfl ?_
    refine k_iload_n C dX12_moved_6 1 rfl ?_
    refine k_callVi C (As := [.int v1]) (c_X12_isPlace hap v1 M0 _ rfl) ML_X12_isPlace wd_1494 shR_0 rfl rfl rfl ⟨Nat.le_of_ble_eq_true rfl, Nat.le_of_ble_eq_true rfl⟩ (Nat.le_of_ble_eq_true rfl) dX12_moved_7 ?_
    rcases ite_g hf with ⟨c9, hf⟩ | ⟨c9, hf⟩
    · refine k_if_ne_f C dX12_moved_10 (tgt := 19) (by decide) c9 ?_
      refine k_aload_n C dX12_moved_13 0 rfl ?_
      refine k_iconst C dX12_moved_14 (v := (-1 : Int32)) rfl ?_
      obtain ⟨⟨t10, M10⟩, ht10, hf⟩ := bnd hf
      replace hf := bp_s hf
      refine k_callVi C (As := [.int (-1 : Int32)]) (c_X12_no hap (-1 : Int32) M0 (t10, M10) ht10) ML_X12_no wd_1369 shR_0 rfl rfl rfl ⟨Nat.le_of_ble_eq_true rfl, Nat.le_of_ble_eq_true rfl⟩ (Nat.le_of_ble_eq_true rfl) dX12_moved_15 ?_
      exact k_iret C hr hlk (prf hf) (prs hf) dX12_moved_18
    · refine k_if_ne_t C dX12_moved_10 (tgt := 19) (by decide) c9 ?_
      exact k_b19 v1 M0 hf
theorem dX12_unlikeMarks_0 : decode cX12_unlikeMarks 0 = .ok (.iconst 0, 1) := by decide +kernel
theorem dX12_unlikeMarks_1 : decode cX12_unlikeMarks 1 = .ok (.istore_n 1, 1) := by decide +kernel
theorem dX12_unlikeMarks_2 : decode cX12_unlikeMarks 2 = .ok (.iconst 0, 1) := by decide +kernel
theorem dX12_unlikeMarks_3 : decode cX12_unlikeMarks 3 = .ok (.istore_n 2, 1) := by decide +kernel
theorem dX12_unlikeMarks_4 : decode cX12_unlikeMarks 4 = .ok (.iload_n 2, 1) := by decide +kernel
theorem dX12_unlikeMarks_5 : decode cX12_unlikeMarks 5 = .ok (.aload_n 0, 1) := by decide +kernel
theorem dX12_unlikeMarks_6 : decode cX12_unlikeMarks 6 = .ok (.getfield 62, 3) := by decide +kernel
theorem dX12_unlikeMarks_9 : decode cX12_unlikeMarks 9 = .ok (.if_icmp .ge 64, 3) := by decide +kernel
theorem dX12_unlikeMarks_12 : decode cX12_unlikeMarks 12 = .ok (.iconst 1, 1) := by decide +kernel
theorem dX12_unlikeMarks_13 : decode cX12_unlikeMarks 13 = .ok (.istore_n 3, 1) := by decide +kernel
theorem dX12_unlikeMarks_14 : decode cX12_unlikeMarks 14 = .ok (.iconst 0, 1) := by decide +kernel
theorem dX12_unlikeMarks_15 : decode cX12_unlikeMarks 15 = .ok (.istore 4, 2) := by decide +kernel
theorem dX12_unlikeMarks_17 : decode cX12_unlikeMarks 17 = .ok (.iload 4, 2) := by decide +kernel
theorem dX12_unlikeMarks_19 : decode cX12_unlikeMarks 19 = .ok (.iload_n 2, 1) := by decide +kernel
theorem dX12_unlikeMarks_20 : decode cX12_unlikeMarks 20 = .ok (.if_icmp .ge 35, 3) := by decide +kernel
theorem dX12_unlikeMarks_23 : decode cX12_unlikeMarks 23 = .ok (.iload_n 3, 1) := by decide +kernel
theorem dX12_unlikeMarks_24 : decode cX12_unlikeMarks 24 = .ok (.ifCond .eq 23, 3) := by decide +kernel
theorem dX12_unlikeMarks_27 : decode cX12_unlikeMarks 27 = .ok (.aload_n 0, 1) := by decide +kernel
theorem dX12_unlikeMarks_28 : decode cX12_unlikeMarks 28 = .ok (.getfield 19, 3) := by decide +kernel
theorem dX12_unlikeMarks_31 : decode cX12_unlikeMarks 31 = .ok (.iload_n 2, 1) := by decide +kernel
theorem dX12_unlikeMarks_32 : decode cX12_unlikeMarks 32 = .ok (.iaload, 1) := by decide +kernel
theorem dX12_unlikeMarks_33 : decode cX12_unlikeMarks 33 = .ok (.aload_n 0, 1) := by decide +kernel
theorem dX12_unlikeMarks_34 : decode cX12_unlikeMarks 34 = .ok (.getfield 19, 3) := by decide +kernel
theorem dX12_unlikeMarks_37 : decode cX12_unlikeMarks 37 = .ok (.iload 4, 2) := by decide +kernel
theorem dX12_unlikeMarks_39 : decode cX12_unlikeMarks 39 = .ok (.iaload, 1) := by decide +kernel
theorem dX12_unlikeMarks_40 : decode cX12_unlikeMarks 40 = .ok (.if_icmp .eq 7, 3) := by decide +kernel
theorem dX12_unlikeMarks_43 : decode cX12_unlikeMarks 43 = .ok (.iconst 1, 1) := by decide +kernel
theorem dX12_unlikeMarks_44 : decode cX12_unlikeMarks 44 = .ok (.goto 4, 3) := by decide +kernel
theorem dX12_unlikeMarks_47 : decode cX12_unlikeMarks 47 = .ok (.iconst 0, 1) := by decide +kernel
theorem dX12_unlikeMarks_48 : decode cX12_unlikeMarks 48 = .ok (.istore_n 3, 1) := by decide +kernel
theorem dX12_unlikeMarks_49 : decode cX12_unlikeMarks 49 = .ok (.iinc 4 1, 3) := by decide +kernel
theorem dX12_unlikeMarks_52 : decode cX12_unlikeMarks 52 = .ok (.goto (-35), 3) := by decide +kernel
theorem dX12_unlikeMarks_55 : decode cX12_unlikeMarks 55 = .ok (.iload_n 1, 1) := by decide +kernel
theorem dX12_unlikeMarks_56 : decode cX12_unlikeMarks 56 = .ok (.iload_n 3, 1) := by decide +kernel
theorem dX12_unlikeMarks_57 : decode cX12_unlikeMarks 57 = .ok (.ifCond .eq 7, 3) := by decide +kernel
theorem dX12_unlikeMarks_60 : decode cX12_unlikeMarks 60 = .ok (.iconst 1, 1) := by decide +kernel
theorem dX12_unlikeMarks_61 : decode cX12_unlikeMarks 61 = .ok (.goto 4, 3) := by decide +kernel
theorem dX12_unlikeMarks_64 : decode cX12_unlikeMarks 64 = .ok (.iconst 0, 1) := by decide +kernel
theorem dX12_unlikeMarks_65 : decode cX12_unlikeMarks 65 = .ok (.iadd, 1) := by decide +kernel
theorem dX12_unlikeMarks_66 : decode cX12_unlikeMarks 66 = .ok (.istore_n 1, 1) := by decide +kernel
theorem dX12_unlikeMarks_67 : decode cX12_unlikeMarks 67 = .ok (.iinc 2 1, 3) := by decide +kernel
theorem dX12_unlikeMarks_70 : decode cX12_unlikeMarks 70 = .ok (.goto (-66), 3) := by decide +kernel
theorem dX12_unlikeMarks_73 : decode cX12_unlikeMarks 73 = .ok (.iload_n 1, 1) := by decide +kernel
theorem dX12_unlikeMarks_74 : decode cX12_unlikeMarks 74 = .ok (.ireturn, 1) := by decide +kernel
set_option maxRecDepth 100000 in
set_option maxHeartbeats 4000000 in
theorem c_X12_unlikeMarks {l : Launch} {G : Gx} (hap : k_ap G shR.length) (M0 : Mem) (r : Int32) (hf : f_X12_unlikeMarks M0 = some r) : k_Met l yX12_unlikeMarks cX12_unlikeMarks 5 (some .int) 0 0 G shR [.ref (G.2.1 0)] M0 (k_Qi G shR r M0) := by
  refine k_Met_of (by decide) hap (Nat.le_of_ble_eq_true rfl) ?_
  intro p e s m args below meth c C hr hlk
  have C : Cx p s m args c cX12_unlikeMarks RX12 5 G shR := C
  have k_b4 : ∀ (n4 : Nat) (v1 : Int32) (v2 : Int32), f_X12_unlikeMarks_b4 M0 n4 v1 v2 = some r → K p l e (k_rm 0 0) s m args below meth c 5 G shR (MQ below (k_Qi G shR r M0) args s 0 0 (k_A G shR.length)) 4 [(0, .ref (G.2.1 0)), (1, .int v1), (2, .int v2)] [] M0 := by
    intro n4
    induction n4 with
    | zero => intro v1 v2 hf; simp [f_X12_unlikeMarks_b4] at hf
    | succ n4 ih4 =>
      have k_b17 : ∀ (n17 : Nat) (v1 : Int32) (v2 : Int32) (v3 : Int32) (v4 : Int32), f_X12_unlikeMarks_b17 M0 (f_X12_unlikeMarks_b4 M0 n4) n17 v1 v2 v3 v4 = some r → K p l e (k_rm 0 0) s m args below meth c 5 G shR (MQ below (k_Qi G shR r M0) args s 0 0 (k_A G shR.length)) 17 [(0, .ref (G.2.1 0)), (1, .int v1), (2, .int v2), (3, .int v3), (4, .int v4)] [] M0 := by
        intro n17
        induction n17 with
        | zero => intro v1 v2 v3 v4 hf; simp [f_X12_unlikeMarks_b17] at hf
        | succ n17 ih17 =>
          intro v1 v2 v3 v4 hf
          unfold f_X12_unlikeMarks_b17 at hf
          refine k_iload C dX12_unlikeMarks_17 4 rfl ?_
          refine k_iload_n C dX12_unlikeMarks_19 2 rfl ?_
          rcases ite_g hf with ⟨c2, hf⟩ | ⟨c2, hf⟩
          · refine k_icmp_ge_t C dX12_unlikeMarks_20 (tgt := 55) (by decide) c2 ?_
            refine k_iload_n C dX12_unlikeMarks_55 1 rfl ?_
            refine k_iload_n C dX12_unlikeMarks_56 3 rfl ?_
            have hj3 : K p l e (k_rm 0 0) s m args below meth c 5 G shR (MQ below (k_Qi G shR r M0) args s 0 0 (k_A G shR.length)) 65 [(0, .ref (G.2.1 0)), (1, .int v1), (2, .int v2), (3, .int v3), (4, .int v4)] [.int (if v3 = 0 then (0 : Int32) else (1 : Int32)), .int v1] M0 := by
              refine k_iadd C dX12_unlikeMarks_65 ?_
              refine k_istore_n C dX12_unlikeMarks_66 (by decide) [1, 0, 2] (lv' := [(0, .ref (G.2.1 0)), (1, .int (v1 + (if v3 = 0 then (0 : Int32) else (1 : Int32)))), (2, .int v2)]) rfl ?_
              refine k_iinc C dX12_unlikeMarks_67 2 rfl (v := (v2 + (1 : Int32))) rfl (by decide) [1, 2, 0] (lv' := [(0, .ref (G.2.1 0)), (1, .int (v1 + (if v3 = 0 then (0 : Int32) else (1 : Int32)))), (2, .int (v2 + (1 : Int32)))]) rfl ?_
              refine k_goto C dX12_unlikeMarks_70 (tgt := 4) (by decide) ?_
              exact ih4 (v1 + (if v3 = 0 then (0 : Int32) else (1 : Int32))) (v2 + (1 : Int32)) hf
            by_cases c4 : v3 = 0
            · refine k_if_eq_t C dX12_unlikeMarks_57 (tgt := 64) (by decide) c4 ?_
              refine k_iconst C dX12_unlikeMarks_64 (v := (0 : Int32)) rfl ?_
              exact k_val (by rw [if_pos c4]) hj3
            · refine k_if_eq_f C dX12_unlikeMarks_57 (tgt := 64) (by decide) c4 ?_
              refine k_iconst C dX12_unlikeMarks_60 (v := (1 : Int32)) rfl ?_
              refine k_goto C dX12_unlikeMarks_61 (tgt := 65) (by decide) ?_
              exact k_val (by rw [if_neg c4]) hj3
          · refine k_icmp_ge_f C dX12_unlikeMarks_20 (tgt := 55) (by decide) c2 ?_
            refine k_iload_n C dX12_unlikeMarks_23 3 rfl ?_
            rcases ite_g hf with ⟨c5, hf⟩ | ⟨c5, hf⟩
            · refine k_if_eq_t C dX12_unlikeMarks_24 (tgt := 47) (by decide) c5 ?_
              refine k_iconst C dX12_unlikeMarks_47 (v := (0 : Int32)) rfl ?_
              refine k_istore_n C dX12_unlikeMarks_48 (by decide) [1, 2, 3, 0, 4] (lv' := [(0, .ref (G.2.1 0)), (1, .int v1), (2, .int v2), (3, .int (0 : Int32)), (4, .int v4)]) rfl ?_
              refine k_iinc C dX12_unlikeMarks_49 4 rfl (v := (v4 + (1 : Int32))) rfl (by decide) [1, 2, 3, 4, 0] (lv' := [(0, .ref (G.2.1 0)), (1, .int v1), (2, .int v2), (3, .int (0 : Int32)), (4, .int (v4 + (1 : Int32)))]) rfl ?_
              refine k_goto C dX12_unlikeMarks_52 (tgt := 17) (by decide) ?_
              exact ih17 v1 v2 (0 : Int32) (v4 + (1 : Int32)) hf
            · refine k_if_eq_f C dX12_unlikeMarks_24 (tgt := 47) (by decide) c5 ?_
              refine k_aload_n C dX12_unlikeMarks_27 0 rfl ?_
              refine k_getr C shR_0 (j := 3) rfl FL_X12_19 dX12_unlikeMarks_28 ?_
              refine k_iload_n C dX12_unlikeMarks_31 2 rfl ?_
              obtain ⟨t6, ht6, hf⟩ := bnd hf
              refine k_iald C shR_4 ht6 dX12_unlikeMarks_32 ?_
              refine k_aload_n C dX12_unlikeMarks_33 0 rfl ?_
              refine k_getr C shR_0 (j := 3) rfl FL_X12_19 dX12_unlikeMarks_34 ?_
              refine k_iload C dX12_unlikeMarks_37 4 rfl ?_
              obtain ⟨t7, ht7, hf⟩ := bnd hf
              refine k_iald C shR_4 ht7 dX12_unlikeMarks_39 ?_
              have hj8 : K p l e (k_rm 0 0) s m args below meth c 5 G shR (MQ below (k_Qi G shR r M0) args s 0 0 (k_A G shR.length)) 48 [(0, .ref (G.2.1 0)), (1, .int v1), (2, .int v2), (3, .int v3), (4, .int v4)] [.int (if t6 = t7 then (0 : Int32) else (1 : Int32))] M0 := by
                refine k_istore_n C dX12_unlikeMarks_48 (by decide) [1, 2, 3, 0, 4] (lv' := [(0, .ref (G.2.1 0)), (1, .int v1), (2, .int v2), (3, .int (if t6 = t7 then (0 : Int32) else (1 : Int32))), (4, .int v4)]) rfl ?_
                refine k_iinc C dX12_unlikeMarks_49 4 rfl (v := (v4 + (1 : Int32))) rfl (by decide) [1, 2, 3, 4, 0] (lv' := [(0, .ref (G.2.1 0)), (1, .int v1), (2, .int v2), (3, .int (if t6 = t7 then (0 : Int32) else (1 : Int32))), (4, .int (v4 + (1 : Int32)))]) rfl ?_
                refine k_goto C dX12_unlikeMarks_52 (tgt := 17) (by decide) ?_
                exact ih17 v1 v2 (if t6 = t7 then (0 : Int32) else (1 : Int32)) (v4 + (1 : Int32)) hf
              by_cases c9 : t6 = t7
              · refine k_icmp_eq_t C dX12_unlikeMarks_40 (tgt := 47) (by decide) c9 ?_
                refine k_iconst C dX12_unlikeMarks_47 (v := (0 : Int32)) rfl ?_
                exact k_val (by rw [if_pos c9]) hj8
              · refine k_icmp_eq_f C dX12_unlikeMarks_40 (tgt := 47) (by decide) c9 ?_
                refine k_iconst C dX12_unlikeMarks_43 (v := (1 : Int32)) rfl ?_
                refine k_goto C dX12_unlikeMarks_44 (tgt := 48) (by decide) ?_
                exact k_val (by rw [if_neg c9]) hj8
      intro v1 v2 hf
      unfold f_X12_unlikeMarks_b4 at hf
      refine k_iload_n C dX12_unlikeMarks_4 2 rfl ?_
      refine k_aload_n C dX12_unlikeMarks_5 0 rfl ?_
      refine k_geti C shR_0 (j := 5) rfl FL_X12_62 dX12_unlikeMarks_6 ?_
      rcases ite_g hf with ⟨c1, hf⟩ | ⟨c1, hf⟩
      · refine k_icmp_ge_t C dX12_unlikeMarks_9 (tgt := 73) (by decide) c1 ?_
        refine k_iload_n C dX12_unlikeMarks_73 1 rfl ?_
        exact k_iret C hr hlk (Option.some.inj hf) rfl dX12_unlikeMarks_74
      · refine k_icmp_ge_f C dX12_unlikeMarks_9 (tgt := 73) (by decide) c1 ?_
        refine k_iconst C dX12_unlikeMarks_12 (v := (1 : Int32)) rfl ?_
        refine k_istore_n C dX12_unlikeMarks_13 (by decide) [1, 2, 3, 0] (lv' := [(0, .ref (G.2.1 0)), (1, .int v1), (2, .int v2), (3, .int (1 : Int32))]) rfl ?_
        refine k_iconst C dX12_unlikeMarks_14 (v := (0 : Int32)) rfl ?_
        refine k_istore C dX12_unlikeMarks_15 (by decide) [1, 2, 3, 4, 0] (lv' := [(0, .ref (G.2.1 0)), (1, .int v1), (2, .int v2), (3, .int (1 : Int32)), (4, .int (0 : Int32))]) rfl ?_
        exact k_b17 FU v1 v2 (1 : Int32) (0 : Int32) hf
  unfold f_X12_unlikeMarks at hf
  refine k_lv (lv' := [(0, .ref (G.2.1 0))]) [0] rfl ?_
  refine k_iconst C dX12_unlikeMarks_0 (v := (0 : Int32)) rfl ?_
  refine k_istore_n C dX12_unlikeMarks_1 (by decide) [1, 0] (lv' := [(0, .ref (G.2.1 0)), (1, .int (0 : Int32))]) rfl ?_
  refine k_iconst C dX12_unlikeMarks_2 (v := (0 : Int32)) rfl ?_
  refine k_istore_n C dX12_unlikeMarks_3 (by decide) [1, 2, 0] (lv' := [(0, .ref (G.2.1 0)), (1, .int (0 : Int32)), (2, .int (0 : Int32))]) rfl ?_
  exact k_b4 FU (0 : Int32) (0 : Int32) hf
theorem dX12_streak_0 : decode cX12_streak 0 = .ok (.iconst 0, 1) := by decide +kernel
theorem dX12_streak_1 : decode cX12_streak 1 = .ok (.istore_n 1, 1) := by decide +kernel
theorem dX12_streak_2 : decode cX12_streak 2 = .ok (.iconst 0, 1) := by decide +kernel
theorem dX12_streak_3 : decode cX12_streak 3 = .ok (.istore_n 2, 1) := by decide +kernel
theorem dX12_streak_4 : decode cX12_streak 4 = .ok (.iconst 0, 1) := by decide +kernel
theorem dX12_streak_5 : decode cX12_streak 5 = .ok (.istore_n 3, 1) := by decide +kernel
theorem dX12_streak_6 : decode cX12_streak 6 = .ok (.iload_n 3, 1) := by decide +kernel
theorem dX12_streak_7 : decode cX12_streak 7 = .ok (.aload_n 0, 1) := by decide +kernel
theorem dX12_streak_8 : decode cX12_streak 8 = .ok (.getfield 108, 3) := by decide +kernel
theorem dX12_streak_11 : decode cX12_streak 11 = .ok (.if_icmp .ge 53, 3) := by decide +kernel
theorem dX12_streak_14 : decode cX12_streak 14 = .ok (.iload_n 3, 1) := by decide +kernel
theorem dX12_streak_15 : decode cX12_streak 15 = .ok (.ifCond .le 30, 3) := by decide +kernel
theorem dX12_streak_18 : decode cX12_streak 18 = .ok (.aload_n 0, 1) := by decide +kernel
theorem dX12_streak_19 : decode cX12_streak 19 = .ok (.aload_n 0, 1) := by decide +kernel
theorem dX12_streak_20 : decode cX12_streak 20 = .ok (.getfield 22, 3) := by decide +kernel
theorem dX12_streak_23 : decode cX12_streak 23 = .ok (.iload_n 3, 1) := by decide +kernel
theorem dX12_streak_24 : decode cX12_streak 24 = .ok (.iconst 1, 1) := by decide +kernel
theorem dX12_streak_25 : decode cX12_streak 25 = .ok (.isub, 1) := by decide +kernel
theorem dX12_streak_26 : decode cX12_streak 26 = .ok (.iaload, 1) := by decide +kernel
theorem dX12_streak_27 : decode cX12_streak 27 = .ok (.aload_n 0, 1) := by decide +kernel
theorem dX12_streak_28 : decode cX12_streak 28 = .ok (.getfield 22, 3) := by decide +kernel
theorem dX12_streak_31 : decode cX12_streak 31 = .ok (.iload_n 3, 1) := by decide +kernel
theorem dX12_streak_32 : decode cX12_streak 32 = .ok (.iaload, 1) := by decide +kernel
theorem dX12_streak_33 : decode cX12_streak 33 = .ok (.invokevirtual 154, 3) := by decide +kernel
theorem dX12_streak_36 : decode cX12_streak 36 = .ok (.ifCond .eq 9, 3) := by decide +kernel
theorem dX12_streak_39 : decode cX12_streak 39 = .ok (.iload_n 2, 1) := by decide +kernel
theorem dX12_streak_40 : decode cX12_streak 40 = .ok (.iconst 1, 1) := by decide +kernel
theorem dX12_streak_41 : decode cX12_streak 41 = .ok (.iadd, 1) := by decide +kernel
theorem dX12_streak_42 : decode cX12_streak 42 = .ok (.goto 4, 3) := by decide +kernel
theorem dX12_streak_45 : decode cX12_streak 45 = .ok (.iconst 1, 1) := by decide +kernel
theorem dX12_streak_46 : decode cX12_streak 46 = .ok (.istore_n 2, 1) := by decide +kernel
theorem dX12_streak_47 : decode cX12_streak 47 = .ok (.iload_n 2, 1) := by decide +kernel
theorem dX12_streak_48 : decode cX12_streak 48 = .ok (.iload_n 1, 1) := by decide +kernel
theorem dX12_streak_49 : decode cX12_streak 49 = .ok (.if_icmp .le 7, 3) := by decide +kernel
theorem dX12_streak_52 : decode cX12_streak 52 = .ok (.iload_n 2, 1) := by decide +kernel
theorem dX12_streak_53 : decode cX12_streak 53 = .ok (.goto 4, 3) := by decide +kernel
theorem dX12_streak_56 : decode cX12_streak 56 = .ok (.iload_n 1, 1) := by decide +kernel
theorem dX12_streak_57 : decode cX12_streak 57 = .ok (.istore_n 1, 1) := by decide +kernel
theorem dX12_streak_58 : decode cX12_streak 58 = .ok (.iinc 3 1, 3) := by decide +kernel
theorem dX12_streak_61 : decode cX12_streak 61 = .ok (.goto (-55), 3) := by decide +kernel
theorem dX12_streak_64 : decode cX12_streak 64 = .ok (.iload_n 1, 1) := by decide +kernel
theorem dX12_streak_65 : decode cX12_streak 65 = .ok (.ireturn, 1) := by decide +kernel
set_option maxRecDepth 100000 in
set_option maxHeartbeats 4000000 in
theorem c_X12_streak {l : Launch} {G : Gx} (hap : k_ap G shR.length) (M0 : Mem) (r : Int32) (hf : f_X12_streak M0 = some r) : k_Met l yX12_streak cX12_streak 4 (some .int) 2 44 G shR [.ref (G.2.1 0)] M0 (k_Qi G shR r M0) := by
  refine k_Met_of (by decide) hap (Nat.le_of_ble_eq_true rfl) ?_
  intro p e s m args below meth c C hr hlk
  have C : Cx p s m args c cX12_streak RX12 4 G shR := C
  have k_b6 : ∀ (n6 : Nat) (v1 : Int32) (v2 : Int32) (v3 : Int32), f_X12_streak_b6 M0 n6 v1 v2 v3 = some r → K p l e (k_rm 2 44) s m args below meth c 4 G shR (MQ below (k_Qi G shR r M0) args s 0 0 (k_A G shR.length)) 6 [(0, .ref (G.2.1 0)), (1, .int v1), (2, .int v2), (3, .int v3)] [] M0 := by
    intro n6
    induction n6 with
    | zero => intro v1 v2 v3 hf; simp [f_X12_streak_b6] at hf
    | succ n6 ih6 =>
      have k_b46 : ∀ (v1 : Int32) (v3 : Int32) (s0 : Int32), f_X12_streak_b46 M0 (f_X12_streak_b6 M0 n6) v1 v3 s0 = some r → K p l e (k_rm 2 44) s m args below meth c 4 G shR (MQ below (k_Qi G shR r M0) args s 0 0 (k_A G shR.length)) 46 [(0, .ref (G.2.1 0)), (1, .int v1), (3, .int v3)] [.int s0] M0 := by
        intro v1 v3 s0 hf
        unfold f_X12_streak_b46 at hf
        refine k_istore_n C dX12_streak_46 (by decide) [1, 2, 0, 3] (lv' := [(0, .ref (G.2.1 0)), (1, .int v1), (2, .int s0), (3, .int v3)]) rfl ?_
        refine k_iload_n C dX12_streak_47 2 rfl ?_
        refine k_iload_n C dX12_streak_48 1 rfl ?_
        have hj3 : K p l e (k_rm 2 44) s m args below meth c 4 G shR (MQ below (k_Qi G shR r M0) args s 0 0 (k_A G shR.length)) 57 [(0, .ref (G.2.1 0)), (1, .int v1), (2, .int s0), (3, .int v3)] [.int (if s0 ≤ v1 then v1 else s0)] M0 := by
          refine k_istore_n C dX12_streak_57 (by decide) [1, 0, 2, 3] (lv' := [(0, .ref (G.2.1 0)), (1, .int (if s0 ≤ v1 then v1 else s0)), (2, .int s0), (3, .int v3)]) rfl ?_
          refine k_iinc C dX12_streak_58 3 rfl (v := (v3 + (1 : Int32))) rfl (by decide) [1, 2, 3, 0] (lv' := [(0, .ref (G.2.1 0)), (1, .int (if s0 ≤ v1 then v1 else s0)), (2, .int s0), (3, .int (v3 + (1 : Int32)))]) rfl ?_
          refine k_goto C dX12_streak_61 (tgt := 6) (by decide) ?_
          exact ih6 (if s0 ≤ v1 then v1 else s0) s0 (v3 + (1 : Int32)) hf
        by_cases c4 : s0 ≤ v1
        · refine k_icmp_le_t C dX12_streak_49 (tgt := 56) (by decide) c4 ?_
          refine k_iload_n C dX12_streak_56 1 rfl ?_
          exact k_val (by rw [if_pos c4]) hj3
        · refine k_icmp_le_f C dX12_streak_49 (tgt := 56) (by decide) c4 ?_
          refine k_iload_n C dX12_streak_52 2 rfl ?_
          refine k_goto C dX12_streak_53 (tgt := 57) (by decide) ?_
          exact k_val (by rw [if_neg c4]) hj3
      have k_b45 : ∀ (v1 : Int32) (v3 : Int32), f_X12_streak_b45 M0 (f_X12_streak_b6 M0 n6) v1 v3 = some r → K p l e (k_rm 2 44) s m args below meth c 4 G shR (MQ below (k_Qi G shR r M0) args s 0 0 (k_A G shR.length)) 45 [(0, .ref (G.2.1 0)), (1, .int v1), (3, .int v3)] [] M0 := by
        intro v1 v3 hf
        unfold f_X12_streak_b45 at hf
        refine k_iconst C dX12_streak_45 (v := (1 : Int32)) rfl ?_
        exact k_b46 v1 v3 (1 : Int32) hf
      intro v1 v2 v3 hf
      unfold f_X12_streak_b6 at hf
      refine k_iload_n C dX12_streak_6 3 rfl ?_
      refine k_aload_n C dX12_streak_7 0 rfl ?_
      refine k_geti C shR_0 (j := 6) rfl FL_X12_108 dX12_streak_8 ?_
      rcases ite_g hf with ⟨c1, hf⟩ | ⟨c1, hf⟩
      · refine k_icmp_ge_t C dX12_streak_11 (tgt := 64) (by decide) c1 ?_
        refine k_iload_n C dX12_streak_64 1 rfl ?_
        exact k_iret C hr hlk (Option.some.inj hf) rfl dX12_streak_65
      · refine k_icmp_ge_f C dX12_streak_11 (tgt := 64) (by decide) c1 ?_
        refine k_iload_n C dX12_streak_14 3 rfl ?_
        rcases ite_g hf with ⟨c2, hf⟩ | ⟨c2, hf⟩
        · refine k_if_le_t C dX12_streak_15 (tgt := 45) (by decide) c2 ?_
          refine k_lv [0, 1, 3] rfl ?_
          exact k_b45 v1 v3 hf
        · refine k_if_le_f C dX12_streak_15 (tgt := 45) (by decide) c2 ?_
          refine k_aload_n C dX12_streak_18 0 rfl ?_
          refine k_aload_n C dX12_streak_19 0 rfl ?_
          refine k_getr C shR_0 (j := 4) rfl FL_X12_22 dX12_streak_20 ?_
          refine k_iload_n C dX12_streak_23 3 rfl ?_
          refine k_iconst C dX12_streak_24 (v := (1 : Int32)) rfl ?_
          refine k_isub C dX12_streak_25 ?_
          obtain ⟨t5, ht5, hf⟩ := bnd hf
          refine k_iald C shR_5 ht5 dX12_streak_26 ?_
          refine k_aload_n C dX12_streak_27 0 rfl ?_
          refine k_getr C shR_0 (j := 4) rfl FL_X12_22 dX12_streak_28 ?_
          refine k_iload_n C dX12_streak_31 3 rfl ?_
          obtain ⟨t6, ht6, hf⟩ := bnd hf
          refine k_iald C shR_5 ht6 dX12_streak_32 ?_
          obtain ⟨t7, ht7, hf⟩ := bnd hf
          refine k_callVi C (As := [.int t5, .int t6]) (c_X12_areSame hap t5 t6 M0 t7 ht7) ML_X12_areSame wd_1459 shR_0 rfl rfl rfl ⟨Nat.le_of_ble_eq_true rfl, Nat.le_of_ble_eq_true rfl⟩ (Nat.le_of_ble_eq_true rfl) dX12_streak_33 ?_
          have hj8 : K p l e (k_rm 2 44) s m args below meth c 4 G shR (MQ below (k_Qi G shR r M0) args s 0 0 (k_A G shR.length)) 46 [(0, .ref (G.2.1 0)), (1, .int v1), (2, .int v2), (3, .int v3)] [.int (if t7 = 0 then (1 : Int32) else (v2 + (1 : Int32)))] M0 := by
            refine k_lv [0, 1, 3] rfl ?_
            exact k_b46 v1 v3 (if t7 = 0 then (1 : Int32) else (v2 + (1 : Int32))) hf
          by_cases c9 : t7 = 0
          · refine k_if_eq_t C dX12_streak_36 (tgt := 45) (by decide) c9 ?_
            refine k_iconst C dX12_streak_45 (v := (1 : Int32)) rfl ?_
            exact k_val (by rw [if_pos c9]) hj8
          · refine k_if_eq_f C dX12_streak_36 (tgt := 45) (by decide) c9 ?_
            refine k_iload_n C dX12_streak_39 2 rfl ?_
            refine k_iconst C dX12_streak_40 (v := (1 : Int32)) rfl ?_
            refine k_iadd C dX12_streak_41 ?_
            refine k_goto C dX12_streak_42 (tgt := 46) (by decide) ?_
            exact k_val (by rw [if_neg c9]) hj8
  unfold f_X12_streak at hf
  refine k_lv (lv' := [(0, .ref (G.2.1 0))]) [0] rfl ?_
  refine k_iconst C dX12_streak_0 (v := (0 : Int32)) rfl ?_
  refine k_istore_n C dX12_streak_1 (by decide) [1, 0] (lv' := [(0, .ref (G.2.1 0)), (1, .int (0 : Int32))]) rfl ?_
  refine k_iconst C dX12_streak_2 (v := (0 : Int32)) rfl ?_
  refine k_istore_n C dX12_streak_3 (by decide) [1, 2, 0] (lv' := [(0, .ref (G.2.1 0)), (1, .int (0 : Int32)), (2, .int (0 : Int32))]) rfl ?_
  refine k_iconst C dX12_streak_4 (v := (0 : Int32)) rfl ?_
  refine k_istore_n C dX12_streak_5 (by decide) [1, 2, 3, 0] (lv' := [(0, .ref (G.2.1 0)), (1, .int (0 : Int32)), (2, .int (0 : Int32)), (3, .int (0 : Int32))]) rfl ?_
  exact k_b6 FU (0 : Int32) (0 : Int32) (0 : Int32) hf
theorem dX12_row_0 : decode cX12_row 0 = .ok (.iload_n 1, 1) := by decide +kernel
theorem dX12_row_1 : decode cX12_row 1 = .ok (.iconst 0, 1) := by decide +kernel
theorem dX12_row_2 : decode cX12_row 2 = .ok (.bipush 99, 2) := by decide +kernel
theorem dX12_row_4 : decode cX12_row 4 = .ok (.invokestatic 68, 3) := by decide +kernel
theorem dX12_row_7 : decode cX12_row 7 = .ok (.istore_n 2, 1) := by decide +kernel
theorem dX12_row_8 : decode cX12_row 8 = .ok (.iload_n 2, 1) := by decide +kernel
theorem dX12_row_9 : decode cX12_row 9 = .ok (.ifCond .ne 15, 3) := by decide +kernel
theorem dX12_row_12 : decode cX12_row 12 = .ok (.aload_n 0, 1) := by decide +kernel
theorem dX12_row_13 : decode cX12_row 13 = .ok (.getfield 211, 3) := by decide +kernel
theorem dX12_row_16 : decode cX12_row 16 = .ok (.bipush 12, 2) := by decide +kernel
theorem dX12_row_18 : decode cX12_row 18 = .ok (.if_icmp .ne 6, 3) := by decide +kernel
theorem dX12_row_21 : decode cX12_row 21 = .ok (.bipush (-6), 2) := by decide +kernel
theorem dX12_row_23 : decode cX12_row 23 = .ok (.istore_n 2, 1) := by decide +kernel
theorem dX12_row_24 : decode cX12_row 24 = .ok (.iload_n 2, 1) := by decide +kernel
theorem dX12_row_25 : decode cX12_row 25 = .ok (.ifCond .eq 9, 3) := by decide +kernel
theorem dX12_row_28 : decode cX12_row 28 = .ok (.aload_n 0, 1) := by decide +kernel
theorem dX12_row_29 : decode cX12_row 29 = .ok (.iload_n 2, 1) := by decide +kernel
theorem dX12_row_30 : decode cX12_row 30 = .ok (.invokevirtual 75, 3) := by decide +kernel
theorem dX12_row_33 : decode cX12_row 33 = .ok (.ireturn, 1) := by decide +kernel
theorem dX12_row_34 : decode cX12_row 34 = .ok (.aload_n 0, 1) := by decide +kernel
theorem dX12_row_35 : decode cX12_row 35 = .ok (.getfield 46, 3) := by decide +kernel
theorem dX12_row_38 : decode cX12_row 38 = .ok (.aload_n 0, 1) := by decide +kernel
theorem dX12_row_39 : decode cX12_row 39 = .ok (.getfield 211, 3) := by decide +kernel
theorem dX12_row_42 : decode cX12_row 42 = .ok (.iload_n 1, 1) := by decide +kernel
theorem dX12_row_43 : decode cX12_row 43 = .ok (.iastore, 1) := by decide +kernel
theorem dX12_row_44 : decode cX12_row 44 = .ok (.aload_n 0, 1) := by decide +kernel
theorem dX12_row_45 : decode cX12_row 45 = .ok (.dup, 1) := by decide +kernel
theorem dX12_row_46 : decode cX12_row 46 = .ok (.getfield 211, 3) := by decide +kernel
theorem dX12_row_49 : decode cX12_row 49 = .ok (.iconst 1, 1) := by decide +kernel
theorem dX12_row_50 : decode cX12_row 50 = .ok (.iadd, 1) := by decide +kernel
theorem dX12_row_51 : decode cX12_row 51 = .ok (.putfield 211, 3) := by decide +kernel
theorem dX12_row_54 : decode cX12_row 54 = .ok (.aload_n 0, 1) := by decide +kernel
theorem dX12_row_55 : decode cX12_row 55 = .ok (.getfield 211, 3) := by decide +kernel
theorem dX12_row_58 : decode cX12_row 58 = .ok (.ireturn, 1) := by decide +kernel
set_option maxRecDepth 100000 in
set_option maxHeartbeats 4000000 in
theorem c_X12_row {l : Launch} {G : Gx} (hap : k_ap G shR.length) (v1 : Int32) (M0 : Mem) (r : Int32 × Mem) (hf : f_X12_row v1 M0 = some r) : k_Met l yX12_row cX12_row 3 (some .int) 1 22 G shR [.ref (G.2.1 0), .int v1] M0 (k_Qi G shR r.1 r.2) := by
  refine k_Met_of (by decide) hap (Nat.le_of_ble_eq_true rfl) ?_
  intro p e s m args below meth c C hr hlk
  have C : Cx p s m args c cX12_row RX12 3 G shR := C
  have k_b24 : ∀ (v1 : Int32) (v2 : Int32) (M : Mem), f_X12_row_b24 v1 v2 M = some r → K p l e (k_rm 1 22) s m args below meth c 3 G shR (MQ below (k_Qi G shR r.1 r.2) args s 0 0 (k_A G shR.length)) 24 [(0, .ref (G.2.1 0)), (1, .int v1), (2, .int v2)] [] M := by
    intro v1 v2 M hf
    unfold f_X12_row_b24 at hf
    refine k_iload_n C dX12_row_24 2 rfl ?_
    rcases ite_g hf with ⟨c2, hf⟩ | ⟨c2, hf⟩
    · refine k_if_eq_t C dX12_row_25 (tgt := 34) (by decide) c2 ?_
      refine k_aload_n C dX12_row_34 0 rfl ?_
      refine k_getr C shR_0 (j := 23) rfl FL_X12_46 dX12_row_35 ?_
      refine k_aload_n C dX12_row_38 0 rfl ?_
      refine k_geti C shR_0 (j := 24) rfl FL_X12_211 dX12_row_39 ?_
      refine k_iload_n C dX12_row_42 1 rfl ?_
      obtain ⟨M3, hM3, hf⟩ := bnd hf
      refine k_iast C shR_13 hM3 dX12_row_43 ?_
      refine k_aload_n C dX12_row_44 0 rfl ?_
      refine k_dup C dX12_row_45 rfl ?_
      refine k_geti C shR_0 (j := 24) rfl FL_X12_211 dX12_row_46 ?_
      refine k_iconst C dX12_row_49 (v := (1 : Int32)) rfl ?_
      refine k_iadd C dX12_row_50 ?_
      refine k_put C shR_0 (j := 24) rfl FL_X12_211 FW_X12_24 dX12_row_51 ?_
      refine k_aload_n C dX12_row_54 0 rfl ?_
      refine k_geti C shR_0 (j := 24) rfl FL_X12_211 dX12_row_55 ?_
      exact k_iret C hr hlk (prf hf) (prs hf) dX12_row_58
    · refine k_if_eq_f C dX12_row_25 (tgt := 34) (by decide) c2 ?_
      refine k_aload_n C dX12_row_28 0 rfl ?_
      refine k_iload_n C dX12_row_29 2 rfl ?_
      obtain ⟨⟨t4, M4⟩, ht4, hf⟩ := bnd hf
      replace hf := bp_s hf
      refine k_callVi C (As := [.int v2]) (c_X12_no hap v2 M (t4, M4) ht4) ML_X12_no wd_1369 shR_0 rfl rfl rfl ⟨Nat.le_of_ble_eq_true rfl, Nat.le_of_ble_eq_true rfl⟩ (Nat.le_of_ble_eq_true rfl) dX12_row_30 ?_
      exact k_iret C hr hlk (prf hf) (prs hf) dX12_row_33
  unfold f_X12_row at hf
  refine k_lv (lv' := [(0, .ref (G.2.1 0)), (1, .int v1)]) [0, 1] rfl ?_
  refine k_iload_n C dX12_row_0 1 rfl ?_
  refine k_iconst C dX12_row_1 (v := (0 : Int32)) rfl ?_
  refine k_bipush C dX12_row_2 (v := (99 : Int32)) rfl ?_
  refine k_callSi C (As := [.int v1, .int (0 : Int32), .int (99 : Int32)]) (c_X12_bound hap v1 (0 : Int32) (99 : Int32) M0 _ rfl) MS_X12_bound wd_1366 rfl rfl ⟨Nat.le_of_ble_eq_true rfl, Nat.le_of_ble_eq_true rfl⟩ (Nat.le_of_ble_eq_true rfl) dX12_row_4 ?_
  refine k_istore_n C dX12_row_7 (by decide) [1, 2, 0] (lv' := [(0, .ref (G.2.1 0)), (1, .int v1), (2, .int (f_X12_bound v1 (0 : Int32) (99 : Int32)))]) rfl ?_
  refine k_iload_n C dX12_row_8 2 rfl ?_
  rcases ite_g hf with ⟨c1, hf⟩ | ⟨c1, hf⟩
  · refine k_if_ne_f C dX12_row_9 (tgt := 24) (by decide) c1 ?_
    refine k_aload_n C dX12_row_12 0 rfl ?_
    refine k_geti C shR_0 (j := 24) rfl FL_X12_211 dX12_row_13 ?_
    refine k_bipush C dX12_row_16 (v := (12 : Int32)) rfl ?_
    rcases ite_g hf with ⟨c5, hf⟩ | ⟨c5, hf⟩
    · refine k_icmp_ne_f C dX12_row_18 (tgt := 24) (by decide) c5 ?_
      refine k_bipush C dX12_row_21 (v := (-6 : Int32)) rfl ?_
      refine k_istore_n C dX12_row_23 (by decide) [1, 2, 0] (lv' := [(0, .ref (G.2.1 0)), (1, .int v1), (2, .int (-6 : Int32))]) rfl ?_
      exact k_b24 v1 (-6 : Int32) M0 hf
    · refine k_icmp_ne_t C dX12_row_18 (tgt := 24) (by decide) c5 ?_
      exact k_b24 v1 (f_X12_bound v1 (0 : Int32) (99 : Int32)) M0 hf
  · refine k_if_ne_t C dX12_row_9 (tgt := 24) (by decide) c1 ?_
    exact k_b24 v1 (f_X12_bound v1 (0 : Int32) (99 : Int32)) M0 hf
theorem dX12_judge_0 : decode cX12_judge 0 = .ok (.aload_n 0, 1) := by decide +kernel
theorem dX12_judge_1 : decode cX12_judge 1 = .ok (.getfield 211, 3) := by decide +kernel
theorem dX12_judge_4 : decode cX12_judge 4 = .ok (.istore_n 1, 1) := by decide +kernel
theorem dX12_judge_5 : decode cX12_judge 5 = .ok (.aload_n 0, 1) := by decide +kernel
theorem dX12_judge_6 : decode cX12_judge 6 = .ok (.iconst 0, 1) := by decide +kernel
theorem dX12_judge_7 : decode cX12_judge 7 = .ok (.putfield 211, 3) := by decide +kernel
theorem dX12_judge_10 : decode cX12_judge 10 = .ok (.iconst 0, 1) := by decide +kernel
theorem dX12_judge_11 : decode cX12_judge 11 = .ok (.istore_n 2, 1) := by decide +kernel
theorem dX12_judge_12 : decode cX12_judge 12 = .ok (.iload_n 2, 1) := by decide +kernel
theorem dX12_judge_13 : decode cX12_judge 13 = .ok (.iload_n 1, 1) := by decide +kernel
theorem dX12_judge_14 : decode cX12_judge 14 = .ok (.if_icmp .ge 34, 3) := by decide +kernel
theorem dX12_judge_17 : decode cX12_judge 17 = .ok (.iload_n 2, 1) := by decide +kernel
theorem dX12_judge_18 : decode cX12_judge 18 = .ok (.aload_n 0, 1) := by decide +kernel
theorem dX12_judge_19 : decode cX12_judge 19 = .ok (.getfield 108, 3) := by decide +kernel
theorem dX12_judge_22 : decode cX12_judge 22 = .ok (.if_icmp .ge 18, 3) := by decide +kernel
theorem dX12_judge_25 : decode cX12_judge 25 = .ok (.aload_n 0, 1) := by decide +kernel
theorem dX12_judge_26 : decode cX12_judge 26 = .ok (.getfield 22, 3) := by decide +kernel
theorem dX12_judge_29 : decode cX12_judge 29 = .ok (.iload_n 2, 1) := by decide +kernel
theorem dX12_judge_30 : decode cX12_judge 30 = .ok (.iaload, 1) := by decide +kernel
theorem dX12_judge_31 : decode cX12_judge 31 = .ok (.aload_n 0, 1) := by decide +kernel
theorem dX12_judge_32 : decode cX12_judge 32 = .ok (.getfield 46, 3) := by decide +kernel
theorem dX12_judge_35 : decode cX12_judge 35 = .ok (.iload_n 2, 1) := by decide +kernel
theorem dX12_judge_36 : decode cX12_judge 36 = .ok (.iaload, 1) := by decide +kernel
theorem dX12_judge_37 : decode cX12_judge 37 = .ok (.if_icmp .eq 5, 3) := by decide +kernel
theorem dX12_judge_40 : decode cX12_judge 40 = .ok (.iload_n 2, 1) := by decide +kernel
theorem dX12_judge_41 : decode cX12_judge 41 = .ok (.ireturn, 1) := by decide +kernel
theorem dX12_judge_42 : decode cX12_judge 42 = .ok (.iinc 2 1, 3) := by decide +kernel
theorem dX12_judge_45 : decode cX12_judge 45 = .ok (.goto (-33), 3) := by decide +kernel
theorem dX12_judge_48 : decode cX12_judge 48 = .ok (.bipush (-9), 2) := by decide +kernel
theorem dX12_judge_50 : decode cX12_judge 50 = .ok (.ireturn, 1) := by decide +kernel
set_option maxRecDepth 100000 in
set_option maxHeartbeats 4000000 in
theorem c_X12_judge {l : Launch} {G : Gx} (hap : k_ap G shR.length) (M0 : Mem) (r : Int32 × Mem) (hf : f_X12_judge M0 = some r) : k_Met l yX12_judge cX12_judge 3 (some .int) 0 0 G shR [.ref (G.2.1 0)] M0 (k_Qi G shR r.1 r.2) := by
  refine k_Met_of (by decide) hap (Nat.le_of_ble_eq_true rfl) ?_
  intro p e s m args below meth c C hr hlk
  have C : Cx p s m args c cX12_judge RX12 3 G shR := C
  have k_b12 : ∀ (n12 : Nat) (v1 : Int32) (v2 : Int32) (M : Mem), f_X12_judge_b12 n12 v1 v2 M = some r → K p l e (k_rm 0 0) s m args below meth c 3 G shR (MQ below (k_Qi G shR r.1 r.2) args s 0 0 (k_A G shR.length)) 12 [(0, .ref (G.2.1 0)), (1, .int v1), (2, .int v2)] [] M := by
    intro n12
    induction n12 with
    | zero => intro v1 v2 M hf; simp [f_X12_judge_b12] at hf
    | succ n12 ih12 =>
      intro v1 v2 M hf
      unfold f_X12_judge_b12 at hf
      refine k_iload_n C dX12_judge_12 2 rfl ?_
      refine k_iload_n C dX12_judge_13 1 rfl ?_
      rcases ite_g hf with ⟨c1, hf⟩ | ⟨c1, hf⟩
      · refine k_icmp_ge_t C dX12_judge_14 (tgt := 48) (by decide) c1 ?_
        refine k_bipush C dX12_judge_48 (v := (-9 : Int32)) rfl ?_
        exact k_iret C hr hlk (prf hf) (prs hf) dX12_judge_50
      · refine k_icmp_ge_f C dX12_judge_14 (tgt := 48) (by decide) c1 ?_
        refine k_iload_n C dX12_judge_17 2 rfl ?_
        refine k_aload_n C dX12_judge_18 0 rfl ?_
        refine k_geti C shR_0 (j := 6) rfl FL_X12_108 dX12_judge_19 ?_
        rcases ite_g hf with ⟨c2, hf⟩ | ⟨c2, hf⟩
        · refine k_icmp_ge_t C dX12_judge_22 (tgt := 40) (by decide) c2 ?_
          refine k_iload_n C dX12_judge_40 2 rfl ?_
          exact k_iret C hr hlk (prf hf) (prs hf) dX12_judge_41
        · refine k_icmp_ge_f C dX12_judge_22 (tgt := 40) (by decide) c2 ?_
          refine k_aload_n C dX12_judge_25 0 rfl ?_
          refine k_getr C shR_0 (j := 4) rfl FL_X12_22 dX12_judge_26 ?_
          refine k_iload_n C dX12_judge_29 2 rfl ?_
          obtain ⟨t3, ht3, hf⟩ := bnd hf
          refine k_iald C shR_5 ht3 dX12_judge_30 ?_
          refine k_aload_n C dX12_judge_31 0 rfl ?_
          refine k_getr C shR_0 (j := 23) rfl FL_X12_46 dX12_judge_32 ?_
          refine k_iload_n C dX12_judge_35 2 rfl ?_
          obtain ⟨t4, ht4, hf⟩ := bnd hf
          refine k_iald C shR_13 ht4 dX12_judge_36 ?_
          rcases ite_g hf with ⟨c5, hf⟩ | ⟨c5, hf⟩
          · refine k_icmp_eq_t C dX12_judge_37 (tgt := 42) (by decide) c5 ?_
            refine k_iinc C dX12_judge_42 2 rfl (v := (v2 + (1 : Int32))) rfl (by decide) [1, 2, 0] (lv' := [(0, .ref (G.2.1 0)), (1, .int v1), (2, .int (v2 + (1 : Int32)))]) rfl ?_
            refine k_goto C dX12_judge_45 (tgt := 12) (by decide) ?_
            exact ih12 v1 (v2 + (1 : Int32)) M hf
          · refine k_icmp_eq_f C dX12_judge_37 (tgt := 42) (by decide) c5 ?_
            refine k_iload_n C dX12_judge_40 2 rfl ?_
            exact k_iret C hr hlk (prf hf) (prs hf) dX12_judge_41
  unfold f_X12_judge at hf
  refine k_lv (lv' := [(0, .ref (G.2.1 0))]) [0] rfl ?_
  refine k_aload_n C dX12_judge_0 0 rfl ?_
  refine k_geti C shR_0 (j := 24) rfl FL_X12_211 dX12_judge_1 ?_
  refine k_istore_n C dX12_judge_4 (by decide) [1, 0] (lv' := [(0, .ref (G.2.1 0)), (1, .int (M0.1 0 24))]) rfl ?_
  refine k_aload_n C dX12_judge_5 0 rfl ?_
  refine k_iconst C dX12_judge_6 (v := (0 : Int32)) rfl ?_
  refine k_put C shR_0 (j := 24) rfl FL_X12_211 FW_X12_24 dX12_judge_7 ?_
  refine k_iconst C dX12_judge_10 (v := (0 : Int32)) rfl ?_
  refine k_istore_n C dX12_judge_11 (by decide) [1, 2, 0] (lv' := [(0, .ref (G.2.1 0)), (1, .int (M0.1 0 24)), (2, .int (0 : Int32))]) rfl ?_
  exact k_b12 FU (M0.1 0 24) (0 : Int32) (wI M0 0 24 (0 : Int32)) hf
theorem dX12_clear_0 : decode cX12_clear 0 = .ok (.aload_n 0, 1) := by decide +kernel
theorem dX12_clear_1 : decode cX12_clear 1 = .ok (.getfield 211, 3) := by decide +kernel
theorem dX12_clear_4 : decode cX12_clear 4 = .ok (.istore_n 1, 1) := by decide +kernel
theorem dX12_clear_5 : decode cX12_clear 5 = .ok (.aload_n 0, 1) := by decide +kernel
theorem dX12_clear_6 : decode cX12_clear 6 = .ok (.iconst 0, 1) := by decide +kernel
theorem dX12_clear_7 : decode cX12_clear 7 = .ok (.putfield 211, 3) := by decide +kernel
theorem dX12_clear_10 : decode cX12_clear 10 = .ok (.iload_n 1, 1) := by decide +kernel
theorem dX12_clear_11 : decode cX12_clear 11 = .ok (.ireturn, 1) := by decide +kernel
set_option maxRecDepth 100000 in
set_option maxHeartbeats 4000000 in
theorem c_X12_clear {l : Launch} {G : Gx} (hap : k_ap G shR.length) (M0 : Mem) (r : Int32 × Mem) (hf : f_X12_clear M0 = some r) : k_Met l yX12_clear cX12_clear 2 (some .int) 0 0 G shR [.ref (G.2.1 0)] M0 (k_Qi G shR r.1 r.2) := by
  refine k_Met_of (by decide) hap (Nat.le_of_ble_eq_true rfl) ?_
  intro p e s m args below meth c C hr hlk
  have C : Cx p s m args c cX12_clear RX12 2 G shR := C
  unfold f_X12_clear at hf
  refine k_lv (lv' := [(0, .ref (G.2.1 0))]) [0] rfl ?_
  refine k_aload_n C dX12_clear_0 0 rfl ?_
  refine k_geti C shR_0 (j := 24) rfl FL_X12_211 dX12_clear_1 ?_
  refine k_istore_n C dX12_clear_4 (by decide) [1, 0] (lv' := [(0, .ref (G.2.1 0)), (1, .int (M0.1 0 24))]) rfl ?_
  refine k_aload_n C dX12_clear_5 0 rfl ?_
  refine k_iconst C dX12_clear_6 (v := (0 : Int32)) rfl ?_
  refine k_put C shR_0 (j := 24) rfl FL_X12_211 FW_X12_24 dX12_clear_7 ?_
  refine k_iload_n C dX12_clear_10 1 rfl ?_
  exact k_iret C hr hlk (prf hf) (prs hf) dX12_clear_11
theorem dX12_lots_0 : decode cX12_lots 0 = .ok (.iload_n 1, 1) := by decide +kernel
theorem dX12_lots_1 : decode cX12_lots 1 = .ok (.iconst 1, 1) := by decide +kernel
theorem dX12_lots_2 : decode cX12_lots 2 = .ok (.bipush 20, 2) := by decide +kernel
theorem dX12_lots_4 : decode cX12_lots 4 = .ok (.invokestatic 68, 3) := by decide +kernel
theorem dX12_lots_7 : decode cX12_lots 7 = .ok (.istore 4, 2) := by decide +kernel
theorem dX12_lots_9 : decode cX12_lots 9 = .ok (.iload 4, 2) := by decide +kernel
theorem dX12_lots_11 : decode cX12_lots 11 = .ok (.ifCond .ne 16, 3) := by decide +kernel
theorem dX12_lots_14 : decode cX12_lots 14 = .ok (.iload_n 3, 1) := by decide +kernel
theorem dX12_lots_15 : decode cX12_lots 15 = .ok (.iconst 0, 1) := by decide +kernel
theorem dX12_lots_16 : decode cX12_lots 16 = .ok (.iconst 1, 1) := by decide +kernel
theorem dX12_lots_17 : decode cX12_lots 17 = .ok (.invokestatic 86, 3) := by decide +kernel
theorem dX12_lots_20 : decode cX12_lots 20 = .ok (.ifCond .ne 7, 3) := by decide +kernel
theorem dX12_lots_23 : decode cX12_lots 23 = .ok (.bipush (-2), 2) := by decide +kernel
theorem dX12_lots_25 : decode cX12_lots 25 = .ok (.istore 4, 2) := by decide +kernel
theorem dX12_lots_27 : decode cX12_lots 27 = .ok (.iload 4, 2) := by decide +kernel
theorem dX12_lots_29 : decode cX12_lots 29 = .ok (.ifCond .eq 10, 3) := by decide +kernel
theorem dX12_lots_32 : decode cX12_lots 32 = .ok (.aload_n 0, 1) := by decide +kernel
theorem dX12_lots_33 : decode cX12_lots 33 = .ok (.iload 4, 2) := by decide +kernel
theorem dX12_lots_35 : decode cX12_lots 35 = .ok (.invokevirtual 75, 3) := by decide +kernel
theorem dX12_lots_38 : decode cX12_lots 38 = .ok (.ireturn, 1) := by decide +kernel
theorem dX12_lots_39 : decode cX12_lots 39 = .ok (.aload_n 0, 1) := by decide +kernel
theorem dX12_lots_40 : decode cX12_lots 40 = .ok (.getfield 62, 3) := by decide +kernel
theorem dX12_lots_43 : decode cX12_lots 43 = .ok (.ifCond .ne 5, 3) := by decide +kernel
theorem dX12_lots_46 : decode cX12_lots 46 = .ok (.iconst 0, 1) := by decide +kernel
theorem dX12_lots_47 : decode cX12_lots 47 = .ok (.ireturn, 1) := by decide +kernel
theorem dX12_lots_48 : decode cX12_lots 48 = .ok (.iload_n 2, 1) := by decide +kernel
theorem dX12_lots_49 : decode cX12_lots 49 = .ok (.istore 5, 2) := by decide +kernel
theorem dX12_lots_51 : decode cX12_lots 51 = .ok (.iconst 0, 1) := by decide +kernel
theorem dX12_lots_52 : decode cX12_lots 52 = .ok (.istore 6, 2) := by decide +kernel
theorem dX12_lots_54 : decode cX12_lots 54 = .ok (.iconst 0, 1) := by decide +kernel
theorem dX12_lots_55 : decode cX12_lots 55 = .ok (.istore 7, 2) := by decide +kernel
theorem dX12_lots_57 : decode cX12_lots 57 = .ok (.aload_n 0, 1) := by decide +kernel
theorem dX12_lots_58 : decode cX12_lots 58 = .ok (.invokevirtual 199, 3) := by decide +kernel
theorem dX12_lots_61 : decode cX12_lots 61 = .ok (.aload_n 0, 1) := by decide +kernel
theorem dX12_lots_62 : decode cX12_lots 62 = .ok (.bipush 12, 2) := by decide +kernel
theorem dX12_lots_64 : decode cX12_lots 64 = .ok (.putfield 108, 3) := by decide +kernel
theorem dX12_lots_67 : decode cX12_lots 67 = .ok (.iconst 0, 1) := by decide +kernel
theorem dX12_lots_68 : decode cX12_lots 68 = .ok (.istore 8, 2) := by decide +kernel
theorem dX12_lots_70 : decode cX12_lots 70 = .ok (.iload 8, 2) := by decide +kernel
theorem dX12_lots_72 : decode cX12_lots 72 = .ok (.iload_n 1, 1) := by decide +kernel
theorem dX12_lots_73 : decode cX12_lots 73 = .ok (.if_icmp .ge 85, 3) := by decide +kernel
theorem dX12_lots_76 : decode cX12_lots 76 = .ok (.iconst 0, 1) := by decide +kernel
theorem dX12_lots_77 : decode cX12_lots 77 = .ok (.istore 9, 2) := by decide +kernel
theorem dX12_lots_79 : decode cX12_lots 79 = .ok (.iload 9, 2) := by decide +kernel
theorem dX12_lots_81 : decode cX12_lots 81 = .ok (.bipush 12, 2) := by decide +kernel
theorem dX12_lots_83 : decode cX12_lots 83 = .ok (.if_icmp .ge 43, 3) := by decide +kernel
theorem dX12_lots_86 : decode cX12_lots 86 = .ok (.iload 5, 2) := by decide +kernel
theorem dX12_lots_88 : decode cX12_lots 88 = .ok (.ldc_w 288, 3) := by decide +kernel
theorem dX12_lots_91 : decode cX12_lots 91 = .ok (.imul, 1) := by decide +kernel
theorem dX12_lots_92 : decode cX12_lots 92 = .ok (.sipush 12345, 3) := by decide +kernel
theorem dX12_lots_95 : decode cX12_lots 95 = .ok (.iadd, 1) := by decide +kernel
theorem dX12_lots_96 : decode cX12_lots 96 = .ok (.istore 5, 2) := by decide +kernel
theorem dX12_lots_98 : decode cX12_lots 98 = .ok (.aload_n 0, 1) := by decide +kernel
theorem dX12_lots_99 : decode cX12_lots 99 = .ok (.getfield 22, 3) := by decide +kernel
theorem dX12_lots_102 : decode cX12_lots 102 = .ok (.iload 9, 2) := by decide +kernel
theorem dX12_lots_104 : decode cX12_lots 104 = .ok (.iload 5, 2) := by decide +kernel
theorem dX12_lots_106 : decode cX12_lots 106 = .ok (.ldc_w 289, 3) := by decide +kernel
theorem dX12_lots_109 : decode cX12_lots 109 = .ok (.iand, 1) := by decide +kernel
theorem dX12_lots_110 : decode cX12_lots 110 = .ok (.ldc_w 290, 3) := by decide +kernel
theorem dX12_lots_113 : decode cX12_lots 113 = .ok (.idiv, 1) := by decide +kernel
theorem dX12_lots_114 : decode cX12_lots 114 = .ok (.aload_n 0, 1) := by decide +kernel
theorem dX12_lots_115 : decode cX12_lots 115 = .ok (.getfield 62, 3) := by decide +kernel
theorem dX12_lots_118 : decode cX12_lots 118 = .ok (.irem, 1) := by decide +kernel
theorem dX12_lots_119 : decode cX12_lots 119 = .ok (.iastore, 1) := by decide +kernel
theorem dX12_lots_120 : decode cX12_lots 120 = .ok (.iinc 9 1, 3) := by decide +kernel
theorem dX12_lots_123 : decode cX12_lots 123 = .ok (.goto (-44), 3) := by decide +kernel
theorem dX12_lots_126 : decode cX12_lots 126 = .ok (.iload 6, 2) := by decide +kernel
theorem dX12_lots_128 : decode cX12_lots 128 = .ok (.aload_n 0, 1) := by decide +kernel
theorem dX12_lots_129 : decode cX12_lots 129 = .ok (.invokevirtual 173, 3) := by decide +kernel
theorem dX12_lots_132 : decode cX12_lots 132 = .ok (.iadd, 1) := by decide +kernel
theorem dX12_lots_133 : decode cX12_lots 133 = .ok (.istore 6, 2) := by decide +kernel
theorem dX12_lots_135 : decode cX12_lots 135 = .ok (.iload 7, 2) := by decide +kernel
theorem dX12_lots_137 : decode cX12_lots 137 = .ok (.aload_n 0, 1) := by decide +kernel
theorem dX12_lots_138 : decode cX12_lots 138 = .ok (.invokevirtual 173, 3) := by decide +kernel
theorem dX12_lots_141 : decode cX12_lots 141 = .ok (.ifCond .ne 7, 3) := by decide +kernel
theorem dX12_lots_144 : decode cX12_lots 144 = .ok (.iconst 1, 1) := by decide +kernel
theorem dX12_lots_145 : decode cX12_lots 145 = .ok (.goto 4, 3) := by decide +kernel
theorem dX12_lots_148 : decode cX12_lots 148 = .ok (.iconst 0, 1) := by decide +kernel
theorem dX12_lots_149 : decode cX12_lots 149 = .ok (.iadd, 1) := by decide +kernel
theorem dX12_lots_150 : decode cX12_lots 150 = .ok (.istore 7, 2) := by decide +kernel
theorem dX12_lots_152 : decode cX12_lots 152 = .ok (.iinc 8 1, 3) := by decide +kernel
theorem dX12_lots_155 : decode cX12_lots 155 = .ok (.goto (-85), 3) := by decide +kernel
theorem dX12_lots_158 : decode cX12_lots 158 = .ok (.aload_n 0, 1) := by decide +kernel
theorem dX12_lots_159 : decode cX12_lots 159 = .ok (.invokevirtual 205, 3) := by decide +kernel
theorem dX12_lots_162 : decode cX12_lots 162 = .ok (.iload_n 3, 1) := by decide +kernel
theorem dX12_lots_163 : decode cX12_lots 163 = .ok (.ifCond .ne 8, 3) := by decide +kernel
theorem dX12_lots_166 : decode cX12_lots 166 = .ok (.iload 6, 2) := by decide +kernel
theorem dX12_lots_168 : decode cX12_lots 168 = .ok (.goto 5, 3) := by decide +kernel
theorem dX12_lots_171 : decode cX12_lots 171 = .ok (.iload 7, 2) := by decide +kernel
theorem dX12_lots_173 : decode cX12_lots 173 = .ok (.ireturn, 1) := by decide +kernel
set_option maxRecDepth 100000 in
set_option maxHeartbeats 4000000 in
theorem c_X12_lots {l : Launch} {G : Gx} (hap : k_ap G shR.length) (v1 : Int32) (v2 : Int32) (v3 : Int32) (M0 : Mem) (r : Int32 × Mem) (hf : f_X12_lots v1 v2 v3 M0 = some r) : k_Met l yX12_lots cX12_lots 10 (some .int) 5 111 G shR [.ref (G.2.1 0), .int v1, .int v2, .int v3] M0 (k_Qi G shR r.1 r.2) := by
  refine k_Met_of (by decide) hap (Nat.le_of_ble_eq_true rfl) ?_
  intro p e s m args below meth c C hr hlk
  have C : Cx p s m args c cX12_lots RX12 10 G shR := C
  have k_b70 : ∀ (n70 : Nat) (v1 : Int32) (v3 : Int32) (v5 : Int32) (v6 : Int32) (v7 : Int32) (v8 : Int32) (M : Mem), f_X12_lots_b70 n70 v1 v3 v5 v6 v7 v8 M = some r → K p l e (k_rm 5 111) s m args below meth c 10 G shR (MQ below (k_Qi G shR r.1 r.2) args s 0 0 (k_A G shR.length)) 70 [(0, .ref (G.2.1 0)), (1, .int v1), (3, .int v3), (5, .int v5), (6, .int v6), (7, .int v7), (8, .int v8)] [] M := by
    intro n70
    induction n70 with
    | zero => intro v1 v3 v5 v6 v7 v8 M hf; simp [f_X12_lots_b70] at hf
    | succ n70 ih70 =>
      have k_b79 : ∀ (n79 : Nat) (v1 : Int32) (v3 : Int32) (v5 : Int32) (v6 : Int32) (v7 : Int32) (v8 : Int32) (v9 : Int32) (M : Mem), f_X12_lots_b79 (f_X12_lots_b70 n70) n79 v1 v3 v5 v6 v7 v8 v9 M = some r → K p l e (k_rm 5 111) s m args below meth c 10 G shR (MQ below (k_Qi G shR r.1 r.2) args s 0 0 (k_A G shR.length)) 79 [(0, .ref (G.2.1 0)), (1, .int v1), (3, .int v3), (5, .int v5), (6, .int v6), (7, .int v7), (8, .int v8), (9, .int v9)] [] M := by
        intro n79
        induction n79 with
        | zero => intro v1 v3 v5 v6 v7 v8 v9 M hf; simp [f_X12_lots_b79] at hf
        | succ n79 ih79 =>
          intro v1 v3 v5 v6 v7 v8 v9 M hf
          unfold f_X12_lots_b79 at hf
          refine k_iload C dX12_lots_79 7 rfl ?_
          refine k_bipush C dX12_lots_81 (v := (12 : Int32)) rfl ?_
          rcases ite_g hf with ⟨c8, hf⟩ | ⟨c8, hf⟩
          · refine k_icmp_ge_t C dX12_lots_83 (tgt := 126) (by decide) c8 ?_
            refine k_iload C dX12_lots_126 4 rfl ?_
            refine k_aload_n C dX12_lots_128 0 rfl ?_
            obtain ⟨t9, ht9, hf⟩ := bnd hf
            refine k_callVi C (As := []) (c_X12_all hap M t9 ht9) ML_X12_all wd_1502 shR_0 rfl rfl rfl ⟨Nat.le_of_ble_eq_true rfl, Nat.le_of_ble_eq_true rfl⟩ (Nat.le_of_ble_eq_true rfl) dX12_lots_129 ?_
            refine k_iadd C dX12_lots_132 ?_
            refine k_istore C dX12_lots_133 (by decide) [1, 2, 3, 4, 0, 5, 6] (lv' := [(0, .ref (G.2.1 0)), (1, .int v1), (3, .int v3), (5, .int v5), (6, .int (v6 + t9)), (7, .int v7), (8, .int v8)]) rfl ?_
            refine k_iload C dX12_lots_135 5 rfl ?_
            refine k_aload_n C dX12_lots_137 0 rfl ?_
            obtain ⟨t10, ht10, hf⟩ := bnd hf
            refine k_callVi C (As := []) (c_X12_all hap M t10 ht10) ML_X12_all wd_1502 shR_0 rfl rfl rfl ⟨Nat.le_of_ble_eq_true rfl, Nat.le_of_ble_eq_true rfl⟩ (Nat.le_of_ble_eq_true rfl) dX12_lots_138 ?_
            have hj11 : K p l e (k_rm 5 111) s m args below meth c 10 G shR (MQ below (k_Qi G shR r.1 r.2) args s 0 0 (k_A G shR.length)) 149 [(0, .ref (G.2.1 0)), (1, .int v1), (3, .int v3), (5, .int v5), (6, .int (v6 + t9)), (7, .int v7), (8, .int v8)] [.int (if t10 = 0 then (1 : Int32) else (0 : Int32)), .int v7] M := by
              refine k_iadd C dX12_lots_149 ?_
              refine k_istore C dX12_lots_150 (by decide) [1, 2, 3, 4, 5, 0, 6] (lv' := [(0, .ref (G.2.1 0)), (1, .int v1), (3, .int v3), (5, .int v5), (6, .int (v6 + t9)), (7, .int (v7 + (if t10 = 0 then (1 : Int32) else (0 : Int32)))), (8, .int v8)]) rfl ?_
              refine k_iinc C dX12_lots_152 6 rfl (v := (v8 + (1 : Int32))) rfl (by decide) [1, 2, 3, 4, 5, 6, 0] (lv' := [(0, .ref (G.2.1 0)), (1, .int v1), (3, .int v3), (5, .int v5), (6, .int (v6 + t9)), (7, .int (v7 + (if t10 = 0 then (1 : Int32) else (0 : Int32)))), (8, .int (v8 + (1 : Int32)))]) rfl ?_
              refine k_goto C dX12_lots_155 (tgt := 70) (by decide) ?_
              exact ih70 v1 v3 v5 (v6 + t9) (v7 + (if t10 = 0 then (1 : Int32) else (0 : Int32))) (v8 + (1 : Int32)) M hf
            by_cases c12 : t10 = 0
            · refine k_if_ne_f C dX12_lots_141 (tgt := 148) (by decide) c12 ?_
              refine k_iconst C dX12_lots_144 (v := (1 : Int32)) rfl ?_
              refine k_goto C dX12_lots_145 (tgt := 149) (by decide) ?_
              exact k_val (by rw [if_pos c12]) hj11
            · refine k_if_ne_t C dX12_lots_141 (tgt := 148) (by decide) c12 ?_
              refine k_iconst C dX12_lots_148 (v := (0 : Int32)) rfl ?_
              exact k_val (by rw [if_neg c12]) hj11
          · refine k_icmp_ge_f C dX12_lots_83 (tgt := 126) (by decide) c8 ?_
            refine k_iload C dX12_lots_86 3 rfl ?_
            refine k_ldcw C dX12_lots_88 wd_1804 ?_
            refine k_imul C dX12_lots_91 ?_
            refine k_sipush C dX12_lots_92 (v := (12345 : Int32)) rfl ?_
            refine k_iadd C dX12_lots_95 ?_
            refine k_istore C dX12_lots_96 (by decide) [1, 2, 3, 0, 4, 5, 6, 7] (lv' := [(0, .ref (G.2.1 0)), (1, .int v1), (3, .int v3), (5, .int ((v5 * (1103515245 : Int32)) + (12345 : Int32))), (6, .int v6), (7, .int v7), (8, .int v8), (9, .int v9)]) rfl ?_
            refine k_aload_n C dX12_lots_98 0 rfl ?_
            refine k_getr C shR_0 (j := 4) rfl FL_X12_22 dX12_lots_99 ?_
            refine k_iload C dX12_lots_102 7 rfl ?_
            refine k_iload C dX12_lots_104 3 rfl ?_
            refine k_ldcw C dX12_lots_106 wd_1805 ?_
            refine k_iand C dX12_lots_109 ?_
            refine k_ldcw C dX12_lots_110 wd_1806 ?_
            refine k_idiv C dX12_lots_113 (by decide) ?_
            refine k_aload_n C dX12_lots_114 0 rfl ?_
            refine k_geti C shR_0 (j := 5) rfl FL_X12_62 dX12_lots_115 ?_
            obtain ⟨t13, ht13, hf⟩ := bnd hf
            refine k_iremO C dX12_lots_118 ht13 ?_
            obtain ⟨M14, hM14, hf⟩ := bnd hf
            refine k_iast C shR_5 hM14 dX12_lots_119 ?_
            refine k_iinc C dX12_lots_120 7 rfl (v := (v9 + (1 : Int32))) rfl (by decide) [1, 2, 3, 4, 5, 6, 7, 0] (lv' := [(0, .ref (G.2.1 0)), (1, .int v1), (3, .int v3), (5, .int ((v5 * (1103515245 : Int32)) + (12345 : Int32))), (6, .int v6), (7, .int v7), (8, .int v8), (9, .int (v9 + (1 : Int32)))]) rfl ?_
            refine k_goto C dX12_lots_123 (tgt := 79) (by decide) ?_
            exact ih79 v1 v3 ((v5 * (1103515245 : Int32)) + (12345 : Int32)) v6 v7 v8 (v9 + (1 : Int32)) M14 hf
      intro v1 v3 v5 v6 v7 v8 M hf
      unfold f_X12_lots_b70 at hf
      refine k_iload C dX12_lots_70 6 rfl ?_
      refine k_iload_n C dX12_lots_72 1 rfl ?_
      rcases ite_g hf with ⟨c5, hf⟩ | ⟨c5, hf⟩
      · refine k_icmp_ge_t C dX12_lots_73 (tgt := 158) (by decide) c5 ?_
        refine k_aload_n C dX12_lots_158 0 rfl ?_
        obtain ⟨M6, hM6, hf⟩ := bnd hf
        refine k_callVv C (As := []) (c_X12_forgets hap M M6 hM6) ML_X12_forgets wd_1574 shR_0 rfl rfl rfl ⟨Nat.le_of_ble_eq_true rfl, Nat.le_of_ble_eq_true rfl⟩ (Nat.le_of_ble_eq_true rfl) dX12_lots_159 ?_
        refine k_iload_n C dX12_lots_162 2 rfl ?_
        rcases ite_g hf with ⟨c7, hf⟩ | ⟨c7, hf⟩
        · refine k_if_ne_f C dX12_lots_163 (tgt := 171) (by decide) c7 ?_
          refine k_iload C dX12_lots_166 4 rfl ?_
          refine k_goto C dX12_lots_168 (tgt := 173) (by decide) ?_
          exact k_iret C hr hlk (prf hf) (prs hf) dX12_lots_173
        · refine k_if_ne_t C dX12_lots_163 (tgt := 171) (by decide) c7 ?_
          refine k_iload C dX12_lots_171 5 rfl ?_
          exact k_iret C hr hlk (prf hf) (prs hf) dX12_lots_173
      · refine k_icmp_ge_f C dX12_lots_73 (tgt := 158) (by decide) c5 ?_
        refine k_iconst C dX12_lots_76 (v := (0 : Int32)) rfl ?_
        refine k_istore C dX12_lots_77 (by decide) [1, 2, 3, 4, 5, 6, 7, 0] (lv' := [(0, .ref (G.2.1 0)), (1, .int v1), (3, .int v3), (5, .int v5), (6, .int v6), (7, .int v7), (8, .int v8), (9, .int (0 : Int32))]) rfl ?_
        exact k_b79 FU v1 v3 v5 v6 v7 v8 (0 : Int32) M hf
  have k_b27 : ∀ (v1 : Int32) (v2 : Int32) (v3 : Int32) (v4 : Int32) (M : Mem), f_X12_lots_b27 v1 v2 v3 v4 M = some r → K p l e (k_rm 5 111) s m args below meth c 10 G shR (MQ below (k_Qi G shR r.1 r.2) args s 0 0 (k_A G shR.length)) 27 [(0, .ref (G.2.1 0)), (1, .int v1), (2, .int v2), (3, .int v3), (4, .int v4)] [] M := by
    intro v1 v2 v3 v4 M hf
    unfold f_X12_lots_b27 at hf
    refine k_iload C dX12_lots_27 4 rfl ?_
    rcases ite_g hf with ⟨c2, hf⟩ | ⟨c2, hf⟩
    · refine k_if_eq_t C dX12_lots_29 (tgt := 39) (by decide) c2 ?_
      refine k_aload_n C dX12_lots_39 0 rfl ?_
      refine k_geti C shR_0 (j := 5) rfl FL_X12_62 dX12_lots_40 ?_
      rcases ite_g hf with ⟨c3, hf⟩ | ⟨c3, hf⟩
      · refine k_if_ne_f C dX12_lots_43 (tgt := 48) (by decide) c3 ?_
        refine k_iconst C dX12_lots_46 (v := (0 : Int32)) rfl ?_
        exact k_iret C hr hlk (prf hf) (prs hf) dX12_lots_47
      · refine k_if_ne_t C dX12_lots_43 (tgt := 48) (by decide) c3 ?_
        refine k_iload_n C dX12_lots_48 2 rfl ?_
        refine k_istore C dX12_lots_49 (by decide) [1, 2, 4, 0] (lv' := [(0, .ref (G.2.1 0)), (1, .int v1), (3, .int v3), (5, .int v2)]) rfl ?_
        refine k_iconst C dX12_lots_51 (v := (0 : Int32)) rfl ?_
        refine k_istore C dX12_lots_52 (by decide) [1, 2, 3, 4, 0] (lv' := [(0, .ref (G.2.1 0)), (1, .int v1), (3, .int v3), (5, .int v2), (6, .int (0 : Int32))]) rfl ?_
        refine k_iconst C dX12_lots_54 (v := (0 : Int32)) rfl ?_
        refine k_istore C dX12_lots_55 (by decide) [1, 2, 3, 4, 5, 0] (lv' := [(0, .ref (G.2.1 0)), (1, .int v1), (3, .int v3), (5, .int v2), (6, .int (0 : Int32)), (7, .int (0 : Int32))]) rfl ?_
        refine k_aload_n C dX12_lots_57 0 rfl ?_
        obtain ⟨M4, hM4, hf⟩ := bnd hf
        refine k_callVv C (As := []) (c_X12_thinks hap M M4 hM4) ML_X12_thinks wd_1566 shR_0 rfl rfl rfl ⟨Nat.le_of_ble_eq_true rfl, Nat.le_of_ble_eq_true rfl⟩ (Nat.le_of_ble_eq_true rfl) dX12_lots_58 ?_
        refine k_aload_n C dX12_lots_61 0 rfl ?_
        refine k_bipush C dX12_lots_62 (v := (12 : Int32)) rfl ?_
        refine k_put C shR_0 (j := 6) rfl FL_X12_108 FW_X12_6 dX12_lots_64 ?_
        refine k_iconst C dX12_lots_67 (v := (0 : Int32)) rfl ?_
        refine k_istore C dX12_lots_68 (by decide) [1, 2, 3, 4, 5, 6, 0] (lv' := [(0, .ref (G.2.1 0)), (1, .int v1), (3, .int v3), (5, .int v2), (6, .int (0 : Int32)), (7, .int (0 : Int32)), (8, .int (0 : Int32))]) rfl ?_
        exact k_b70 FU v1 v3 v2 (0 : Int32) (0 : Int32) (0 : Int32) (wI M4 0 6 (12 : Int32)) hf
    · refine k_if_eq_f C dX12_lots_29 (tgt := 39) (by decide) c2 ?_
      refine k_aload_n C dX12_lots_32 0 rfl ?_
      refine k_iload C dX12_lots_33 4 rfl ?_
      obtain ⟨⟨t15, M15⟩, ht15, hf⟩ := bnd hf
      replace hf := bp_s hf
      refine k_callVi C (As := [.int v4]) (c_X12_no hap v4 M (t15, M15) ht15) ML_X12_no wd_1369 shR_0 rfl rfl rfl ⟨Nat.le_of_ble_eq_true rfl, Nat.le_of_ble_eq_true rfl⟩ (Nat.le_of_ble_eq_true rfl) dX12_lots_35 ?_
      exact k_iret C hr hlk (prf hf) (prs hf) dX12_lots_38
  unfold f_X12_lots at hf
  refine k_lv (lv' := [(0, .ref (G.2.1 0)), (1, .int v1), (2, .int v2), (3, .int v3)]) [0, 1, 2, 3] rfl ?_
  refine k_iload_n C dX12_lots_0 1 rfl ?_
  refine k_iconst C dX12_lots_1 (v := (1 : Int32)) rfl ?_
  refine k_bipush C dX12_lots_2 (v := (20 : Int32)) rfl ?_
  refine k_callSi C (As := [.int v1, .int (1 : Int32), .int (20 : Int32)]) (c_X12_bound hap v1 (1 : Int32) (20 : Int32) M0 _ rfl) MS_X12_bound wd_1366 rfl rfl ⟨Nat.le_of_ble_eq_true rfl, Nat.le_of_ble_eq_true rfl⟩ (Nat.le_of_ble_eq_true rfl) dX12_lots_4 ?_
  refine k_istore C dX12_lots_7 (by decide) [1, 2, 3, 4, 0] (lv' := [(0, .ref (G.2.1 0)), (1, .int v1), (2, .int v2), (3, .int v3), (4, .int (f_X12_bound v1 (1 : Int32) (20 : Int32)))]) rfl ?_
  refine k_iload C dX12_lots_9 4 rfl ?_
  rcases ite_g hf with ⟨c1, hf⟩ | ⟨c1, hf⟩
  · refine k_if_ne_f C dX12_lots_11 (tgt := 27) (by decide) c1 ?_
    refine k_iload_n C dX12_lots_14 3 rfl ?_
    refine k_iconst C dX12_lots_15 (v := (0 : Int32)) rfl ?_
    refine k_iconst C dX12_lots_16 (v := (1 : Int32)) rfl ?_
    refine k_callSi C (As := [.int v3, .int (0 : Int32), .int (1 : Int32)]) (c_X12_isIn hap v3 (0 : Int32) (1 : Int32) M0 _ rfl) MS_X12_isIn wd_1393 rfl rfl ⟨Nat.le_of_ble_eq_true rfl, Nat.le_of_ble_eq_true rfl⟩ (Nat.le_of_ble_eq_true rfl) dX12_lots_17 ?_
    rcases ite_g hf with ⟨c16, hf⟩ | ⟨c16, hf⟩
    · refine k_if_ne_f C dX12_lots_20 (tgt := 27) (by decide) c16 ?_
      refine k_bipush C dX12_lots_23 (v := (-2 : Int32)) rfl ?_
      refine k_istore C dX12_lots_25 (by decide) [1, 2, 3, 4, 0] (lv' := [(0, .ref (G.2.1 0)), (1, .int v1), (2, .int v2), (3, .int v3), (4, .int (-2 : Int32))]) rfl ?_
      exact k_b27 v1 v2 v3 (-2 : Int32) M0 hf
    · refine k_if_ne_t C dX12_lots_20 (tgt := 27) (by decide) c16 ?_
      exact k_b27 v1 v2 v3 (f_X12_bound v1 (1 : Int32) (20 : Int32)) M0 hf
  · refine k_if_ne_t C dX12_lots_11 (tgt := 27) (by decide) c1 ?_
    exact k_b27 v1 v2 v3 (f_X12_bound v1 (1 : Int32) (20 : Int32)) M0 hf
theorem dX12_count_0 : decode cX12_count 0 = .ok (.iload_n 1, 1) := by decide +kernel
theorem dX12_count_1 : decode cX12_count 1 = .ok (.bipush 11, 2) := by decide +kernel
theorem dX12_count_3 : decode cX12_count 3 = .ok (.bipush 16, 2) := by decide +kernel
theorem dX12_count_5 : decode cX12_count 5 = .ok (.invokestatic 86, 3) := by decide +kernel
theorem dX12_count_8 : decode cX12_count 8 = .ok (.ifCond .eq 13, 3) := by decide +kernel
theorem dX12_count_11 : decode cX12_count 11 = .ok (.aload_n 0, 1) := by decide +kernel
theorem dX12_count_12 : decode cX12_count 12 = .ok (.getfield 7, 3) := by decide +kernel
theorem dX12_count_15 : decode cX12_count 15 = .ok (.iload_n 1, 1) := by decide +kernel
theorem dX12_count_16 : decode cX12_count 16 = .ok (.bipush 10, 2) := by decide +kernel
theorem dX12_count_18 : decode cX12_count 18 = .ok (.isub, 1) := by decide +kernel
theorem dX12_count_19 : decode cX12_count 19 = .ok (.iaload, 1) := by decide +kernel
theorem dX12_count_20 : decode cX12_count 20 = .ok (.ireturn, 1) := by decide +kernel
theorem dX12_count_21 : decode cX12_count 21 = .ok (.iconst 0, 1) := by decide +kernel
theorem dX12_count_22 : decode cX12_count 22 = .ok (.istore_n 2, 1) := by decide +kernel
theorem dX12_count_23 : decode cX12_count 23 = .ok (.iload_n 1, 1) := by decide +kernel
theorem dX12_count_24 : decode cX12_count 24 = .ok (.tableswitch 122 0 8 #[52, 57, 62, 67, 72, 77, 107, 112, 117], 52) := by decide +kernel
theorem dX12_count_76 : decode cX12_count 76 = .ok (.aload_n 0, 1) := by decide +kernel
theorem dX12_count_77 : decode cX12_count 77 = .ok (.getfield 62, 3) := by decide +kernel
theorem dX12_count_80 : decode cX12_count 80 = .ok (.ireturn, 1) := by decide +kernel
theorem dX12_count_81 : decode cX12_count 81 = .ok (.aload_n 0, 1) := by decide +kernel
theorem dX12_count_82 : decode cX12_count 82 = .ok (.getfield 108, 3) := by decide +kernel
theorem dX12_count_85 : decode cX12_count 85 = .ok (.ireturn, 1) := by decide +kernel
theorem dX12_count_86 : decode cX12_count 86 = .ok (.aload_n 0, 1) := by decide +kernel
theorem dX12_count_87 : decode cX12_count 87 = .ok (.getfield 111, 3) := by decide +kernel
theorem dX12_count_90 : decode cX12_count 90 = .ok (.ireturn, 1) := by decide +kernel
theorem dX12_count_91 : decode cX12_count 91 = .ok (.aload_n 0, 1) := by decide +kernel
theorem dX12_count_92 : decode cX12_count 92 = .ok (.getfield 114, 3) := by decide +kernel
theorem dX12_count_95 : decode cX12_count 95 = .ok (.ireturn, 1) := by decide +kernel
theorem dX12_count_96 : decode cX12_count 96 = .ok (.aload_n 0, 1) := by decide +kernel
theorem dX12_count_97 : decode cX12_count 97 = .ok (.invokevirtual 173, 3) := by decide +kernel
theorem dX12_count_100 : decode cX12_count 100 = .ok (.ireturn, 1) := by decide +kernel
theorem dX12_count_101 : decode cX12_count 101 = .ok (.iconst 0, 1) := by decide +kernel
theorem dX12_count_102 : decode cX12_count 102 = .ok (.istore_n 3, 1) := by decide +kernel
theorem dX12_count_103 : decode cX12_count 103 = .ok (.iload_n 3, 1) := by decide +kernel
theorem dX12_count_104 : decode cX12_count 104 = .ok (.aload_n 0, 1) := by decide +kernel
theorem dX12_count_105 : decode cX12_count 105 = .ok (.getfield 62, 3) := by decide +kernel
theorem dX12_count_108 : decode cX12_count 108 = .ok (.if_icmp .ge 21, 3) := by decide +kernel
theorem dX12_count_111 : decode cX12_count 111 = .ok (.iload_n 2, 1) := by decide +kernel
theorem dX12_count_112 : decode cX12_count 112 = .ok (.aload_n 0, 1) := by decide +kernel
theorem dX12_count_113 : decode cX12_count 113 = .ok (.getfield 19, 3) := by decide +kernel
theorem dX12_count_116 : decode cX12_count 116 = .ok (.iload_n 3, 1) := by decide +kernel
theorem dX12_count_117 : decode cX12_count 117 = .ok (.iaload, 1) := by decide +kernel
theorem dX12_count_118 : decode cX12_count 118 = .ok (.invokestatic 151, 3) := by decide +kernel
theorem dX12_count_121 : decode cX12_count 121 = .ok (.iadd, 1) := by decide +kernel
theorem dX12_count_122 : decode cX12_count 122 = .ok (.istore_n 2, 1) := by decide +kernel
theorem dX12_count_123 : decode cX12_count 123 = .ok (.iinc 3 1, 3) := by decide +kernel
theorem dX12_count_126 : decode cX12_count 126 = .ok (.goto (-23), 3) := by decide +kernel
theorem dX12_count_129 : decode cX12_count 129 = .ok (.iload_n 2, 1) := by decide +kernel
theorem dX12_count_130 : decode cX12_count 130 = .ok (.ireturn, 1) := by decide +kernel
theorem dX12_count_131 : decode cX12_count 131 = .ok (.aload_n 0, 1) := by decide +kernel
theorem dX12_count_132 : decode cX12_count 132 = .ok (.getfield 72, 3) := by decide +kernel
theorem dX12_count_135 : decode cX12_count 135 = .ok (.ireturn, 1) := by decide +kernel
theorem dX12_count_136 : decode cX12_count 136 = .ok (.aload_n 0, 1) := by decide +kernel
theorem dX12_count_137 : decode cX12_count 137 = .ok (.getfield 211, 3) := by decide +kernel
theorem dX12_count_140 : decode cX12_count 140 = .ok (.ireturn, 1) := by decide +kernel
theorem dX12_count_141 : decode cX12_count 141 = .ok (.aload_n 0, 1) := by decide +kernel
theorem dX12_count_142 : decode cX12_count 142 = .ok (.getfield 131, 3) := by decide +kernel
theorem dX12_count_145 : decode cX12_count 145 = .ok (.ireturn, 1) := by decide +kernel
theorem dX12_count_146 : decode cX12_count 146 = .ok (.bipush (-9), 2) := by decide +kernel
theorem dX12_count_148 : decode cX12_count 148 = .ok (.ireturn, 1) := by decide +kernel
set_option maxRecDepth 100000 in
set_option maxHeartbeats 4000000 in
theorem c_X12_count {l : Launch} {G : Gx} (hap : k_ap G shR.length) (v1 : Int32) (M0 : Mem) (r : Int32) (hf : f_X12_count v1 M0 = some r) : k_Met l yX12_count cX12_count 4 (some .int) 5 111 G shR [.ref (G.2.1 0), .int v1] M0 (k_Qi G shR r M0) := by
  refine k_Met_of (by decide) hap (Nat.le_of_ble_eq_true rfl) ?_
  intro p e s m args below meth c C hr hlk
  have C : Cx p s m args c cX12_count RX12 4 G shR := C
  have k_b103 : ∀ (n103 : Nat) (v2 : Int32) (v3 : Int32), f_X12_count_b103 M0 n103 v2 v3 = some r → K p l e (k_rm 5 111) s m args below meth c 4 G shR (MQ below (k_Qi G shR r M0) args s 0 0 (k_A G shR.length)) 103 [(0, .ref (G.2.1 0)), (2, .int v2), (3, .int v3)] [] M0 := by
    intro n103
    induction n103 with
    | zero => intro v2 v3 hf; simp [f_X12_count_b103] at hf
    | succ n103 ih103 =>
      intro v2 v3 hf
      unfold f_X12_count_b103 at hf
      refine k_iload_n C dX12_count_103 2 rfl ?_
      refine k_aload_n C dX12_count_104 0 rfl ?_
      refine k_geti C shR_0 (j := 5) rfl FL_X12_62 dX12_count_105 ?_
      rcases ite_g hf with ⟨c9, hf⟩ | ⟨c9, hf⟩
      · refine k_icmp_ge_t C dX12_count_108 (tgt := 129) (by decide) c9 ?_
        refine k_iload_n C dX12_count_129 1 rfl ?_
        exact k_iret C hr hlk (Option.some.inj hf) rfl dX12_count_130
      · refine k_icmp_ge_f C dX12_count_108 (tgt := 129) (by decide) c9 ?_
        refine k_iload_n C dX12_count_111 1 rfl ?_
        refine k_aload_n C dX12_count_112 0 rfl ?_
        refine k_getr C shR_0 (j := 3) rfl FL_X12_19 dX12_count_113 ?_
        refine k_iload_n C dX12_count_116 2 rfl ?_
        obtain ⟨t10, ht10, hf⟩ := bnd hf
        refine k_iald C shR_4 ht10 dX12_count_117 ?_
        obtain ⟨t11, ht11, hf⟩ := bnd hf
        refine k_callSi C (As := [.int t10]) (c_X12_bits hap t10 M0 t11 ht11) MS_X12_bits wd_1463 rfl rfl ⟨Nat.le_of_ble_eq_true rfl, Nat.le_of_ble_eq_true rfl⟩ (Nat.le_of_ble_eq_true rfl) dX12_count_118 ?_
        refine k_iadd C dX12_count_121 ?_
        refine k_istore_n C dX12_count_122 (by decide) [1, 0, 2] (lv' := [(0, .ref (G.2.1 0)), (2, .int (v2 + t11)), (3, .int v3)]) rfl ?_
        refine k_iinc C dX12_count_123 2 rfl (v := (v3 + (1 : Int32))) rfl (by decide) [1, 2, 0] (lv' := [(0, .ref (G.2.1 0)), (2, .int (v2 + t11)), (3, .int (v3 + (1 : Int32)))]) rfl ?_
        refine k_goto C dX12_count_126 (tgt := 103) (by decide) ?_
        exact ih103 (v2 + t11) (v3 + (1 : Int32)) hf
  unfold f_X12_count at hf
  refine k_lv (lv' := [(0, .ref (G.2.1 0)), (1, .int v1)]) [0, 1] rfl ?_
  refine k_iload_n C dX12_count_0 1 rfl ?_
  refine k_bipush C dX12_count_1 (v := (11 : Int32)) rfl ?_
  refine k_bipush C dX12_count_3 (v := (16 : Int32)) rfl ?_
  refine k_callSi C (As := [.int v1, .int (11 : Int32), .int (16 : Int32)]) (c_X12_isIn hap v1 (11 : Int32) (16 : Int32) M0 _ rfl) MS_X12_isIn wd_1393 rfl rfl ⟨Nat.le_of_ble_eq_true rfl, Nat.le_of_ble_eq_true rfl⟩ (Nat.le_of_ble_eq_true rfl) dX12_count_5 ?_
  rcases ite_g hf with ⟨c1, hf⟩ | ⟨c1, hf⟩
  · refine k_if_eq_t C dX12_count_8 (tgt := 21) (by decide) c1 ?_
    refine k_iconst C dX12_count_21 (v := (0 : Int32)) rfl ?_
    refine k_istore_n C dX12_count_22 (by decide) [1, 2, 0] (lv' := [(0, .ref (G.2.1 0)), (1, .int v1), (2, .int (0 : Int32))]) rfl ?_
    refine k_iload_n C dX12_count_23 1 rfl ?_
    rcases ite_g hf with ⟨c2, hf⟩ | ⟨c2, hf⟩
    · refine k_tableIn C (0 : Int32) c2 dX12_count_24 (off := 52) (tgt := 76) (by decide) (by decide) (by decide) (by decide) ?_
      refine k_aload_n C dX12_count_76 0 rfl ?_
      refine k_geti C shR_0 (j := 5) rfl FL_X12_62 dX12_count_77 ?_
      exact k_iret C hr hlk (Option.some.inj hf) rfl dX12_count_80
    · rcases ite_g hf with ⟨c3, hf⟩ | ⟨c3, hf⟩
      · refine k_tableIn C (1 : Int32) c3 dX12_count_24 (off := 57) (tgt := 81) (by decide) (by decide) (by decide) (by decide) ?_
        refine k_aload_n C dX12_count_81 0 rfl ?_
        refine k_geti C shR_0 (j := 6) rfl FL_X12_108 dX12_count_82 ?_
        exact k_iret C hr hlk (Option.some.inj hf) rfl dX12_count_85
      · rcases ite_g hf with ⟨c4, hf⟩ | ⟨c4, hf⟩
        · refine k_tableIn C (2 : Int32) c4 dX12_count_24 (off := 62) (tgt := 86) (by decide) (by decide) (by decide) (by decide) ?_
          refine k_aload_n C dX12_count_86 0 rfl ?_
          refine k_geti C shR_0 (j := 7) rfl FL_X12_111 dX12_count_87 ?_
          exact k_iret C hr hlk (Option.some.inj hf) rfl dX12_count_90
        · rcases ite_g hf with ⟨c5, hf⟩ | ⟨c5, hf⟩
          · refine k_tableIn C (3 : Int32) c5 dX12_count_24 (off := 67) (tgt := 91) (by decide) (by decide) (by decide) (by decide) ?_
            refine k_aload_n C dX12_count_91 0 rfl ?_
            refine k_geti C shR_0 (j := 8) rfl FL_X12_114 dX12_count_92 ?_
            exact k_iret C hr hlk (Option.some.inj hf) rfl dX12_count_95
          · rcases ite_g hf with ⟨c6, hf⟩ | ⟨c6, hf⟩
            · refine k_tableIn C (4 : Int32) c6 dX12_count_24 (off := 72) (tgt := 96) (by decide) (by decide) (by decide) (by decide) ?_
              refine k_aload_n C dX12_count_96 0 rfl ?_
              obtain ⟨t7, ht7, hf⟩ := bnd hf
              refine k_callVi C (As := []) (c_X12_all hap M0 t7 ht7) ML_X12_all wd_1502 shR_0 rfl rfl rfl ⟨Nat.le_of_ble_eq_true rfl, Nat.le_of_ble_eq_true rfl⟩ (Nat.le_of_ble_eq_true rfl) dX12_count_97 ?_
              exact k_iret C hr hlk (Option.some.inj hf) rfl dX12_count_100
            · rcases ite_g hf with ⟨c8, hf⟩ | ⟨c8, hf⟩
              · refine k_tableIn C (5 : Int32) c8 dX12_count_24 (off := 77) (tgt := 101) (by decide) (by decide) (by decide) (by decide) ?_
                refine k_iconst C dX12_count_101 (v := (0 : Int32)) rfl ?_
                refine k_istore_n C dX12_count_102 (by decide) [1, 3, 0] (lv' := [(0, .ref (G.2.1 0)), (2, .int (0 : Int32)), (3, .int (0 : Int32))]) rfl ?_
                exact k_b103 FU (0 : Int32) (0 : Int32) hf
              · rcases ite_g hf with ⟨c12, hf⟩ | ⟨c12, hf⟩
                · refine k_tableIn C (6 : Int32) c12 dX12_count_24 (off := 107) (tgt := 131) (by decide) (by decide) (by decide) (by decide) ?_
                  refine k_aload_n C dX12_count_131 0 rfl ?_
                  refine k_geti C shR_0 (j := 13) rfl FL_X12_72 dX12_count_132 ?_
                  exact k_iret C hr hlk (Option.some.inj hf) rfl dX12_count_135
                · rcases ite_g hf with ⟨c13, hf⟩ | ⟨c13, hf⟩
                  · refine k_tableIn C (7 : Int32) c13 dX12_count_24 (off := 112) (tgt := 136) (by decide) (by decide) (by decide) (by decide) ?_
                    refine k_aload_n C dX12_count_136 0 rfl ?_
                    refine k_geti C shR_0 (j := 24) rfl FL_X12_211 dX12_count_137 ?_
                    exact k_iret C hr hlk (Option.some.inj hf) rfl dX12_count_140
                  · rcases ite_g hf with ⟨c14, hf⟩ | ⟨c14, hf⟩
                    · refine k_tableIn C (8 : Int32) c14 dX12_count_24 (off := 117) (tgt := 141) (by decide) (by decide) (by decide) (by decide) ?_
                      refine k_aload_n C dX12_count_141 0 rfl ?_
                      refine k_geti C shR_0 (j := 20) rfl FL_X12_131 dX12_count_142 ?_
                      exact k_iret C hr hlk (Option.some.inj hf) rfl dX12_count_145
                    · have hqc2 : (v1 : Int32).toInt ≠ 0 := i_ne2 c2 (by decide)
                      have hqc3 : (v1 : Int32).toInt ≠ 1 := i_ne2 c3 (by decide)
                      have hqc4 : (v1 : Int32).toInt ≠ 2 := i_ne2 c4 (by decide)
                      have hqc5 : (v1 : Int32).toInt ≠ 3 := i_ne2 c5 (by decide)
                      have hqc6 : (v1 : Int32).toInt ≠ 4 := i_ne2 c6 (by decide)
                      have hqc8 : (v1 : Int32).toInt ≠ 5 := i_ne2 c8 (by decide)
                      have hqc12 : (v1 : Int32).toInt ≠ 6 := i_ne2 c12 (by decide)
                      have hqc13 : (v1 : Int32).toInt ≠ 7 := i_ne2 c13 (by decide)
                      have hqc14 : (v1 : Int32).toInt ≠ 8 := i_ne2 c14 (by decide)
                      refine k_tableOut C dX12_count_24 (tgt := 146) (by omega) (by decide) ?_
                      refine k_bipush C dX12_count_146 (v := (-9 : Int32)) rfl ?_
                      exact k_iret C hr hlk (Option.some.inj hf) rfl dX12_count_148
  · refine k_if_eq_f C dX12_count_8 (tgt := 21) (by decide) c1 ?_
    refine k_aload_n C dX12_count_11 0 rfl ?_
    refine k_getr C shR_0 (j := 0) rfl FL_X12_7 dX12_count_12 ?_
    refine k_iload_n C dX12_count_15 1 rfl ?_
    refine k_bipush C dX12_count_16 (v := (10 : Int32)) rfl ?_
    refine k_isub C dX12_count_18 ?_
    obtain ⟨t15, ht15, hf⟩ := bnd hf
    refine k_iald C shR_1 ht15 dX12_count_19 ?_
    exact k_iret C hr hlk (Option.some.inj hf) rfl dX12_count_20
